section
variable {p : Program} {l : Launch} {e : Env} {s : State} {m : MethodId} {args : Array Value} {below : List Frame} {meth : Method} {c : Code} {Q : State → Prop} {D : va_G} {cA : ClassId} {ob ad : Nat → Nat} {A : Nat → Prop}
def f_Pt_turn_0   (x1 : Int32) (x2 : Int32) (x3 : Int32) (x4 : Int32) (S : St) : Option (Int64 × St) :=
  bd (f_Pt_x x2 S) (fun q_1 => bd (f_Pt_x x1 q_1.2) (fun q_2 => bn ((Int32.toInt64 q_1.1) - (Int32.toInt64 q_2.1)) (fun x5_3 => bd (f_Pt_y x2 q_2.2) (fun q_4 => bd (f_Pt_y x1 q_4.2) (fun q_5 => bn ((Int32.toInt64 q_4.1) - (Int32.toInt64 q_5.1)) (fun x7_6 => bd (f_Pt_x x1 q_5.2) (fun q_7 => bn ((Int32.toInt64 x3) - (Int32.toInt64 q_7.1)) (fun x9_8 => bd (f_Pt_y x1 q_7.2) (fun q_9 => bn ((Int32.toInt64 x4) - (Int32.toInt64 q_9.1)) (fun x11_10 => some (((x5_3 * x11_10) - (x7_6 * x9_8)), q_9.2)))))))))))
set_option maxHeartbeats 4000000 in
set_option maxRecDepth 100000 in
theorem w_Pt_turn_0 (C0 : CX p s m args c b_Pt_turn 13 R_Pt w_Pt_turn D clC cA A) {res : (Int64 × St)} (hret : RTl p l e rm_Pt_turn s m args below meth c Q D clC A b_Pt_turn 0 0 (fun r w => r = res.1 ∧ w = cw cA ob ad res.2))    : ∀ (x1 : Int32) (x2 : Int32) (x3 : Int32) (x4 : Int32) (S : St) (H : Heap) (locs : List Loc) (ls : Array Slot), va_P D clC (cw cA ob ad S) H → va_D A (cw cA ob ad S) → va_S A s.heap H locs → lv_has ls 13 [(0, .ref (ob 1)), (1, .int x1), (2, .int x2), (3, .int x3), (4, .int x4)] → f_Pt_turn_0   x1 x2 x3 x4 S = some res → W p l e rm_Pt_turn s m args below meth c H locs 0 0 Q (F0 m 0 ls []) := by
  obtain ⟨hx, hb, hml, hown, hts, hK, hA, hN⟩ := id C0
  intro x1 x2 x3 x4 S H locs ls hP hD hS hl hf
  rw [f_Pt_turn_0] at hf
  refine lv_aload_n hx hb d_Pt_turn_0 rfl (lv_at hl 0 rfl) ?_
  refine lv_iload_n hx hb d_Pt_turn_1 rfl (lv_at hl 2 rfl) ?_
  obtain ⟨q_1, hq_1, hf⟩ := bd_some hf
  refine kc_i (va_runV (As := [.int x2]) (rest := []) ⟨hx, hb, hml, hown, hts⟩ (c_Pt_x l D cA ob ad x2  S hq_1 H.size) ⟨callB_of 1 hts (gd_Pt_x) rfl rfl rfl (hts _ (List.mem_cons_of_mem _ wd_64)) (hts _ (List.mem_cons_of_mem _ wd_316)) dd_Pt_x ⟨Nat.le_of_ble_eq_true rfl, Nat.le_of_ble_eq_true rfl⟩, (hts _ (List.mem_cons_of_mem _ wd_317)), (hts _ (List.mem_cons_of_mem _ wd_318))⟩ (kpV hK hP hD hN 1 1 rfl rfl) rfl rfl hl.1 rfl (lv_room (Nat.le_of_ble_eq_true rfl)) d_Pt_turn_2 ⟨Nat.le_of_ble_eq_true rfl, Nat.le_of_ble_eq_true rfl⟩) hP hD hS hA (fun r w H locs hw hP hD hS => ?_)
  obtain ⟨rfl, rfl⟩ := hw
  refine lv_i2l (v := (Int32.toInt64 q_1.1)) hx hb d_Pt_turn_5 rfl ?_
  refine lv_aload_n hx hb d_Pt_turn_6 rfl (lv_at hl 0 rfl) ?_
  refine lv_iload_n hx hb d_Pt_turn_7 rfl (lv_at hl 1 rfl) ?_
  obtain ⟨q_2, hq_2, hf⟩ := bd_some hf
  refine kc_i (va_runV (As := [.int x1]) (rest := [.long (Int32.toInt64 q_1.1)]) ⟨hx, hb, hml, hown, hts⟩ (c_Pt_x l D cA ob ad x1  q_1.2 hq_2 H.size) ⟨callB_of 1 hts (gd_Pt_x) rfl rfl rfl (hts _ (List.mem_cons_of_mem _ wd_64)) (hts _ (List.mem_cons_of_mem _ wd_316)) dd_Pt_x ⟨Nat.le_of_ble_eq_true rfl, Nat.le_of_ble_eq_true rfl⟩, (hts _ (List.mem_cons_of_mem _ wd_317)), (hts _ (List.mem_cons_of_mem _ wd_318))⟩ (kpV hK hP hD hN 1 1 rfl rfl) rfl rfl hl.1 rfl (lv_room (Nat.le_of_ble_eq_true rfl)) d_Pt_turn_8 ⟨Nat.le_of_ble_eq_true rfl, Nat.le_of_ble_eq_true rfl⟩) hP hD hS hA (fun r w H locs hw hP hD hS => ?_)
  obtain ⟨rfl, rfl⟩ := hw
  refine lv_i2l (v := (Int32.toInt64 q_2.1)) hx hb d_Pt_turn_11 rfl ?_
  refine lv_lsub hx hb d_Pt_turn_12 ?_
  obtain ⟨x5_3, ex5_3, hf⟩ := bn_some hf
  refine tpl ex5_3 ?_
  refine lv_lstore (lv' := [(5, .long x5_3), (0, .ref (ob 1)), (1, .int x1), (2, .int x2), (3, .int x3), (4, .int x4)]) hx hb d_Pt_turn_13 hl (by decide) rfl (fun ls hl => ?_)
  refine lv_aload_n hx hb d_Pt_turn_15 rfl (lv_at hl 1 rfl) ?_
  refine lv_iload_n hx hb d_Pt_turn_16 rfl (lv_at hl 3 rfl) ?_
  obtain ⟨q_4, hq_4, hf⟩ := bd_some hf
  refine kc_i (va_runV (As := [.int x2]) (rest := []) ⟨hx, hb, hml, hown, hts⟩ (c_Pt_y l D cA ob ad x2  q_2.2 hq_4 H.size) ⟨callB_of 1 hts (gd_Pt_y) rfl rfl rfl (hts _ (List.mem_cons_of_mem _ wd_64)) (hts _ (List.mem_cons_of_mem _ wd_320)) dd_Pt_y ⟨Nat.le_of_ble_eq_true rfl, Nat.le_of_ble_eq_true rfl⟩, (hts _ (List.mem_cons_of_mem _ wd_321)), (hts _ (List.mem_cons_of_mem _ wd_322))⟩ (kpV hK hP hD hN 1 1 rfl rfl) rfl rfl hl.1 rfl (lv_room (Nat.le_of_ble_eq_true rfl)) d_Pt_turn_17 ⟨Nat.le_of_ble_eq_true rfl, Nat.le_of_ble_eq_true rfl⟩) hP hD hS hA (fun r w H locs hw hP hD hS => ?_)
  obtain ⟨rfl, rfl⟩ := hw
  refine lv_i2l (v := (Int32.toInt64 q_4.1)) hx hb d_Pt_turn_20 rfl ?_
  refine lv_aload_n hx hb d_Pt_turn_21 rfl (lv_at hl 1 rfl) ?_
  refine lv_iload_n hx hb d_Pt_turn_22 rfl (lv_at hl 2 rfl) ?_
  obtain ⟨q_5, hq_5, hf⟩ := bd_some hf
  refine kc_i (va_runV (As := [.int x1]) (rest := [.long (Int32.toInt64 q_4.1)]) ⟨hx, hb, hml, hown, hts⟩ (c_Pt_y l D cA ob ad x1  q_4.2 hq_5 H.size) ⟨callB_of 1 hts (gd_Pt_y) rfl rfl rfl (hts _ (List.mem_cons_of_mem _ wd_64)) (hts _ (List.mem_cons_of_mem _ wd_320)) dd_Pt_y ⟨Nat.le_of_ble_eq_true rfl, Nat.le_of_ble_eq_true rfl⟩, (hts _ (List.mem_cons_of_mem _ wd_321)), (hts _ (List.mem_cons_of_mem _ wd_322))⟩ (kpV hK hP hD hN 1 1 rfl rfl) rfl rfl hl.1 rfl (lv_room (Nat.le_of_ble_eq_true rfl)) d_Pt_turn_23 ⟨Nat.le_of_ble_eq_true rfl, Nat.le_of_ble_eq_true rfl⟩) hP hD hS hA (fun r w H locs hw hP hD hS => ?_)
  obtain ⟨rfl, rfl⟩ := hw
  refine lv_i2l (v := (Int32.toInt64 q_5.1)) hx hb d_Pt_turn_26 rfl ?_
  refine lv_lsub hx hb d_Pt_turn_27 ?_
  obtain ⟨x7_6, ex7_6, hf⟩ := bn_some hf
  refine tpl ex7_6 ?_
  refine lv_lstore (lv' := [(7, .long x7_6), (5, .long x5_3), (0, .ref (ob 1)), (1, .int x1), (2, .int x2), (3, .int x3), (4, .int x4)]) hx hb d_Pt_turn_28 hl (by decide) rfl (fun ls hl => ?_)
  refine lv_iload_n hx hb d_Pt_turn_30 rfl (lv_at hl 5 rfl) ?_
  refine lv_i2l (v := (Int32.toInt64 x3)) hx hb d_Pt_turn_31 rfl ?_
  refine lv_aload_n hx hb d_Pt_turn_32 rfl (lv_at hl 2 rfl) ?_
  refine lv_iload_n hx hb d_Pt_turn_33 rfl (lv_at hl 3 rfl) ?_
  obtain ⟨q_7, hq_7, hf⟩ := bd_some hf
  refine kc_i (va_runV (As := [.int x1]) (rest := [.long (Int32.toInt64 x3)]) ⟨hx, hb, hml, hown, hts⟩ (c_Pt_x l D cA ob ad x1  q_5.2 hq_7 H.size) ⟨callB_of 1 hts (gd_Pt_x) rfl rfl rfl (hts _ (List.mem_cons_of_mem _ wd_64)) (hts _ (List.mem_cons_of_mem _ wd_316)) dd_Pt_x ⟨Nat.le_of_ble_eq_true rfl, Nat.le_of_ble_eq_true rfl⟩, (hts _ (List.mem_cons_of_mem _ wd_317)), (hts _ (List.mem_cons_of_mem _ wd_318))⟩ (kpV hK hP hD hN 1 1 rfl rfl) rfl rfl hl.1 rfl (lv_room (Nat.le_of_ble_eq_true rfl)) d_Pt_turn_34 ⟨Nat.le_of_ble_eq_true rfl, Nat.le_of_ble_eq_true rfl⟩) hP hD hS hA (fun r w H locs hw hP hD hS => ?_)
  obtain ⟨rfl, rfl⟩ := hw
  refine lv_i2l (v := (Int32.toInt64 q_7.1)) hx hb d_Pt_turn_37 rfl ?_
  refine lv_lsub hx hb d_Pt_turn_38 ?_
  obtain ⟨x9_8, ex9_8, hf⟩ := bn_some hf
  refine tpl ex9_8 ?_
  refine lv_lstore (lv' := [(9, .long x9_8), (7, .long x7_6), (5, .long x5_3), (0, .ref (ob 1)), (1, .int x1), (2, .int x2), (3, .int x3), (4, .int x4)]) hx hb d_Pt_turn_39 hl (by decide) rfl (fun ls hl => ?_)
  refine lv_iload hx hb d_Pt_turn_41 (lv_at hl 7 rfl) ?_
  refine lv_i2l (v := (Int32.toInt64 x4)) hx hb d_Pt_turn_43 rfl ?_
  refine lv_aload_n hx hb d_Pt_turn_44 rfl (lv_at hl 3 rfl) ?_
  refine lv_iload_n hx hb d_Pt_turn_45 rfl (lv_at hl 4 rfl) ?_
  obtain ⟨q_9, hq_9, hf⟩ := bd_some hf
  refine kc_i (va_runV (As := [.int x1]) (rest := [.long (Int32.toInt64 x4)]) ⟨hx, hb, hml, hown, hts⟩ (c_Pt_y l D cA ob ad x1  q_7.2 hq_9 H.size) ⟨callB_of 1 hts (gd_Pt_y) rfl rfl rfl (hts _ (List.mem_cons_of_mem _ wd_64)) (hts _ (List.mem_cons_of_mem _ wd_320)) dd_Pt_y ⟨Nat.le_of_ble_eq_true rfl, Nat.le_of_ble_eq_true rfl⟩, (hts _ (List.mem_cons_of_mem _ wd_321)), (hts _ (List.mem_cons_of_mem _ wd_322))⟩ (kpV hK hP hD hN 1 1 rfl rfl) rfl rfl hl.1 rfl (lv_room (Nat.le_of_ble_eq_true rfl)) d_Pt_turn_46 ⟨Nat.le_of_ble_eq_true rfl, Nat.le_of_ble_eq_true rfl⟩) hP hD hS hA (fun r w H locs hw hP hD hS => ?_)
  obtain ⟨rfl, rfl⟩ := hw
  refine lv_i2l (v := (Int32.toInt64 q_9.1)) hx hb d_Pt_turn_49 rfl ?_
  refine lv_lsub hx hb d_Pt_turn_50 ?_
  obtain ⟨x11_10, ex11_10, hf⟩ := bn_some hf
  refine tpl ex11_10 ?_
  refine lv_lstore (lv' := [(11, .long x11_10), (9, .long x9_8), (7, .long x7_6), (5, .long x5_3), (0, .ref (ob 1)), (1, .int x1), (2, .int x2), (3, .int x3), (4, .int x4)]) hx hb d_Pt_turn_51 hl (by decide) rfl (fun ls hl => ?_)
  refine lv_lload hx hb d_Pt_turn_53 (lv_at hl 3 rfl) ?_
  refine lv_lload hx hb d_Pt_turn_55 (lv_at hl 0 rfl) ?_
  refine lv_lmul hx hb d_Pt_turn_57 ?_
  refine lv_lload hx hb d_Pt_turn_58 (lv_at hl 2 rfl) ?_
  refine lv_lload hx hb d_Pt_turn_60 (lv_at hl 1 rfl) ?_
  refine lv_lmul hx hb d_Pt_turn_62 ?_
  refine lv_lsub hx hb d_Pt_turn_63 ?_
  cases hf
  exact hret _ _ _ _ _ _ ⟨rfl, rfl⟩ hP hD hS d_Pt_turn_64
def f_Pt_turn (x1 : Int32) (x2 : Int32) (x3 : Int32) (x4 : Int32) (S : St) : Option (Int64 × St) := f_Pt_turn_0  x1 x2 x3 x4 S
theorem c_Pt_turn (l : Launch) (D : va_G) (cA : ClassId) (ob ad : Nat → Nat) (x1 : Int32) (x2 : Int32) (x3 : Int32) (x4 : Int32)  (S : St) {res : (Int64 × St)} (hf : f_Pt_turn x1 x2 x3 x4 S = some res) : CTl l y_Pt_turn w_Pt_turn rm_Pt_turn 0 0 D clC [(cA, .int)] [.ref (ob 1), .int x1, .int x2, .int x3, .int x4] (cw cA ob ad S) (fun r w => r = res.1 ∧ w = cw cA ob ad res.2) :=
  mk_l (cc := b_Pt_turn) (maxL := 13) (own := R_Pt) (by decide) rfl rfl (Nat.le_of_ble_eq_true rfl) (fun p e s m below meth c A Q C0 hret ls hl hP hD hS => w_Pt_turn_0 C0 hret   x1 x2 x3 x4 S _ _ ls hP hD hS (lv_sub hl [0, 1, 2, 3, 4] rfl) hf)
def f_Nt_makeRows_0    (S : St) : Option St :=
  bn ((2 * (gi S 2)) + 2) (fun x1_1 => as_ (alen (3 * x1_1) 6150) (bn (newa S 9 (Int32.toNatClampNeg (3 * x1_1))) (fun S_3 => as_ (alen (3 * x1_1) 6150) (bn (newa S_3 10 (Int32.toNatClampNeg (3 * x1_1))) (fun S_5 => as_ (alen ((gi S_5 2) + 1) 1025) (bn (newa S_5 11 (Int32.toNatClampNeg ((gi S_5 2) + 1))) (fun S_7 => as_ (alen x1_1 2050) (bn (newa S_7 12 (Int32.toNatClampNeg x1_1)) (fun S_9 => as_ (alen x1_1 2050) (bn (newa S_9 13 (Int32.toNatClampNeg x1_1)) (fun S_11 => as_ (alen x1_1 2050) (bn (newa S_11 14 (Int32.toNatClampNeg x1_1)) (fun S_13 => some S_13)))))))))))))
set_option maxHeartbeats 4000000 in
set_option maxRecDepth 100000 in
theorem w_Nt_makeRows_0 (C0 : CX p s m args c b_Nt_makeRows 2 R_Nt w_Nt_makeRows D clC cA A) {res : St} (hret : RTv p l e rm_Nt_makeRows s m args below meth c Q D clC A b_Nt_makeRows 6 19475 (fun w => ∃ ad, w = cw cA ob ad res))    : ∀  (S : St) (ad : Nat → Nat) (H : Heap) (locs : List Loc) (ls : Array Slot), va_P D clC (cw cA ob ad S) H → va_D A (cw cA ob ad S) → va_S A s.heap H locs → lv_has ls 2 [(0, .ref (ob 3))] → f_Nt_makeRows_0    S = some res → W p l e rm_Nt_makeRows s m args below meth c H locs 0 0 Q (F0 m 0 ls []) := by
  obtain ⟨hx, hb, hml, hown, hts, hK, hA, hN⟩ := id C0
  intro  S ad H locs ls hP hD hS hl hf
  rw [f_Nt_makeRows_0] at hf
  refine lv_iconst (v := 2) hx hb d_Nt_makeRows_0 (by decide) ?_
  refine lv_aload_n hx hb d_Nt_makeRows_1 rfl (lv_at hl 0 rfl) ?_
  refine va_get (D := D) (ci := 3) (v := .ref (ob 1)) (C := R_Nt) (T := F_Nt) (N := 13) hx hb hts (fun w h => List.mem_cons_of_mem _ (in_Nt w h)) hown hK hP 3 rfl rfl 0 (by decide) (hts _ (List.mem_cons_of_mem _ wd_140)) (fun _ h9 => h9) rfl d_Nt_makeRows_2 ?_
  refine va_get (D := D) (ci := 1) (v := .int (gi S 2)) (C := R_Pt) (T := F_Pt) (N := 5) hx hb hts (fun w h => List.mem_cons_of_mem _ (in_Pt w h)) hown hK hP 1 rfl rfl 0 (by decide) (hts _ (List.mem_cons_of_mem _ wd_113)) (fun _ h9 => h9) rfl d_Nt_makeRows_5 ?_
  refine lv_imul hx hb d_Nt_makeRows_8 ?_
  refine lv_iconst (v := 2) hx hb d_Nt_makeRows_9 (by decide) ?_
  refine lv_iadd hx hb d_Nt_makeRows_10 ?_
  obtain ⟨x1_1, ex1_1, hf⟩ := bn_some hf
  refine tpi ex1_1 ?_
  refine lv_istore_n (lv' := [(1, .int x1_1), (0, .ref (ob 3))]) hx hb d_Nt_makeRows_11 rfl hl (by decide) rfl (fun ls hl => ?_)
  refine lv_aload_n hx hb d_Nt_makeRows_12 rfl (lv_at hl 1 rfl) ?_
  refine lv_iconst (v := 3) hx hb d_Nt_makeRows_13 (by decide) ?_
  refine lv_iload_n hx hb d_Nt_makeRows_14 rfl (lv_at hl 0 rfl) ?_
  refine lv_imul hx hb d_Nt_makeRows_15 ?_
  obtain ⟨hn_2, hf⟩ := as_some hf
  obtain ⟨S_3, eS_3, hf⟩ := bn_some hf
  refine va_newa (atype := .int) (ty := .int) (N' := Int32.toNatClampNeg (3 * x1_1)) (a0 := (Int32.toNatClampNeg (3 * x1_1), .inl (fun _ => 0))) hx hb (hts _ (List.mem_cons_of_mem _ wd_111)) rfl hK hP hD hS hA (fun _ => rfl) (alen_nn hn_2) rfl (alen_by hn_2 (by decide)) (show 1 ≤ rm_Nt_makeRows.cells by decide +kernel) (Nat.le_trans (Nat.add_le_add_left (alen_le hn_2) _) (show 0 + 6150 ≤ rm_Nt_makeRows.slots by decide +kernel)) d_Nt_makeRows_16 (fun q cB H hK1 hP hD hS => ?_)
  obtain rfl : cA = cB := (kA_eq hK1).symm
  refine W.widen (k := 1) (n := 6150) (Nat.le_refl _) (Nat.add_le_add_left (alen_le hn_2) _) ?_
  refine va_put (D := D) (ci := 3) (v := .ref q) (ty := (.array .int)) (C := R_Nt) (T := F_Nt) (N := 13) hx hb hts (fun w h => List.mem_cons_of_mem _ (in_Nt w h)) t_Nt tk_Nt nk_Nt hown hK hP hD hS 3 rfl rfl 2 (by decide) (hts _ (List.mem_cons_of_mem _ wd_142)) (fun _ h9 => h9) rfl (by decide +kernel) rfl rfl (Nat.le_of_ble_eq_true rfl) d_Nt_makeRows_18 (fun H locs hP hD hS => ?_)
  have hP : va_P D clC (cw cA ob (up1 ad 9 q) S_3) H := by rw [eS_3]; exact hP.sub [0, 1, 2, 3, 4, 5, 6, 7, 8, 19, 10, 11, 12, 13, 14, 15, 16, 17, 18] rfl
  have hD : va_D A (cw cA ob (up1 ad 9 q) S_3) := by rw [eS_3]; exact hD.sub [0, 1, 2, 3, 4, 5, 6, 7, 8, 19, 10, 11, 12, 13, 14, 15, 16, 17, 18] (by decide) rfl
  revert hP hD
  generalize up1 ad 9 q = ad
  intro hP hD
  refine lv_aload_n hx hb d_Nt_makeRows_21 rfl (lv_at hl 1 rfl) ?_
  refine lv_iconst (v := 3) hx hb d_Nt_makeRows_22 (by decide) ?_
  refine lv_iload_n hx hb d_Nt_makeRows_23 rfl (lv_at hl 0 rfl) ?_
  refine lv_imul hx hb d_Nt_makeRows_24 ?_
  obtain ⟨hn_4, hf⟩ := as_some hf
  obtain ⟨S_5, eS_5, hf⟩ := bn_some hf
  refine va_newa (atype := .int) (ty := .int) (N' := Int32.toNatClampNeg (3 * x1_1)) (a0 := (Int32.toNatClampNeg (3 * x1_1), .inl (fun _ => 0))) hx hb (hts _ (List.mem_cons_of_mem _ wd_111)) rfl hK hP hD hS hA (fun _ => rfl) (alen_nn hn_4) rfl (alen_by hn_4 (by decide)) (show 2 ≤ rm_Nt_makeRows.cells by decide +kernel) (Nat.le_trans (Nat.add_le_add_left (alen_le hn_4) _) (show 6150 + 6150 ≤ rm_Nt_makeRows.slots by decide +kernel)) d_Nt_makeRows_25 (fun q cB H hK1 hP hD hS => ?_)
  obtain rfl : cA = cB := (kA_eq hK1).symm
  refine W.widen (k := 2) (n := 12300) (Nat.le_refl _) (Nat.add_le_add_left (alen_le hn_4) _) ?_
  refine va_put (D := D) (ci := 3) (v := .ref q) (ty := (.array .int)) (C := R_Nt) (T := F_Nt) (N := 13) hx hb hts (fun w h => List.mem_cons_of_mem _ (in_Nt w h)) t_Nt tk_Nt nk_Nt hown hK hP hD hS 3 rfl rfl 3 (by decide) (hts _ (List.mem_cons_of_mem _ wd_143)) (fun _ h9 => h9) rfl (by decide +kernel) rfl rfl (Nat.le_of_ble_eq_true rfl) d_Nt_makeRows_27 (fun H locs hP hD hS => ?_)
  have hP : va_P D clC (cw cA ob (up1 ad 10 q) S_5) H := by rw [eS_5]; exact hP.sub [0, 1, 2, 3, 4, 5, 6, 7, 8, 9, 19, 11, 12, 13, 14, 15, 16, 17, 18] rfl
  have hD : va_D A (cw cA ob (up1 ad 10 q) S_5) := by rw [eS_5]; exact hD.sub [0, 1, 2, 3, 4, 5, 6, 7, 8, 9, 19, 11, 12, 13, 14, 15, 16, 17, 18] (by decide) rfl
  revert hP hD
  generalize up1 ad 10 q = ad
  intro hP hD
  refine lv_aload_n hx hb d_Nt_makeRows_30 rfl (lv_at hl 1 rfl) ?_
  refine lv_aload_n hx hb d_Nt_makeRows_31 rfl (lv_at hl 1 rfl) ?_
  refine va_get (D := D) (ci := 3) (v := .ref (ob 1)) (C := R_Nt) (T := F_Nt) (N := 13) hx hb hts (fun w h => List.mem_cons_of_mem _ (in_Nt w h)) hown hK hP 3 rfl rfl 0 (by decide) (hts _ (List.mem_cons_of_mem _ wd_140)) (fun _ h9 => h9) rfl d_Nt_makeRows_32 ?_
  refine va_get (D := D) (ci := 1) (v := .int (gi S_5 2)) (C := R_Pt) (T := F_Pt) (N := 5) hx hb hts (fun w h => List.mem_cons_of_mem _ (in_Pt w h)) hown hK hP 1 rfl rfl 0 (by decide) (hts _ (List.mem_cons_of_mem _ wd_113)) (fun _ h9 => h9) rfl d_Nt_makeRows_35 ?_
  refine lv_iconst (v := 1) hx hb d_Nt_makeRows_38 (by decide) ?_
  refine lv_iadd hx hb d_Nt_makeRows_39 ?_
  obtain ⟨hn_6, hf⟩ := as_some hf
  obtain ⟨S_7, eS_7, hf⟩ := bn_some hf
  refine va_newa (atype := .int) (ty := .int) (N' := Int32.toNatClampNeg ((gi S_5 2) + 1)) (a0 := (Int32.toNatClampNeg ((gi S_5 2) + 1), .inl (fun _ => 0))) hx hb (hts _ (List.mem_cons_of_mem _ wd_111)) rfl hK hP hD hS hA (fun _ => rfl) (alen_nn hn_6) rfl (alen_by hn_6 (by decide)) (show 3 ≤ rm_Nt_makeRows.cells by decide +kernel) (Nat.le_trans (Nat.add_le_add_left (alen_le hn_6) _) (show 12300 + 1025 ≤ rm_Nt_makeRows.slots by decide +kernel)) d_Nt_makeRows_40 (fun q cB H hK1 hP hD hS => ?_)
  obtain rfl : cA = cB := (kA_eq hK1).symm
  refine W.widen (k := 3) (n := 13325) (Nat.le_refl _) (Nat.add_le_add_left (alen_le hn_6) _) ?_
  refine va_put (D := D) (ci := 3) (v := .ref q) (ty := (.array .int)) (C := R_Nt) (T := F_Nt) (N := 13) hx hb hts (fun w h => List.mem_cons_of_mem _ (in_Nt w h)) t_Nt tk_Nt nk_Nt hown hK hP hD hS 3 rfl rfl 4 (by decide) (hts _ (List.mem_cons_of_mem _ wd_144)) (fun _ h9 => h9) rfl (by decide +kernel) rfl rfl (Nat.le_of_ble_eq_true rfl) d_Nt_makeRows_42 (fun H locs hP hD hS => ?_)
  have hP : va_P D clC (cw cA ob (up1 ad 11 q) S_7) H := by rw [eS_7]; exact hP.sub [0, 1, 2, 3, 4, 5, 6, 7, 8, 9, 10, 19, 12, 13, 14, 15, 16, 17, 18] rfl
  have hD : va_D A (cw cA ob (up1 ad 11 q) S_7) := by rw [eS_7]; exact hD.sub [0, 1, 2, 3, 4, 5, 6, 7, 8, 9, 10, 19, 12, 13, 14, 15, 16, 17, 18] (by decide) rfl
  revert hP hD
  generalize up1 ad 11 q = ad
  intro hP hD
  refine lv_aload_n hx hb d_Nt_makeRows_45 rfl (lv_at hl 1 rfl) ?_
  refine lv_iload_n hx hb d_Nt_makeRows_46 rfl (lv_at hl 0 rfl) ?_
  obtain ⟨hn_8, hf⟩ := as_some hf
  obtain ⟨S_9, eS_9, hf⟩ := bn_some hf
  refine va_newa (atype := .int) (ty := .int) (N' := Int32.toNatClampNeg x1_1) (a0 := (Int32.toNatClampNeg x1_1, .inl (fun _ => 0))) hx hb (hts _ (List.mem_cons_of_mem _ wd_111)) rfl hK hP hD hS hA (fun _ => rfl) (alen_nn hn_8) rfl (alen_by hn_8 (by decide)) (show 4 ≤ rm_Nt_makeRows.cells by decide +kernel) (Nat.le_trans (Nat.add_le_add_left (alen_le hn_8) _) (show 13325 + 2050 ≤ rm_Nt_makeRows.slots by decide +kernel)) d_Nt_makeRows_47 (fun q cB H hK1 hP hD hS => ?_)
  obtain rfl : cA = cB := (kA_eq hK1).symm
  refine W.widen (k := 4) (n := 15375) (Nat.le_refl _) (Nat.add_le_add_left (alen_le hn_8) _) ?_
  refine va_put (D := D) (ci := 3) (v := .ref q) (ty := (.array .int)) (C := R_Nt) (T := F_Nt) (N := 13) hx hb hts (fun w h => List.mem_cons_of_mem _ (in_Nt w h)) t_Nt tk_Nt nk_Nt hown hK hP hD hS 3 rfl rfl 5 (by decide) (hts _ (List.mem_cons_of_mem _ wd_145)) (fun _ h9 => h9) rfl (by decide +kernel) rfl rfl (Nat.le_of_ble_eq_true rfl) d_Nt_makeRows_49 (fun H locs hP hD hS => ?_)
  have hP : va_P D clC (cw cA ob (up1 ad 12 q) S_9) H := by rw [eS_9]; exact hP.sub [0, 1, 2, 3, 4, 5, 6, 7, 8, 9, 10, 11, 19, 13, 14, 15, 16, 17, 18] rfl
  have hD : va_D A (cw cA ob (up1 ad 12 q) S_9) := by rw [eS_9]; exact hD.sub [0, 1, 2, 3, 4, 5, 6, 7, 8, 9, 10, 11, 19, 13, 14, 15, 16, 17, 18] (by decide) rfl
  revert hP hD
  generalize up1 ad 12 q = ad
  intro hP hD
  refine lv_aload_n hx hb d_Nt_makeRows_52 rfl (lv_at hl 1 rfl) ?_
  refine lv_iload_n hx hb d_Nt_makeRows_53 rfl (lv_at hl 0 rfl) ?_
  obtain ⟨hn_10, hf⟩ := as_some hf
  obtain ⟨S_11, eS_11, hf⟩ := bn_some hf
  refine va_newa (atype := .int) (ty := .int) (N' := Int32.toNatClampNeg x1_1) (a0 := (Int32.toNatClampNeg x1_1, .inl (fun _ => 0))) hx hb (hts _ (List.mem_cons_of_mem _ wd_111)) rfl hK hP hD hS hA (fun _ => rfl) (alen_nn hn_10) rfl (alen_by hn_10 (by decide)) (show 5 ≤ rm_Nt_makeRows.cells by decide +kernel) (Nat.le_trans (Nat.add_le_add_left (alen_le hn_10) _) (show 15375 + 2050 ≤ rm_Nt_makeRows.slots by decide +kernel)) d_Nt_makeRows_54 (fun q cB H hK1 hP hD hS => ?_)
  obtain rfl : cA = cB := (kA_eq hK1).symm
  refine W.widen (k := 5) (n := 17425) (Nat.le_refl _) (Nat.add_le_add_left (alen_le hn_10) _) ?_
  refine va_put (D := D) (ci := 3) (v := .ref q) (ty := (.array .int)) (C := R_Nt) (T := F_Nt) (N := 13) hx hb hts (fun w h => List.mem_cons_of_mem _ (in_Nt w h)) t_Nt tk_Nt nk_Nt hown hK hP hD hS 3 rfl rfl 6 (by decide) (hts _ (List.mem_cons_of_mem _ wd_146)) (fun _ h9 => h9) rfl (by decide +kernel) rfl rfl (Nat.le_of_ble_eq_true rfl) d_Nt_makeRows_56 (fun H locs hP hD hS => ?_)
  have hP : va_P D clC (cw cA ob (up1 ad 13 q) S_11) H := by rw [eS_11]; exact hP.sub [0, 1, 2, 3, 4, 5, 6, 7, 8, 9, 10, 11, 12, 19, 14, 15, 16, 17, 18] rfl
  have hD : va_D A (cw cA ob (up1 ad 13 q) S_11) := by rw [eS_11]; exact hD.sub [0, 1, 2, 3, 4, 5, 6, 7, 8, 9, 10, 11, 12, 19, 14, 15, 16, 17, 18] (by decide) rfl
  revert hP hD
  generalize up1 ad 13 q = ad
  intro hP hD
  refine lv_aload_n hx hb d_Nt_makeRows_59 rfl (lv_at hl 1 rfl) ?_
  refine lv_iload_n hx hb d_Nt_makeRows_60 rfl (lv_at hl 0 rfl) ?_
  obtain ⟨hn_12, hf⟩ := as_some hf
  obtain ⟨S_13, eS_13, hf⟩ := bn_some hf
  refine va_newa (atype := .int) (ty := .int) (N' := Int32.toNatClampNeg x1_1) (a0 := (Int32.toNatClampNeg x1_1, .inl (fun _ => 0))) hx hb (hts _ (List.mem_cons_of_mem _ wd_111)) rfl hK hP hD hS hA (fun _ => rfl) (alen_nn hn_12) rfl (alen_by hn_12 (by decide)) (show 6 ≤ rm_Nt_makeRows.cells by decide +kernel) (Nat.le_trans (Nat.add_le_add_left (alen_le hn_12) _) (show 17425 + 2050 ≤ rm_Nt_makeRows.slots by decide +kernel)) d_Nt_makeRows_61 (fun q cB H hK1 hP hD hS => ?_)
  obtain rfl : cA = cB := (kA_eq hK1).symm
  refine W.widen (k := 6) (n := 19475) (Nat.le_refl _) (Nat.add_le_add_left (alen_le hn_12) _) ?_
  refine va_put (D := D) (ci := 3) (v := .ref q) (ty := (.array .int)) (C := R_Nt) (T := F_Nt) (N := 13) hx hb hts (fun w h => List.mem_cons_of_mem _ (in_Nt w h)) t_Nt tk_Nt nk_Nt hown hK hP hD hS 3 rfl rfl 7 (by decide) (hts _ (List.mem_cons_of_mem _ wd_147)) (fun _ h9 => h9) rfl (by decide +kernel) rfl rfl (Nat.le_of_ble_eq_true rfl) d_Nt_makeRows_63 (fun H locs hP hD hS => ?_)
  have hP : va_P D clC (cw cA ob (up1 ad 14 q) S_13) H := by rw [eS_13]; exact hP.sub [0, 1, 2, 3, 4, 5, 6, 7, 8, 9, 10, 11, 12, 13, 19, 15, 16, 17, 18] rfl
  have hD : va_D A (cw cA ob (up1 ad 14 q) S_13) := by rw [eS_13]; exact hD.sub [0, 1, 2, 3, 4, 5, 6, 7, 8, 9, 10, 11, 12, 13, 19, 15, 16, 17, 18] (by decide) rfl
  revert hP hD
  generalize up1 ad 14 q = ad
  intro hP hD
  cases hf
  exact hret _ _ _ _ _ ⟨ad, rfl⟩ hP hD hS d_Nt_makeRows_66
def f_Nt_makeRows  (S : St) : Option St := f_Nt_makeRows_0   S
theorem c_Nt_makeRows (l : Launch) (D : va_G) (cA : ClassId) (ob ad : Nat → Nat)   (S : St) {res : St} (hf : f_Nt_makeRows  S = some res) : CTv l y_Nt_makeRows w_Nt_makeRows rm_Nt_makeRows 6 19475 D clC [(cA, .int)] [.ref (ob 3)] (cw cA ob ad S) (fun w => ∃ ad, w = cw cA ob ad res) :=
  mk_v (cc := b_Nt_makeRows) (maxL := 2) (own := R_Nt) (by decide) rfl rfl (Nat.le_of_ble_eq_true rfl) (fun p e s m below meth c A Q C0 hret ls hl hP hD hS => w_Nt_makeRows_0 C0 hret    S ad _ _ ls hP hD hS (lv_sub hl [0] rfl) hf)
def f_Nt_setTriangle_0   (x1 : Int32) (x2 : Int32) (x3 : Int32) (x4 : Int32) (S : St) : Option St :=
  bn (3 * x1) (fun x5_1 => bd (f_Pn_write 9 x5_1 x2 S) (fun q_2 => bd (f_Pn_write 9 (x5_1 + 1) x3 q_2) (fun q_3 => bd (f_Pn_write 9 (x5_1 + 2) x4 q_3) (fun q_4 => bd (f_Pn_write 11 x2 x5_1 q_4) (fun q_5 => bd (f_Pn_write 11 x4 (x5_1 + 2) q_5) (fun q_6 => some q_6))))))
set_option maxHeartbeats 4000000 in
set_option maxRecDepth 100000 in
theorem w_Nt_setTriangle_0 (C0 : CX p s m args c b_Nt_setTriangle 6 R_Nt w_Nt_setTriangle D clC cA A) {res : St} (hret : RTv p l e rm_Nt_setTriangle s m args below meth c Q D clC A b_Nt_setTriangle 0 0 (fun w => w = cw cA ob ad res))    : ∀ (x1 : Int32) (x2 : Int32) (x3 : Int32) (x4 : Int32) (S : St) (H : Heap) (locs : List Loc) (ls : Array Slot), va_P D clC (cw cA ob ad S) H → va_D A (cw cA ob ad S) → va_S A s.heap H locs → lv_has ls 6 [(0, .ref (ob 3)), (1, .int x1), (2, .int x2), (3, .int x3), (4, .int x4)] → f_Nt_setTriangle_0   x1 x2 x3 x4 S = some res → W p l e rm_Nt_setTriangle s m args below meth c H locs 0 0 Q (F0 m 0 ls []) := by
  obtain ⟨hx, hb, hml, hown, hts, hK, hA, hN⟩ := id C0
  intro x1 x2 x3 x4 S H locs ls hP hD hS hl hf
  rw [f_Nt_setTriangle_0] at hf
  refine lv_iconst (v := 3) hx hb d_Nt_setTriangle_0 (by decide) ?_
  refine lv_iload_n hx hb d_Nt_setTriangle_1 rfl (lv_at hl 1 rfl) ?_
  refine lv_imul hx hb d_Nt_setTriangle_2 ?_
  obtain ⟨x5_1, ex5_1, hf⟩ := bn_some hf
  refine tpi ex5_1 ?_
  refine lv_istore (lv' := [(5, .int x5_1), (0, .ref (ob 3)), (1, .int x1), (2, .int x2), (3, .int x3), (4, .int x4)]) hx hb d_Nt_setTriangle_3 hl (by decide) rfl (fun ls hl => ?_)
  refine lv_aload_n hx hb d_Nt_setTriangle_5 rfl (lv_at hl 1 rfl) ?_
  refine va_get (D := D) (ci := 3) (v := .ref (ad 9)) (C := R_Nt) (T := F_Nt) (N := 13) hx hb hts (fun w h => List.mem_cons_of_mem _ (in_Nt w h)) hown hK hP 3 rfl rfl 2 (by decide) (hts _ (List.mem_cons_of_mem _ wd_142)) (fun _ h9 => h9) rfl d_Nt_setTriangle_6 ?_
  refine lv_iload hx hb d_Nt_setTriangle_9 (lv_at hl 0 rfl) ?_
  refine lv_iload_n hx hb d_Nt_setTriangle_11 rfl (lv_at hl 3 rfl) ?_
  obtain ⟨q_2, hq_2, hf⟩ := bd_some hf
  refine kc_v (va_runSN (As := [.ref (ad 9), .int x5_1, .int x2]) (rest := []) ⟨hx, hb, hml, hown, hts⟩ (c_Pn_write l D cA ob ad 9 x5_1 x2 (by decide) S hq_2 H.size) ⟨va_cnB 3 hts (gd_Pn_write) rfl rfl rfl (nw_3 hN) (hts _ (List.mem_cons_of_mem _ wd_63)) dd_Pn_write ⟨Nat.le_of_ble_eq_true rfl, Nat.le_of_ble_eq_true rfl⟩, (hts _ (List.mem_cons_of_mem _ wd_342)), trivial⟩ (kpS hK hP hD hN) rfl rfl hl.1 rfl (lv_room (Nat.le_of_ble_eq_true rfl)) d_Nt_setTriangle_12 ⟨Nat.le_of_ble_eq_true rfl, Nat.le_of_ble_eq_true rfl⟩) hP hD hS hA (fun w H locs hw hP hD hS => ?_)
  obtain rfl := hw
  refine lv_aload_n hx hb d_Nt_setTriangle_15 rfl (lv_at hl 1 rfl) ?_
  refine va_get (D := D) (ci := 3) (v := .ref (ad 9)) (C := R_Nt) (T := F_Nt) (N := 13) hx hb hts (fun w h => List.mem_cons_of_mem _ (in_Nt w h)) hown hK hP 3 rfl rfl 2 (by decide) (hts _ (List.mem_cons_of_mem _ wd_142)) (fun _ h9 => h9) rfl d_Nt_setTriangle_16 ?_
  refine lv_iload hx hb d_Nt_setTriangle_19 (lv_at hl 0 rfl) ?_
  refine lv_iconst (v := 1) hx hb d_Nt_setTriangle_21 (by decide) ?_
  refine lv_iadd hx hb d_Nt_setTriangle_22 ?_
  refine lv_iload_n hx hb d_Nt_setTriangle_23 rfl (lv_at hl 4 rfl) ?_
  obtain ⟨q_3, hq_3, hf⟩ := bd_some hf
  refine kc_v (va_runSN (As := [.ref (ad 9), .int (x5_1 + 1), .int x3]) (rest := []) ⟨hx, hb, hml, hown, hts⟩ (c_Pn_write l D cA ob ad 9 (x5_1 + 1) x3 (by decide) q_2 hq_3 H.size) ⟨va_cnB 3 hts (gd_Pn_write) rfl rfl rfl (nw_3 hN) (hts _ (List.mem_cons_of_mem _ wd_63)) dd_Pn_write ⟨Nat.le_of_ble_eq_true rfl, Nat.le_of_ble_eq_true rfl⟩, (hts _ (List.mem_cons_of_mem _ wd_342)), trivial⟩ (kpS hK hP hD hN) rfl rfl hl.1 rfl (lv_room (Nat.le_of_ble_eq_true rfl)) d_Nt_setTriangle_24 ⟨Nat.le_of_ble_eq_true rfl, Nat.le_of_ble_eq_true rfl⟩) hP hD hS hA (fun w H locs hw hP hD hS => ?_)
  obtain rfl := hw
  refine lv_aload_n hx hb d_Nt_setTriangle_27 rfl (lv_at hl 1 rfl) ?_
  refine va_get (D := D) (ci := 3) (v := .ref (ad 9)) (C := R_Nt) (T := F_Nt) (N := 13) hx hb hts (fun w h => List.mem_cons_of_mem _ (in_Nt w h)) hown hK hP 3 rfl rfl 2 (by decide) (hts _ (List.mem_cons_of_mem _ wd_142)) (fun _ h9 => h9) rfl d_Nt_setTriangle_28 ?_
  refine lv_iload hx hb d_Nt_setTriangle_31 (lv_at hl 0 rfl) ?_
  refine lv_iconst (v := 2) hx hb d_Nt_setTriangle_33 (by decide) ?_
  refine lv_iadd hx hb d_Nt_setTriangle_34 ?_
  refine lv_iload hx hb d_Nt_setTriangle_35 (lv_at hl 5 rfl) ?_
  obtain ⟨q_4, hq_4, hf⟩ := bd_some hf
  refine kc_v (va_runSN (As := [.ref (ad 9), .int (x5_1 + 2), .int x4]) (rest := []) ⟨hx, hb, hml, hown, hts⟩ (c_Pn_write l D cA ob ad 9 (x5_1 + 2) x4 (by decide) q_3 hq_4 H.size) ⟨va_cnB 3 hts (gd_Pn_write) rfl rfl rfl (nw_3 hN) (hts _ (List.mem_cons_of_mem _ wd_63)) dd_Pn_write ⟨Nat.le_of_ble_eq_true rfl, Nat.le_of_ble_eq_true rfl⟩, (hts _ (List.mem_cons_of_mem _ wd_342)), trivial⟩ (kpS hK hP hD hN) rfl rfl hl.1 rfl (lv_room (Nat.le_of_ble_eq_true rfl)) d_Nt_setTriangle_37 ⟨Nat.le_of_ble_eq_true rfl, Nat.le_of_ble_eq_true rfl⟩) hP hD hS hA (fun w H locs hw hP hD hS => ?_)
  obtain rfl := hw
  refine lv_aload_n hx hb d_Nt_setTriangle_40 rfl (lv_at hl 1 rfl) ?_
  refine va_get (D := D) (ci := 3) (v := .ref (ad 11)) (C := R_Nt) (T := F_Nt) (N := 13) hx hb hts (fun w h => List.mem_cons_of_mem _ (in_Nt w h)) hown hK hP 3 rfl rfl 4 (by decide) (hts _ (List.mem_cons_of_mem _ wd_144)) (fun _ h9 => h9) rfl d_Nt_setTriangle_41 ?_
  refine lv_iload_n hx hb d_Nt_setTriangle_44 rfl (lv_at hl 3 rfl) ?_
  refine lv_iload hx hb d_Nt_setTriangle_45 (lv_at hl 0 rfl) ?_
  obtain ⟨q_5, hq_5, hf⟩ := bd_some hf
  refine kc_v (va_runSN (As := [.ref (ad 11), .int x2, .int x5_1]) (rest := []) ⟨hx, hb, hml, hown, hts⟩ (c_Pn_write l D cA ob ad 11 x2 x5_1 (by decide) q_4 hq_5 H.size) ⟨va_cnB 3 hts (gd_Pn_write) rfl rfl rfl (nw_3 hN) (hts _ (List.mem_cons_of_mem _ wd_63)) dd_Pn_write ⟨Nat.le_of_ble_eq_true rfl, Nat.le_of_ble_eq_true rfl⟩, (hts _ (List.mem_cons_of_mem _ wd_342)), trivial⟩ (kpS hK hP hD hN) rfl rfl hl.1 rfl (lv_room (Nat.le_of_ble_eq_true rfl)) d_Nt_setTriangle_47 ⟨Nat.le_of_ble_eq_true rfl, Nat.le_of_ble_eq_true rfl⟩) hP hD hS hA (fun w H locs hw hP hD hS => ?_)
  obtain rfl := hw
  refine lv_aload_n hx hb d_Nt_setTriangle_50 rfl (lv_at hl 1 rfl) ?_
  refine va_get (D := D) (ci := 3) (v := .ref (ad 11)) (C := R_Nt) (T := F_Nt) (N := 13) hx hb hts (fun w h => List.mem_cons_of_mem _ (in_Nt w h)) hown hK hP 3 rfl rfl 4 (by decide) (hts _ (List.mem_cons_of_mem _ wd_144)) (fun _ h9 => h9) rfl d_Nt_setTriangle_51 ?_
  refine lv_iload hx hb d_Nt_setTriangle_54 (lv_at hl 5 rfl) ?_
  refine lv_iload hx hb d_Nt_setTriangle_56 (lv_at hl 0 rfl) ?_
  refine lv_iconst (v := 2) hx hb d_Nt_setTriangle_58 (by decide) ?_
  refine lv_iadd hx hb d_Nt_setTriangle_59 ?_
  obtain ⟨q_6, hq_6, hf⟩ := bd_some hf
  refine kc_v (va_runSN (As := [.ref (ad 11), .int x4, .int (x5_1 + 2)]) (rest := []) ⟨hx, hb, hml, hown, hts⟩ (c_Pn_write l D cA ob ad 11 x4 (x5_1 + 2) (by decide) q_5 hq_6 H.size) ⟨va_cnB 3 hts (gd_Pn_write) rfl rfl rfl (nw_3 hN) (hts _ (List.mem_cons_of_mem _ wd_63)) dd_Pn_write ⟨Nat.le_of_ble_eq_true rfl, Nat.le_of_ble_eq_true rfl⟩, (hts _ (List.mem_cons_of_mem _ wd_342)), trivial⟩ (kpS hK hP hD hN) rfl rfl hl.1 rfl (lv_room (Nat.le_of_ble_eq_true rfl)) d_Nt_setTriangle_60 ⟨Nat.le_of_ble_eq_true rfl, Nat.le_of_ble_eq_true rfl⟩) hP hD hS hA (fun w H locs hw hP hD hS => ?_)
  obtain rfl := hw
  cases hf
  exact hret _ _ _ _ _ rfl hP hD hS d_Nt_setTriangle_63
def f_Nt_setTriangle (x1 : Int32) (x2 : Int32) (x3 : Int32) (x4 : Int32) (S : St) : Option St := f_Nt_setTriangle_0  x1 x2 x3 x4 S
theorem c_Nt_setTriangle (l : Launch) (D : va_G) (cA : ClassId) (ob ad : Nat → Nat) (x1 : Int32) (x2 : Int32) (x3 : Int32) (x4 : Int32)  (S : St) {res : St} (hf : f_Nt_setTriangle x1 x2 x3 x4 S = some res) : CTv l y_Nt_setTriangle w_Nt_setTriangle rm_Nt_setTriangle 0 0 D clC [(cA, .int)] [.ref (ob 3), .int x1, .int x2, .int x3, .int x4] (cw cA ob ad S) (fun w => w = cw cA ob ad res) :=
  mk_v (cc := b_Nt_setTriangle) (maxL := 6) (own := R_Nt) (by decide) rfl rfl (Nat.le_of_ble_eq_true rfl) (fun p e s m below meth c A Q C0 hret ls hl hP hD hS => w_Nt_setTriangle_0 C0 hret   x1 x2 x3 x4 S _ _ ls hP hD hS (lv_sub hl [0, 1, 2, 3, 4] rfl) hf)
def f_Nt_join_0   (x1 : Int32) (x2 : Int32) (S : St) : Option St :=
  bd (f_Pn_write 10 x1 x2 S) (fun q_1 => bd (f_Pn_write 10 x2 x1 q_1) (fun q_2 => some q_2))
set_option maxHeartbeats 4000000 in
set_option maxRecDepth 100000 in
theorem w_Nt_join_0 (C0 : CX p s m args c b_Nt_join 3 R_Nt w_Nt_join D clC cA A) {res : St} (hret : RTv p l e rm_Nt_join s m args below meth c Q D clC A b_Nt_join 0 0 (fun w => w = cw cA ob ad res))    : ∀ (x1 : Int32) (x2 : Int32) (S : St) (H : Heap) (locs : List Loc) (ls : Array Slot), va_P D clC (cw cA ob ad S) H → va_D A (cw cA ob ad S) → va_S A s.heap H locs → lv_has ls 3 [(0, .ref (ob 3)), (1, .int x1), (2, .int x2)] → f_Nt_join_0   x1 x2 S = some res → W p l e rm_Nt_join s m args below meth c H locs 0 0 Q (F0 m 0 ls []) := by
  obtain ⟨hx, hb, hml, hown, hts, hK, hA, hN⟩ := id C0
  intro x1 x2 S H locs ls hP hD hS hl hf
  rw [f_Nt_join_0] at hf
  refine lv_aload_n hx hb d_Nt_join_0 rfl (lv_at hl 0 rfl) ?_
  refine va_get (D := D) (ci := 3) (v := .ref (ad 10)) (C := R_Nt) (T := F_Nt) (N := 13) hx hb hts (fun w h => List.mem_cons_of_mem _ (in_Nt w h)) hown hK hP 3 rfl rfl 3 (by decide) (hts _ (List.mem_cons_of_mem _ wd_143)) (fun _ h9 => h9) rfl d_Nt_join_1 ?_
  refine lv_iload_n hx hb d_Nt_join_4 rfl (lv_at hl 1 rfl) ?_
  refine lv_iload_n hx hb d_Nt_join_5 rfl (lv_at hl 2 rfl) ?_
  obtain ⟨q_1, hq_1, hf⟩ := bd_some hf
  refine kc_v (va_runSN (As := [.ref (ad 10), .int x1, .int x2]) (rest := []) ⟨hx, hb, hml, hown, hts⟩ (c_Pn_write l D cA ob ad 10 x1 x2 (by decide) S hq_1 H.size) ⟨va_cnB 3 hts (gd_Pn_write) rfl rfl rfl (nw_3 hN) (hts _ (List.mem_cons_of_mem _ wd_63)) dd_Pn_write ⟨Nat.le_of_ble_eq_true rfl, Nat.le_of_ble_eq_true rfl⟩, (hts _ (List.mem_cons_of_mem _ wd_342)), trivial⟩ (kpS hK hP hD hN) rfl rfl hl.1 rfl (lv_room (Nat.le_of_ble_eq_true rfl)) d_Nt_join_6 ⟨Nat.le_of_ble_eq_true rfl, Nat.le_of_ble_eq_true rfl⟩) hP hD hS hA (fun w H locs hw hP hD hS => ?_)
  obtain rfl := hw
  refine lv_aload_n hx hb d_Nt_join_9 rfl (lv_at hl 0 rfl) ?_
  refine va_get (D := D) (ci := 3) (v := .ref (ad 10)) (C := R_Nt) (T := F_Nt) (N := 13) hx hb hts (fun w h => List.mem_cons_of_mem _ (in_Nt w h)) hown hK hP 3 rfl rfl 3 (by decide) (hts _ (List.mem_cons_of_mem _ wd_143)) (fun _ h9 => h9) rfl d_Nt_join_10 ?_
  refine lv_iload_n hx hb d_Nt_join_13 rfl (lv_at hl 2 rfl) ?_
  refine lv_iload_n hx hb d_Nt_join_14 rfl (lv_at hl 1 rfl) ?_
  obtain ⟨q_2, hq_2, hf⟩ := bd_some hf
  refine kc_v (va_runSN (As := [.ref (ad 10), .int x2, .int x1]) (rest := []) ⟨hx, hb, hml, hown, hts⟩ (c_Pn_write l D cA ob ad 10 x2 x1 (by decide) q_1 hq_2 H.size) ⟨va_cnB 3 hts (gd_Pn_write) rfl rfl rfl (nw_3 hN) (hts _ (List.mem_cons_of_mem _ wd_63)) dd_Pn_write ⟨Nat.le_of_ble_eq_true rfl, Nat.le_of_ble_eq_true rfl⟩, (hts _ (List.mem_cons_of_mem _ wd_342)), trivial⟩ (kpS hK hP hD hN) rfl rfl hl.1 rfl (lv_room (Nat.le_of_ble_eq_true rfl)) d_Nt_join_15 ⟨Nat.le_of_ble_eq_true rfl, Nat.le_of_ble_eq_true rfl⟩) hP hD hS hA (fun w H locs hw hP hD hS => ?_)
  obtain rfl := hw
  cases hf
  exact hret _ _ _ _ _ rfl hP hD hS d_Nt_join_18
def f_Nt_join (x1 : Int32) (x2 : Int32) (S : St) : Option St := f_Nt_join_0  x1 x2 S
theorem c_Nt_join (l : Launch) (D : va_G) (cA : ClassId) (ob ad : Nat → Nat) (x1 : Int32) (x2 : Int32)  (S : St) {res : St} (hf : f_Nt_join x1 x2 S = some res) : CTv l y_Nt_join w_Nt_join rm_Nt_join 0 0 D clC [(cA, .int)] [.ref (ob 3), .int x1, .int x2] (cw cA ob ad S) (fun w => w = cw cA ob ad res) :=
  mk_v (cc := b_Nt_join) (maxL := 3) (own := R_Nt) (by decide) rfl rfl (Nat.le_of_ble_eq_true rfl) (fun p e s m below meth c A Q C0 hret ls hl hP hD hS => w_Nt_join_0 C0 hret   x1 x2 S _ _ ls hP hD hS (lv_sub hl [0, 1, 2] rfl) hf)
def f_Nt_begin_12   (x1 : Int32) (x2 : Int32) (x3 : Int32) (S : St) : Option St :=
  bn (seti S 6 4) (fun S_1 => bn (seti S_1 7 3) (fun S_2 => bd (f_Nt_setTriangle 0 x1 x2 x3 S_2) (fun q_3 => bd (f_Nt_setTriangle 1 x2 x1 (gi q_3 4) q_3) (fun q_4 => bd (f_Nt_setTriangle 2 x3 x2 (gi q_4 4) q_4) (fun q_5 => bd (f_Nt_setTriangle 3 x1 x3 (gi q_5 4) q_5) (fun q_6 => bd (f_Nt_join 0 3 q_6) (fun q_7 => bd (f_Nt_join 1 6 q_7) (fun q_8 => bd (f_Nt_join 2 9 q_8) (fun q_9 => bd (f_Nt_join 4 11 q_9) (fun q_10 => bd (f_Nt_join 7 5 q_10) (fun q_11 => bd (f_Nt_join 10 8 q_11) (fun q_12 => some q_12))))))))))))
set_option maxHeartbeats 4000000 in
set_option maxRecDepth 100000 in
theorem w_Nt_begin_12 (C0 : CX p s m args c b_Nt_begin 4 R_Nt w_Nt_begin D clC cA A) {res : St} (hret : RTv p l e rm_Nt_begin s m args below meth c Q D clC A b_Nt_begin 6 19475 (fun w => ∃ ad, w = cw cA ob ad res))    : ∀ (x1 : Int32) (x2 : Int32) (x3 : Int32) (S : St) (ad : Nat → Nat) (H : Heap) (locs : List Loc) (ls : Array Slot), va_P D clC (cw cA ob ad S) H → va_D A (cw cA ob ad S) → va_S A s.heap H locs → lv_has ls 4 [(0, .ref (ob 3)), (1, .int x1), (2, .int x2), (3, .int x3)] → f_Nt_begin_12   x1 x2 x3 S = some res → W p l e rm_Nt_begin s m args below meth c H locs 6 19475 Q (F0 m 12 ls []) := by
  obtain ⟨hx, hb, hml, hown, hts, hK, hA, hN⟩ := id C0
  intro x1 x2 x3 S ad H locs ls hP hD hS hl hf
  rw [f_Nt_begin_12] at hf
  refine lv_aload_n hx hb d_Nt_begin_12 rfl (lv_at hl 0 rfl) ?_
  refine lv_iconst (v := 4) hx hb d_Nt_begin_13 (by decide) ?_
  obtain ⟨S_1, eS_1, hf⟩ := bn_some hf
  refine va_put (D := D) (ci := 3) (v := .int 4) (ty := .int) (C := R_Nt) (T := F_Nt) (N := 13) hx hb hts (fun w h => List.mem_cons_of_mem _ (in_Nt w h)) t_Nt tk_Nt nk_Nt hown hK hP hD hS 3 rfl rfl 9 (by decide) (hts _ (List.mem_cons_of_mem _ wd_149)) (fun _ h9 => h9) rfl (by decide +kernel) rfl rfl (Nat.le_of_ble_eq_true rfl) d_Nt_begin_14 (fun H locs hP hD hS => ?_)
  have hP : va_P D clC (cw cA ob ad S_1) H := by rw [eS_1]; exact hP
  have hD : va_D A (cw cA ob ad S_1) := by rw [eS_1]; exact hD
  refine lv_aload_n hx hb d_Nt_begin_17 rfl (lv_at hl 0 rfl) ?_
  refine lv_iconst (v := 3) hx hb d_Nt_begin_18 (by decide) ?_
  obtain ⟨S_2, eS_2, hf⟩ := bn_some hf
  refine va_put (D := D) (ci := 3) (v := .int 3) (ty := .int) (C := R_Nt) (T := F_Nt) (N := 13) hx hb hts (fun w h => List.mem_cons_of_mem _ (in_Nt w h)) t_Nt tk_Nt nk_Nt hown hK hP hD hS 3 rfl rfl 10 (by decide) (hts _ (List.mem_cons_of_mem _ wd_150)) (fun _ h9 => h9) rfl (by decide +kernel) rfl rfl (Nat.le_of_ble_eq_true rfl) d_Nt_begin_19 (fun H locs hP hD hS => ?_)
  have hP : va_P D clC (cw cA ob ad S_2) H := by rw [eS_2]; exact hP
  have hD : va_D A (cw cA ob ad S_2) := by rw [eS_2]; exact hD
  refine lv_aload_n hx hb d_Nt_begin_22 rfl (lv_at hl 0 rfl) ?_
  refine lv_iconst (v := 0) hx hb d_Nt_begin_23 (by decide) ?_
  refine lv_iload_n hx hb d_Nt_begin_24 rfl (lv_at hl 1 rfl) ?_
  refine lv_iload_n hx hb d_Nt_begin_25 rfl (lv_at hl 2 rfl) ?_
  refine lv_iload_n hx hb d_Nt_begin_26 rfl (lv_at hl 3 rfl) ?_
  obtain ⟨q_3, hq_3, hf⟩ := bd_some hf
  refine kc_v (va_runV (As := [.int 0, .int x1, .int x2, .int x3]) (rest := []) ⟨hx, hb, hml, hown, hts⟩ (c_Nt_setTriangle l D cA ob ad 0 x1 x2 x3  S_2 hq_3 H.size) ⟨callB_of 4 hts (gd_Nt_setTriangle) rfl rfl rfl (hts _ (List.mem_cons_of_mem _ wd_67)) (hts _ (List.mem_cons_of_mem _ wd_527)) dd_Nt_setTriangle ⟨Nat.le_of_ble_eq_true rfl, Nat.le_of_ble_eq_true rfl⟩, (hts _ (List.mem_cons_of_mem _ wd_529)), (hts _ (List.mem_cons_of_mem _ wd_14))⟩ (kpV hK hP hD hN 3 3 rfl rfl) rfl rfl hl.1 rfl (lv_room (Nat.le_of_ble_eq_true rfl)) d_Nt_begin_27 ⟨by decide +kernel, by decide +kernel⟩) hP hD hS hA (fun w H locs hw hP hD hS => ?_)
  obtain rfl := hw
  refine lv_aload_n hx hb d_Nt_begin_30 rfl (lv_at hl 0 rfl) ?_
  refine lv_iconst (v := 1) hx hb d_Nt_begin_31 (by decide) ?_
  refine lv_iload_n hx hb d_Nt_begin_32 rfl (lv_at hl 2 rfl) ?_
  refine lv_iload_n hx hb d_Nt_begin_33 rfl (lv_at hl 1 rfl) ?_
  refine lv_aload_n hx hb d_Nt_begin_34 rfl (lv_at hl 0 rfl) ?_
  refine va_get (D := D) (ci := 3) (v := .int (gi q_3 4)) (C := R_Nt) (T := F_Nt) (N := 13) hx hb hts (fun w h => List.mem_cons_of_mem _ (in_Nt w h)) hown hK hP 3 rfl rfl 1 (by decide) (hts _ (List.mem_cons_of_mem _ wd_141)) (fun _ h9 => h9) rfl d_Nt_begin_35 ?_
  obtain ⟨q_4, hq_4, hf⟩ := bd_some hf
  refine kc_v (va_runV (As := [.int 1, .int x2, .int x1, .int (gi q_3 4)]) (rest := []) ⟨hx, hb, hml, hown, hts⟩ (c_Nt_setTriangle l D cA ob ad 1 x2 x1 (gi q_3 4)  q_3 hq_4 H.size) ⟨callB_of 4 hts (gd_Nt_setTriangle) rfl rfl rfl (hts _ (List.mem_cons_of_mem _ wd_67)) (hts _ (List.mem_cons_of_mem _ wd_527)) dd_Nt_setTriangle ⟨Nat.le_of_ble_eq_true rfl, Nat.le_of_ble_eq_true rfl⟩, (hts _ (List.mem_cons_of_mem _ wd_529)), (hts _ (List.mem_cons_of_mem _ wd_14))⟩ (kpV hK hP hD hN 3 3 rfl rfl) rfl rfl hl.1 rfl (lv_room (Nat.le_of_ble_eq_true rfl)) d_Nt_begin_38 ⟨by decide +kernel, by decide +kernel⟩) hP hD hS hA (fun w H locs hw hP hD hS => ?_)
  obtain rfl := hw
  refine lv_aload_n hx hb d_Nt_begin_41 rfl (lv_at hl 0 rfl) ?_
  refine lv_iconst (v := 2) hx hb d_Nt_begin_42 (by decide) ?_
  refine lv_iload_n hx hb d_Nt_begin_43 rfl (lv_at hl 3 rfl) ?_
  refine lv_iload_n hx hb d_Nt_begin_44 rfl (lv_at hl 2 rfl) ?_
  refine lv_aload_n hx hb d_Nt_begin_45 rfl (lv_at hl 0 rfl) ?_
  refine va_get (D := D) (ci := 3) (v := .int (gi q_4 4)) (C := R_Nt) (T := F_Nt) (N := 13) hx hb hts (fun w h => List.mem_cons_of_mem _ (in_Nt w h)) hown hK hP 3 rfl rfl 1 (by decide) (hts _ (List.mem_cons_of_mem _ wd_141)) (fun _ h9 => h9) rfl d_Nt_begin_46 ?_
  obtain ⟨q_5, hq_5, hf⟩ := bd_some hf
  refine kc_v (va_runV (As := [.int 2, .int x3, .int x2, .int (gi q_4 4)]) (rest := []) ⟨hx, hb, hml, hown, hts⟩ (c_Nt_setTriangle l D cA ob ad 2 x3 x2 (gi q_4 4)  q_4 hq_5 H.size) ⟨callB_of 4 hts (gd_Nt_setTriangle) rfl rfl rfl (hts _ (List.mem_cons_of_mem _ wd_67)) (hts _ (List.mem_cons_of_mem _ wd_527)) dd_Nt_setTriangle ⟨Nat.le_of_ble_eq_true rfl, Nat.le_of_ble_eq_true rfl⟩, (hts _ (List.mem_cons_of_mem _ wd_529)), (hts _ (List.mem_cons_of_mem _ wd_14))⟩ (kpV hK hP hD hN 3 3 rfl rfl) rfl rfl hl.1 rfl (lv_room (Nat.le_of_ble_eq_true rfl)) d_Nt_begin_49 ⟨by decide +kernel, by decide +kernel⟩) hP hD hS hA (fun w H locs hw hP hD hS => ?_)
  obtain rfl := hw
  refine lv_aload_n hx hb d_Nt_begin_52 rfl (lv_at hl 0 rfl) ?_
  refine lv_iconst (v := 3) hx hb d_Nt_begin_53 (by decide) ?_
  refine lv_iload_n hx hb d_Nt_begin_54 rfl (lv_at hl 1 rfl) ?_
  refine lv_iload_n hx hb d_Nt_begin_55 rfl (lv_at hl 3 rfl) ?_
  refine lv_aload_n hx hb d_Nt_begin_56 rfl (lv_at hl 0 rfl) ?_
  refine va_get (D := D) (ci := 3) (v := .int (gi q_5 4)) (C := R_Nt) (T := F_Nt) (N := 13) hx hb hts (fun w h => List.mem_cons_of_mem _ (in_Nt w h)) hown hK hP 3 rfl rfl 1 (by decide) (hts _ (List.mem_cons_of_mem _ wd_141)) (fun _ h9 => h9) rfl d_Nt_begin_57 ?_
  obtain ⟨q_6, hq_6, hf⟩ := bd_some hf
  refine kc_v (va_runV (As := [.int 3, .int x1, .int x3, .int (gi q_5 4)]) (rest := []) ⟨hx, hb, hml, hown, hts⟩ (c_Nt_setTriangle l D cA ob ad 3 x1 x3 (gi q_5 4)  q_5 hq_6 H.size) ⟨callB_of 4 hts (gd_Nt_setTriangle) rfl rfl rfl (hts _ (List.mem_cons_of_mem _ wd_67)) (hts _ (List.mem_cons_of_mem _ wd_527)) dd_Nt_setTriangle ⟨Nat.le_of_ble_eq_true rfl, Nat.le_of_ble_eq_true rfl⟩, (hts _ (List.mem_cons_of_mem _ wd_529)), (hts _ (List.mem_cons_of_mem _ wd_14))⟩ (kpV hK hP hD hN 3 3 rfl rfl) rfl rfl hl.1 rfl (lv_room (Nat.le_of_ble_eq_true rfl)) d_Nt_begin_60 ⟨by decide +kernel, by decide +kernel⟩) hP hD hS hA (fun w H locs hw hP hD hS => ?_)
  obtain rfl := hw
  refine lv_aload_n hx hb d_Nt_begin_63 rfl (lv_at hl 0 rfl) ?_
  refine lv_iconst (v := 0) hx hb d_Nt_begin_64 (by decide) ?_
  refine lv_iconst (v := 3) hx hb d_Nt_begin_65 (by decide) ?_
  obtain ⟨q_7, hq_7, hf⟩ := bd_some hf
  refine kc_v (va_runV (As := [.int 0, .int 3]) (rest := []) ⟨hx, hb, hml, hown, hts⟩ (c_Nt_join l D cA ob ad 0 3  q_6 hq_7 H.size) ⟨callB_of 2 hts (gd_Nt_join) rfl rfl rfl (hts _ (List.mem_cons_of_mem _ wd_67)) (hts _ (List.mem_cons_of_mem _ wd_532)) dd_Nt_join ⟨Nat.le_of_ble_eq_true rfl, Nat.le_of_ble_eq_true rfl⟩, (hts _ (List.mem_cons_of_mem _ wd_534)), (hts _ (List.mem_cons_of_mem _ wd_15))⟩ (kpV hK hP hD hN 3 3 rfl rfl) rfl rfl hl.1 rfl (lv_room (Nat.le_of_ble_eq_true rfl)) d_Nt_begin_66 ⟨by decide +kernel, by decide +kernel⟩) hP hD hS hA (fun w H locs hw hP hD hS => ?_)
  obtain rfl := hw
  refine lv_aload_n hx hb d_Nt_begin_69 rfl (lv_at hl 0 rfl) ?_
  refine lv_iconst (v := 1) hx hb d_Nt_begin_70 (by decide) ?_
  refine lv_bipush (v := 6) hx hb d_Nt_begin_71 (by decide) ?_
  obtain ⟨q_8, hq_8, hf⟩ := bd_some hf
  refine kc_v (va_runV (As := [.int 1, .int 6]) (rest := []) ⟨hx, hb, hml, hown, hts⟩ (c_Nt_join l D cA ob ad 1 6  q_7 hq_8 H.size) ⟨callB_of 2 hts (gd_Nt_join) rfl rfl rfl (hts _ (List.mem_cons_of_mem _ wd_67)) (hts _ (List.mem_cons_of_mem _ wd_532)) dd_Nt_join ⟨Nat.le_of_ble_eq_true rfl, Nat.le_of_ble_eq_true rfl⟩, (hts _ (List.mem_cons_of_mem _ wd_534)), (hts _ (List.mem_cons_of_mem _ wd_15))⟩ (kpV hK hP hD hN 3 3 rfl rfl) rfl rfl hl.1 rfl (lv_room (Nat.le_of_ble_eq_true rfl)) d_Nt_begin_73 ⟨by decide +kernel, by decide +kernel⟩) hP hD hS hA (fun w H locs hw hP hD hS => ?_)
  obtain rfl := hw
  refine lv_aload_n hx hb d_Nt_begin_76 rfl (lv_at hl 0 rfl) ?_
  refine lv_iconst (v := 2) hx hb d_Nt_begin_77 (by decide) ?_
  refine lv_bipush (v := 9) hx hb d_Nt_begin_78 (by decide) ?_
  obtain ⟨q_9, hq_9, hf⟩ := bd_some hf
  refine kc_v (va_runV (As := [.int 2, .int 9]) (rest := []) ⟨hx, hb, hml, hown, hts⟩ (c_Nt_join l D cA ob ad 2 9  q_8 hq_9 H.size) ⟨callB_of 2 hts (gd_Nt_join) rfl rfl rfl (hts _ (List.mem_cons_of_mem _ wd_67)) (hts _ (List.mem_cons_of_mem _ wd_532)) dd_Nt_join ⟨Nat.le_of_ble_eq_true rfl, Nat.le_of_ble_eq_true rfl⟩, (hts _ (List.mem_cons_of_mem _ wd_534)), (hts _ (List.mem_cons_of_mem _ wd_15))⟩ (kpV hK hP hD hN 3 3 rfl rfl) rfl rfl hl.1 rfl (lv_room (Nat.le_of_ble_eq_true rfl)) d_Nt_begin_80 ⟨by decide +kernel, by decide +kernel⟩) hP hD hS hA (fun w H locs hw hP hD hS => ?_)
  obtain rfl := hw
  refine lv_aload_n hx hb d_Nt_begin_83 rfl (lv_at hl 0 rfl) ?_
  refine lv_iconst (v := 4) hx hb d_Nt_begin_84 (by decide) ?_
  refine lv_bipush (v := 11) hx hb d_Nt_begin_85 (by decide) ?_
  obtain ⟨q_10, hq_10, hf⟩ := bd_some hf
  refine kc_v (va_runV (As := [.int 4, .int 11]) (rest := []) ⟨hx, hb, hml, hown, hts⟩ (c_Nt_join l D cA ob ad 4 11  q_9 hq_10 H.size) ⟨callB_of 2 hts (gd_Nt_join) rfl rfl rfl (hts _ (List.mem_cons_of_mem _ wd_67)) (hts _ (List.mem_cons_of_mem _ wd_532)) dd_Nt_join ⟨Nat.le_of_ble_eq_true rfl, Nat.le_of_ble_eq_true rfl⟩, (hts _ (List.mem_cons_of_mem _ wd_534)), (hts _ (List.mem_cons_of_mem _ wd_15))⟩ (kpV hK hP hD hN 3 3 rfl rfl) rfl rfl hl.1 rfl (lv_room (Nat.le_of_ble_eq_true rfl)) d_Nt_begin_87 ⟨by decide +kernel, by decide +kernel⟩) hP hD hS hA (fun w H locs hw hP hD hS => ?_)
  obtain rfl := hw
  refine lv_aload_n hx hb d_Nt_begin_90 rfl (lv_at hl 0 rfl) ?_
  refine lv_bipush (v := 7) hx hb d_Nt_begin_91 (by decide) ?_
  refine lv_iconst (v := 5) hx hb d_Nt_begin_93 (by decide) ?_
  obtain ⟨q_11, hq_11, hf⟩ := bd_some hf
  refine kc_v (va_runV (As := [.int 7, .int 5]) (rest := []) ⟨hx, hb, hml, hown, hts⟩ (c_Nt_join l D cA ob ad 7 5  q_10 hq_11 H.size) ⟨callB_of 2 hts (gd_Nt_join) rfl rfl rfl (hts _ (List.mem_cons_of_mem _ wd_67)) (hts _ (List.mem_cons_of_mem _ wd_532)) dd_Nt_join ⟨Nat.le_of_ble_eq_true rfl, Nat.le_of_ble_eq_true rfl⟩, (hts _ (List.mem_cons_of_mem _ wd_534)), (hts _ (List.mem_cons_of_mem _ wd_15))⟩ (kpV hK hP hD hN 3 3 rfl rfl) rfl rfl hl.1 rfl (lv_room (Nat.le_of_ble_eq_true rfl)) d_Nt_begin_94 ⟨by decide +kernel, by decide +kernel⟩) hP hD hS hA (fun w H locs hw hP hD hS => ?_)
  obtain rfl := hw
  refine lv_aload_n hx hb d_Nt_begin_97 rfl (lv_at hl 0 rfl) ?_
  refine lv_bipush (v := 10) hx hb d_Nt_begin_98 (by decide) ?_
  refine lv_bipush (v := 8) hx hb d_Nt_begin_100 (by decide) ?_
  obtain ⟨q_12, hq_12, hf⟩ := bd_some hf
  refine kc_v (va_runV (As := [.int 10, .int 8]) (rest := []) ⟨hx, hb, hml, hown, hts⟩ (c_Nt_join l D cA ob ad 10 8  q_11 hq_12 H.size) ⟨callB_of 2 hts (gd_Nt_join) rfl rfl rfl (hts _ (List.mem_cons_of_mem _ wd_67)) (hts _ (List.mem_cons_of_mem _ wd_532)) dd_Nt_join ⟨Nat.le_of_ble_eq_true rfl, Nat.le_of_ble_eq_true rfl⟩, (hts _ (List.mem_cons_of_mem _ wd_534)), (hts _ (List.mem_cons_of_mem _ wd_15))⟩ (kpV hK hP hD hN 3 3 rfl rfl) rfl rfl hl.1 rfl (lv_room (Nat.le_of_ble_eq_true rfl)) d_Nt_begin_102 ⟨by decide +kernel, by decide +kernel⟩) hP hD hS hA (fun w H locs hw hP hD hS => ?_)
  obtain rfl := hw
  cases hf
  exact hret _ _ _ _ _ ⟨ad, rfl⟩ hP hD hS d_Nt_begin_105
def f_Nt_begin_0   (x1 : Int32) (x2 : Int32) (x3 : Int32) (S : St) : Option St :=
  (if (nI (gn S 9)) = 0 then
    bd (f_Nt_makeRows  S) (fun q_2 => f_Nt_begin_12   x1 x2 x3 q_2)
    else
    f_Nt_begin_12   x1 x2 x3 S)
set_option maxHeartbeats 4000000 in
set_option maxRecDepth 100000 in
theorem w_Nt_begin_0 (C0 : CX p s m args c b_Nt_begin 4 R_Nt w_Nt_begin D clC cA A) {res : St} (hret : RTv p l e rm_Nt_begin s m args below meth c Q D clC A b_Nt_begin 6 19475 (fun w => ∃ ad, w = cw cA ob ad res))    : ∀ (x1 : Int32) (x2 : Int32) (x3 : Int32) (S : St) (ad : Nat → Nat) (H : Heap) (locs : List Loc) (ls : Array Slot), va_P D clC (cw cA ob ad S) H → va_D A (cw cA ob ad S) → va_S A s.heap H locs → lv_has ls 4 [(0, .ref (ob 3)), (1, .int x1), (2, .int x2), (3, .int x3)] → f_Nt_begin_0   x1 x2 x3 S = some res → W p l e rm_Nt_begin s m args below meth c H locs 0 0 Q (F0 m 0 ls []) := by
  obtain ⟨hx, hb, hml, hown, hts, hK, hA, hN⟩ := id C0
  intro x1 x2 x3 S ad H locs ls hP hD hS hl hf
  rw [f_Nt_begin_0] at hf
  refine lv_aload_n hx hb d_Nt_begin_0 rfl (lv_at hl 0 rfl) ?_
  refine va_get (D := D) (ci := 3) (v := .ref (ad 9)) (C := R_Nt) (T := F_Nt) (N := 13) hx hb hts (fun w h => List.mem_cons_of_mem _ (in_Nt w h)) hown hK hP 3 rfl rfl 2 (by decide) (hts _ (List.mem_cons_of_mem _ wd_142)) (fun _ h9 => h9) rfl d_Nt_begin_1 ?_
  refine va_alen (v := (nI (gn S 9))) hx hb hK hP 9 0 rfl rfl rfl d_Nt_begin_4 ?_
  refine lv_if_ne (tgt := 12) hx hb d_Nt_begin_5 (by decide) (fun c_1 => ?_) (fun c_1 => ?_)
  · rw [if_neg c_1] at hf
    refine W.widen (k := 6) (n := 19475) (by decide +kernel) (by decide +kernel) ?_
    exact w_Nt_begin_12 C0 hret    x1 x2 x3 S ad H locs ls hP hD hS (lv_sub hl [0, 1, 2, 3] rfl) hf
  · rw [if_pos c_1] at hf
    refine lv_aload_n hx hb d_Nt_begin_8 rfl (lv_at hl 0 rfl) ?_
    obtain ⟨q_2, hq_2, hf⟩ := bd_some hf
    refine kc_v (va_runV (As := []) (rest := []) ⟨hx, hb, hml, hown, hts⟩ (c_Nt_makeRows l D cA ob ad   S hq_2 H.size) ⟨callB_of 0 hts (gd_Nt_makeRows) rfl rfl rfl (hts _ (List.mem_cons_of_mem _ wd_67)) (hts _ (List.mem_cons_of_mem _ wd_523)) dd_Nt_makeRows ⟨Nat.le_of_ble_eq_true rfl, Nat.le_of_ble_eq_true rfl⟩, (hts _ (List.mem_cons_of_mem _ wd_525)), (hts _ (List.mem_cons_of_mem _ wd_13))⟩ (kpV hK hP hD hN 3 3 rfl rfl) rfl rfl hl.1 rfl (lv_room (Nat.le_of_ble_eq_true rfl)) d_Nt_begin_9 ⟨by decide +kernel, by decide +kernel⟩) hP hD hS hA (fun w H locs hw hP hD hS => ?_)
    obtain ⟨ad, rfl⟩ := hw
    refine W.widen (k := 6) (n := 19475) (by decide +kernel) (by decide +kernel) ?_
    exact w_Nt_begin_12 C0 hret    x1 x2 x3 q_2 ad H locs ls hP hD hS (lv_sub hl [0, 1, 2, 3] rfl) hf
def f_Nt_begin (x1 : Int32) (x2 : Int32) (x3 : Int32) (S : St) : Option St := f_Nt_begin_0  x1 x2 x3 S
theorem c_Nt_begin (l : Launch) (D : va_G) (cA : ClassId) (ob ad : Nat → Nat) (x1 : Int32) (x2 : Int32) (x3 : Int32)  (S : St) {res : St} (hf : f_Nt_begin x1 x2 x3 S = some res) : CTv l y_Nt_begin w_Nt_begin rm_Nt_begin 6 19475 D clC [(cA, .int)] [.ref (ob 3), .int x1, .int x2, .int x3] (cw cA ob ad S) (fun w => ∃ ad, w = cw cA ob ad res) :=
  mk_v (cc := b_Nt_begin) (maxL := 4) (own := R_Nt) (by decide) rfl rfl (Nat.le_of_ble_eq_true rfl) (fun p e s m below meth c A Q C0 hret ls hl hP hD hS => w_Nt_begin_0 C0 hret   x1 x2 x3 S ad _ _ ls hP hD hS (lv_sub hl [0, 1, 2, 3] rfl) hf)
def f_Nt_startOf_0   (x1 : Int32) (S : St) : Option (Int32 × St) :=
  (if x1 < 0 then
    some (0, S)
    else
    (if (nI (gn S 9)) ≤ x1 then
      some (0, S)
      else
      as_ (inb x1 (gn S 9)) (some ((ga S 9 (Int32.toNatClampNeg x1)), S))))
set_option maxHeartbeats 4000000 in
set_option maxRecDepth 100000 in
theorem w_Nt_startOf_0 (C0 : CX p s m args c b_Nt_startOf 2 R_Nt w_Nt_startOf D clC cA A) {res : (Int32 × St)} (hret : RTi p l e rm_Nt_startOf s m args below meth c Q D clC A b_Nt_startOf 0 0 (fun r w => r = res.1 ∧ w = cw cA ob ad res.2))    : ∀ (x1 : Int32) (S : St) (H : Heap) (locs : List Loc) (ls : Array Slot), va_P D clC (cw cA ob ad S) H → va_D A (cw cA ob ad S) → va_S A s.heap H locs → lv_has ls 2 [(0, .ref (ob 3)), (1, .int x1)] → f_Nt_startOf_0   x1 S = some res → W p l e rm_Nt_startOf s m args below meth c H locs 0 0 Q (F0 m 0 ls []) := by
  obtain ⟨hx, hb, hml, hown, hts, hK, hA, hN⟩ := id C0
  intro x1 S H locs ls hP hD hS hl hf
  rw [f_Nt_startOf_0] at hf
  refine lv_iload_n hx hb d_Nt_startOf_0 rfl (lv_at hl 1 rfl) ?_
  refine lv_if_lt (tgt := 22) hx hb d_Nt_startOf_1 (by decide) (fun c_1 => ?_) (fun c_1 => ?_)
  · rw [if_pos c_1] at hf
    refine lv_iconst (v := 0) hx hb d_Nt_startOf_22 (by decide) ?_
    cases hf
    exact hret _ _ _ _ _ _ ⟨rfl, rfl⟩ hP hD hS d_Nt_startOf_23
  · rw [if_neg c_1] at hf
    refine lv_iload_n hx hb d_Nt_startOf_4 rfl (lv_at hl 1 rfl) ?_
    refine lv_aload_n hx hb d_Nt_startOf_5 rfl (lv_at hl 0 rfl) ?_
    refine va_get (D := D) (ci := 3) (v := .ref (ad 9)) (C := R_Nt) (T := F_Nt) (N := 13) hx hb hts (fun w h => List.mem_cons_of_mem _ (in_Nt w h)) hown hK hP 3 rfl rfl 2 (by decide) (hts _ (List.mem_cons_of_mem _ wd_142)) (fun _ h9 => h9) rfl d_Nt_startOf_6 ?_
    refine va_alen (v := (nI (gn S 9))) hx hb hK hP 9 0 rfl rfl rfl d_Nt_startOf_9 ?_
    refine lv_icmp_ge (tgt := 22) hx hb d_Nt_startOf_10 (by decide) (fun c_2 => ?_) (fun c_2 => ?_)
    · rw [if_pos c_2] at hf
      refine lv_iconst (v := 0) hx hb d_Nt_startOf_22 (by decide) ?_
      cases hf
      exact hret _ _ _ _ _ _ ⟨rfl, rfl⟩ hP hD hS d_Nt_startOf_23
    · rw [if_neg c_2] at hf
      refine lv_aload_n hx hb d_Nt_startOf_13 rfl (lv_at hl 0 rfl) ?_
      refine va_get (D := D) (ci := 3) (v := .ref (ad 9)) (C := R_Nt) (T := F_Nt) (N := 13) hx hb hts (fun w h => List.mem_cons_of_mem _ (in_Nt w h)) hown hK hP 3 rfl rfl 2 (by decide) (hts _ (List.mem_cons_of_mem _ wd_142)) (fun _ h9 => h9) rfl d_Nt_startOf_14 ?_
      refine lv_iload_n hx hb d_Nt_startOf_17 rfl (lv_at hl 1 rfl) ?_
      obtain ⟨hi_3, hf⟩ := as_some hf
      refine va_iald hx hb hK hP 9 0 rfl rfl (inb_in hi_3) d_Nt_startOf_18 ?_
      refine lv_goto (tgt := 23) hx hb d_Nt_startOf_19 (by decide) ?_
      cases hf
      exact hret _ _ _ _ _ _ ⟨rfl, rfl⟩ hP hD hS d_Nt_startOf_23
def f_Nt_startOf (x1 : Int32) (S : St) : Option (Int32 × St) := f_Nt_startOf_0  x1 S
theorem c_Nt_startOf (l : Launch) (D : va_G) (cA : ClassId) (ob ad : Nat → Nat) (x1 : Int32)  (S : St) {res : (Int32 × St)} (hf : f_Nt_startOf x1 S = some res) : CTi l y_Nt_startOf w_Nt_startOf rm_Nt_startOf 0 0 D clC [(cA, .int)] [.ref (ob 3), .int x1] (cw cA ob ad S) (fun r w => r = res.1 ∧ w = cw cA ob ad res.2) :=
  mk_i (cc := b_Nt_startOf) (maxL := 2) (own := R_Nt) (by decide) rfl rfl (Nat.le_of_ble_eq_true rfl) (fun p e s m below meth c A Q C0 hret ls hl hP hD hS => w_Nt_startOf_0 C0 hret   x1 S _ _ ls hP hD hS (lv_sub hl [0, 1] rfl) hf)
end
