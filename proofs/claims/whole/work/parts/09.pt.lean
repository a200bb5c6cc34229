section
variable {p : Program} {l : Launch} {e : Env} {s : State} {m : MethodId} {args : Array Value} {below : List Frame} {meth : Method} {c : Code} {Q : State → Prop} {D : va_G} {cA cP : ClassId} {ob : Nat → Nat} {ad : Nat → Nat → Nat} {A : Nat → Prop}
def f_Pt_append_0   (x1 : Int32) (x2 : Int32) (S : St) : Option (Int32 × St) :=
  bn (gi S 3) (fun x3_1 => bd (f_Rw_put 6 x3_1 x1 S) (fun q_2 => bd (f_Rw_put 7 x3_1 x2 q_2) (fun q_3 => bn (seti q_3 3 (x3_1 + 1)) (fun S_4 => some (x3_1, S_4)))))
set_option maxHeartbeats 4000000 in
set_option maxRecDepth 100000 in
theorem w_Pt_append_0 (C0 : CX p s m args c b_Pt_append 4 R_Pt w_Pt_append D clC cA cP A) {res : (Int32 × St)} (hret : RTi p l e rm_Pt_append s m args below meth c Q D clC A b_Pt_append 0 0 (fun r w => r = res.1 ∧ w = cw cA cP ob ad res.2))    : ∀ (x1 : Int32) (x2 : Int32) (S : St) (H : Heap) (locs : List Loc) (ls : Array Slot), va_P D clC (cw cA cP ob ad S) H → va_D A (cw cA cP ob ad S) → va_S A s.heap H locs → lv_has ls 4 [(0, .ref (ob 1)), (1, .int x1), (2, .int x2)] → f_Pt_append_0   x1 x2 S = some res → W p l e rm_Pt_append s m args below meth c H locs 0 0 Q (F0 m 0 ls []) := by
  obtain ⟨hx, hb, hml, hown, hts, hK, hA, hN, hZ⟩ := id C0
  intro x1 x2 S H locs ls hP hD hS hl hf
  rw [f_Pt_append_0] at hf
  refine lv_aload_n hx hb d_Pt_append_0 rfl (lv_at hl 0 rfl) ?_
  refine va_get (D := D) (ci := 1) (v := .int (gi S 3)) (C := R_Pt) (T := F_Pt) (N := 5) hx hb hts (fun w h => List.mem_cons_of_mem _ (in_Pt w h)) hown hK hP 1 rfl rfl 1 (by decide) (hts _ (List.mem_cons_of_mem _ wd_132)) (fun _ h9 => h9) rfl d_Pt_append_1 ?_
  obtain ⟨x3_1, ex3_1, hf⟩ := bn_some hf
  refine tpi ex3_1 ?_
  refine lv_istore_n (lv' := [(3, .int x3_1), (0, .ref (ob 1)), (1, .int x1), (2, .int x2)]) hx hb d_Pt_append_4 rfl hl (by decide) rfl (fun ls hl => ?_)
  refine lv_aload_n hx hb d_Pt_append_5 rfl (lv_at hl 1 rfl) ?_
  refine va_get (D := D) (ci := 1) (v := .ref (ob 6)) (C := R_Pt) (T := F_Pt) (N := 5) hx hb hts (fun w h => List.mem_cons_of_mem _ (in_Pt w h)) hown hK hP 1 rfl rfl 2 (by decide) (hts _ (List.mem_cons_of_mem _ wd_136)) (fun _ h9 => h9) rfl d_Pt_append_6 ?_
  refine lv_iload_n hx hb d_Pt_append_9 rfl (lv_at hl 0 rfl) ?_
  refine lv_iload_n hx hb d_Pt_append_10 rfl (lv_at hl 2 rfl) ?_
  obtain ⟨q_2, hq_2, hf⟩ := bd_some hf
  refine kc_v (va_runV (As := [.int x3_1, .int x1]) (rest := []) ⟨hx, hb, hml, hown, hts⟩ (c_Rw_put l D cA cP ob ad 6 x3_1 x1 (by decide) S hq_2 H.size) ⟨callB_of 2 hts (gd_Rw_put) rfl rfl rfl (hts _ (List.mem_cons_of_mem _ wd_67)) (hts _ (List.mem_cons_of_mem _ wd_560)) dd_Rw_put ⟨Nat.le_of_ble_eq_true rfl, Nat.le_of_ble_eq_true rfl⟩, (hts _ (List.mem_cons_of_mem _ wd_361)), (hts _ (List.mem_cons_of_mem _ wd_362))⟩ (kpV hK hP hD hN hZ hS 6 6 rfl rfl) rfl rfl hl.1 rfl (lv_room (Nat.le_of_ble_eq_true rfl)) d_Pt_append_11 ⟨Nat.le_of_ble_eq_true rfl, Nat.le_of_ble_eq_true rfl⟩) hP hD hS hA (fun w H locs hw hP hD hS => ?_)
  obtain rfl := hw
  refine lv_aload_n hx hb d_Pt_append_14 rfl (lv_at hl 1 rfl) ?_
  refine va_get (D := D) (ci := 1) (v := .ref (ob 7)) (C := R_Pt) (T := F_Pt) (N := 5) hx hb hts (fun w h => List.mem_cons_of_mem _ (in_Pt w h)) hown hK hP 1 rfl rfl 3 (by decide) (hts _ (List.mem_cons_of_mem _ wd_137)) (fun _ h9 => h9) rfl d_Pt_append_15 ?_
  refine lv_iload_n hx hb d_Pt_append_18 rfl (lv_at hl 0 rfl) ?_
  refine lv_iload_n hx hb d_Pt_append_19 rfl (lv_at hl 3 rfl) ?_
  obtain ⟨q_3, hq_3, hf⟩ := bd_some hf
  refine kc_v (va_runV (As := [.int x3_1, .int x2]) (rest := []) ⟨hx, hb, hml, hown, hts⟩ (c_Rw_put l D cA cP ob ad 7 x3_1 x2 (by decide) q_2 hq_3 H.size) ⟨callB_of 2 hts (gd_Rw_put) rfl rfl rfl (hts _ (List.mem_cons_of_mem _ wd_67)) (hts _ (List.mem_cons_of_mem _ wd_560)) dd_Rw_put ⟨Nat.le_of_ble_eq_true rfl, Nat.le_of_ble_eq_true rfl⟩, (hts _ (List.mem_cons_of_mem _ wd_361)), (hts _ (List.mem_cons_of_mem _ wd_362))⟩ (kpV hK hP hD hN hZ hS 6 7 rfl rfl) rfl rfl hl.1 rfl (lv_room (Nat.le_of_ble_eq_true rfl)) d_Pt_append_20 ⟨Nat.le_of_ble_eq_true rfl, Nat.le_of_ble_eq_true rfl⟩) hP hD hS hA (fun w H locs hw hP hD hS => ?_)
  obtain rfl := hw
  refine lv_aload_n hx hb d_Pt_append_23 rfl (lv_at hl 1 rfl) ?_
  refine lv_iload_n hx hb d_Pt_append_24 rfl (lv_at hl 0 rfl) ?_
  refine lv_iconst (v := 1) hx hb d_Pt_append_25 (by decide) ?_
  refine lv_iadd hx hb d_Pt_append_26 ?_
  obtain ⟨S_4, eS_4, hf⟩ := bn_some hf
  refine va_put (D := D) (ci := 1) (v := .int (x3_1 + 1)) (ty := .int) (C := R_Pt) (T := F_Pt) (N := 5) hx hb hts (fun w h => List.mem_cons_of_mem _ (in_Pt w h)) t_Pt tk_Pt nk_Pt hown hK hP hD hS 1 rfl rfl 1 (by decide) (hts _ (List.mem_cons_of_mem _ wd_132)) (fun _ h9 => h9) rfl (by decide +kernel) rfl rfl (Nat.le_of_ble_eq_true rfl) d_Pt_append_27 (fun H locs hP hD hS => ?_)
  have hP : va_P D clC (cw cA cP ob ad S_4) H := by rw [eS_4]; exact hP
  have hD : va_D A (cw cA cP ob ad S_4) := by rw [eS_4]; exact hD
  refine lv_iload_n hx hb d_Pt_append_30 rfl (lv_at hl 0 rfl) ?_
  cases hf
  exact hret _ _ _ _ _ _ ⟨rfl, rfl⟩ hP hD hS d_Pt_append_31
def f_Pt_append (x1 : Int32) (x2 : Int32) (S : St) : Option (Int32 × St) := f_Pt_append_0  x1 x2 S
theorem c_Pt_append (l : Launch) (D : va_G) (cA cP : ClassId) (ob : Nat → Nat) (ad : Nat → Nat → Nat) (x1 : Int32) (x2 : Int32)  (S : St) {res : (Int32 × St)} (hf : f_Pt_append x1 x2 S = some res) : CTi l y_Pt_append w_Pt_append rm_Pt_append 0 0 D clC (TY cA cP) [.ref (ob 1), .int x1, .int x2] (cw cA cP ob ad S) (fun r w => r = res.1 ∧ w = cw cA cP ob ad res.2) :=
  mk_i (cc := b_Pt_append) (maxL := 4) (own := R_Pt) (by decide) rfl rfl (Nat.le_of_ble_eq_true rfl) (fun p e s m below meth c A Q C0 hret ls hl hP hD hS => w_Pt_append_0 C0 hret   x1 x2 S _ _ ls hP hD hS (lv_sub hl [0, 1, 2] rfl) hf)
def f_Pt_x_0   (x1 : Int32) (S : St) : Option (Int32 × St) :=
  bd (f_Rw_get 6 x1 S) (fun q_1 => some (q_1.1, q_1.2))
set_option maxHeartbeats 4000000 in
set_option maxRecDepth 100000 in
theorem w_Pt_x_0 (C0 : CX p s m args c b_Pt_x 2 R_Pt w_Pt_x D clC cA cP A) {res : (Int32 × St)} (hret : RTi p l e rm_Pt_x s m args below meth c Q D clC A b_Pt_x 0 0 (fun r w => r = res.1 ∧ w = cw cA cP ob ad res.2))    : ∀ (x1 : Int32) (S : St) (H : Heap) (locs : List Loc) (ls : Array Slot), va_P D clC (cw cA cP ob ad S) H → va_D A (cw cA cP ob ad S) → va_S A s.heap H locs → lv_has ls 2 [(0, .ref (ob 1)), (1, .int x1)] → f_Pt_x_0   x1 S = some res → W p l e rm_Pt_x s m args below meth c H locs 0 0 Q (F0 m 0 ls []) := by
  obtain ⟨hx, hb, hml, hown, hts, hK, hA, hN, hZ⟩ := id C0
  intro x1 S H locs ls hP hD hS hl hf
  rw [f_Pt_x_0] at hf
  refine lv_aload_n hx hb d_Pt_x_0 rfl (lv_at hl 0 rfl) ?_
  refine va_get (D := D) (ci := 1) (v := .ref (ob 6)) (C := R_Pt) (T := F_Pt) (N := 5) hx hb hts (fun w h => List.mem_cons_of_mem _ (in_Pt w h)) hown hK hP 1 rfl rfl 2 (by decide) (hts _ (List.mem_cons_of_mem _ wd_136)) (fun _ h9 => h9) rfl d_Pt_x_1 ?_
  refine lv_iload_n hx hb d_Pt_x_4 rfl (lv_at hl 1 rfl) ?_
  obtain ⟨q_1, hq_1, hf⟩ := bd_some hf
  refine kc_i (va_runV (As := [.int x1]) (rest := []) ⟨hx, hb, hml, hown, hts⟩ (c_Rw_get l D cA cP ob ad 6 x1 (by decide) S hq_1 H.size) ⟨callB_of 1 hts (gd_Rw_get) rfl rfl rfl (hts _ (List.mem_cons_of_mem _ wd_67)) (hts _ (List.mem_cons_of_mem _ wd_339)) dd_Rw_get ⟨Nat.le_of_ble_eq_true rfl, Nat.le_of_ble_eq_true rfl⟩, (hts _ (List.mem_cons_of_mem _ wd_340)), (hts _ (List.mem_cons_of_mem _ wd_341))⟩ (kpV hK hP hD hN hZ hS 6 6 rfl rfl) rfl rfl hl.1 rfl (lv_room (Nat.le_of_ble_eq_true rfl)) d_Pt_x_5 ⟨Nat.le_of_ble_eq_true rfl, Nat.le_of_ble_eq_true rfl⟩) hP hD hS hA (fun r w H locs hw hP hD hS => ?_)
  obtain ⟨rfl, rfl⟩ := hw
  cases hf
  exact hret _ _ _ _ _ _ ⟨rfl, rfl⟩ hP hD hS d_Pt_x_8
def f_Pt_x (x1 : Int32) (S : St) : Option (Int32 × St) := f_Pt_x_0  x1 S
theorem c_Pt_x (l : Launch) (D : va_G) (cA cP : ClassId) (ob : Nat → Nat) (ad : Nat → Nat → Nat) (x1 : Int32)  (S : St) {res : (Int32 × St)} (hf : f_Pt_x x1 S = some res) : CTi l y_Pt_x w_Pt_x rm_Pt_x 0 0 D clC (TY cA cP) [.ref (ob 1), .int x1] (cw cA cP ob ad S) (fun r w => r = res.1 ∧ w = cw cA cP ob ad res.2) :=
  mk_i (cc := b_Pt_x) (maxL := 2) (own := R_Pt) (by decide) rfl rfl (Nat.le_of_ble_eq_true rfl) (fun p e s m below meth c A Q C0 hret ls hl hP hD hS => w_Pt_x_0 C0 hret   x1 S _ _ ls hP hD hS (lv_sub hl [0, 1] rfl) hf)
def f_Pt_y_0   (x1 : Int32) (S : St) : Option (Int32 × St) :=
  bd (f_Rw_get 7 x1 S) (fun q_1 => some (q_1.1, q_1.2))
set_option maxHeartbeats 4000000 in
set_option maxRecDepth 100000 in
theorem w_Pt_y_0 (C0 : CX p s m args c b_Pt_y 2 R_Pt w_Pt_y D clC cA cP A) {res : (Int32 × St)} (hret : RTi p l e rm_Pt_y s m args below meth c Q D clC A b_Pt_y 0 0 (fun r w => r = res.1 ∧ w = cw cA cP ob ad res.2))    : ∀ (x1 : Int32) (S : St) (H : Heap) (locs : List Loc) (ls : Array Slot), va_P D clC (cw cA cP ob ad S) H → va_D A (cw cA cP ob ad S) → va_S A s.heap H locs → lv_has ls 2 [(0, .ref (ob 1)), (1, .int x1)] → f_Pt_y_0   x1 S = some res → W p l e rm_Pt_y s m args below meth c H locs 0 0 Q (F0 m 0 ls []) := by
  obtain ⟨hx, hb, hml, hown, hts, hK, hA, hN, hZ⟩ := id C0
  intro x1 S H locs ls hP hD hS hl hf
  rw [f_Pt_y_0] at hf
  refine lv_aload_n hx hb d_Pt_y_0 rfl (lv_at hl 0 rfl) ?_
  refine va_get (D := D) (ci := 1) (v := .ref (ob 7)) (C := R_Pt) (T := F_Pt) (N := 5) hx hb hts (fun w h => List.mem_cons_of_mem _ (in_Pt w h)) hown hK hP 1 rfl rfl 3 (by decide) (hts _ (List.mem_cons_of_mem _ wd_137)) (fun _ h9 => h9) rfl d_Pt_y_1 ?_
  refine lv_iload_n hx hb d_Pt_y_4 rfl (lv_at hl 1 rfl) ?_
  obtain ⟨q_1, hq_1, hf⟩ := bd_some hf
  refine kc_i (va_runV (As := [.int x1]) (rest := []) ⟨hx, hb, hml, hown, hts⟩ (c_Rw_get l D cA cP ob ad 7 x1 (by decide) S hq_1 H.size) ⟨callB_of 1 hts (gd_Rw_get) rfl rfl rfl (hts _ (List.mem_cons_of_mem _ wd_67)) (hts _ (List.mem_cons_of_mem _ wd_339)) dd_Rw_get ⟨Nat.le_of_ble_eq_true rfl, Nat.le_of_ble_eq_true rfl⟩, (hts _ (List.mem_cons_of_mem _ wd_340)), (hts _ (List.mem_cons_of_mem _ wd_341))⟩ (kpV hK hP hD hN hZ hS 6 7 rfl rfl) rfl rfl hl.1 rfl (lv_room (Nat.le_of_ble_eq_true rfl)) d_Pt_y_5 ⟨Nat.le_of_ble_eq_true rfl, Nat.le_of_ble_eq_true rfl⟩) hP hD hS hA (fun r w H locs hw hP hD hS => ?_)
  obtain ⟨rfl, rfl⟩ := hw
  cases hf
  exact hret _ _ _ _ _ _ ⟨rfl, rfl⟩ hP hD hS d_Pt_y_8
def f_Pt_y (x1 : Int32) (S : St) : Option (Int32 × St) := f_Pt_y_0  x1 S
theorem c_Pt_y (l : Launch) (D : va_G) (cA cP : ClassId) (ob : Nat → Nat) (ad : Nat → Nat → Nat) (x1 : Int32)  (S : St) {res : (Int32 × St)} (hf : f_Pt_y x1 S = some res) : CTi l y_Pt_y w_Pt_y rm_Pt_y 0 0 D clC (TY cA cP) [.ref (ob 1), .int x1] (cw cA cP ob ad S) (fun r w => r = res.1 ∧ w = cw cA cP ob ad res.2) :=
  mk_i (cc := b_Pt_y) (maxL := 2) (own := R_Pt) (by decide) rfl rfl (Nat.le_of_ble_eq_true rfl) (fun p e s m below meth c A Q C0 hret ls hl hP hD hS => w_Pt_y_0 C0 hret   x1 S _ _ ls hP hD hS (lv_sub hl [0, 1] rfl) hf)
def f_Pn_noteClosest_65   (x1 : Int32) (x2 : Int32) (x3 : Int64) (S : St) : Option St :=
  bn (setl S 0 x3) (fun S_1 => bn (seti S_1 0 x1) (fun S_2 => bn (seti S_2 1 x2) (fun S_3 => some S_3)))
set_option maxHeartbeats 4000000 in
set_option maxRecDepth 100000 in
theorem w_Pn_noteClosest_65 (C0 : CX p s m args c b_Pn_noteClosest 5 R_Pn w_Pn_noteClosest D clC cA cP A) {res : St} (hret : RTv p l e rm_Pn_noteClosest s m args below meth c Q D clC A b_Pn_noteClosest 0 0 (fun w => w = cw cA cP ob ad res))    : ∀ (x1 : Int32) (x2 : Int32) (x3 : Int64) (S : St) (H : Heap) (locs : List Loc) (ls : Array Slot), va_P D clC (cw cA cP ob ad S) H → va_D A (cw cA cP ob ad S) → va_S A s.heap H locs → lv_has ls 5 [(0, .ref (ob 0)), (1, .int x1), (2, .int x2), (3, .long x3)] → f_Pn_noteClosest_65   x1 x2 x3 S = some res → W p l e rm_Pn_noteClosest s m args below meth c H locs 0 0 Q (F0 m 65 ls []) := by
  obtain ⟨hx, hb, hml, hown, hts, hK, hA, hN, hZ⟩ := id C0
  intro x1 x2 x3 S H locs ls hP hD hS hl hf
  rw [f_Pn_noteClosest_65] at hf
  refine lv_aload_n hx hb d_Pn_noteClosest_65 rfl (lv_at hl 0 rfl) ?_
  refine lv_lload_n hx hb d_Pn_noteClosest_66 rfl (lv_at hl 3 rfl) ?_
  obtain ⟨S_1, eS_1, hf⟩ := bn_some hf
  refine va_put (D := D) (ci := 0) (v := .long x3) (ty := .long) (C := R_Pn) (T := F_Pn) (N := 8) hx hb hts (fun w h => List.mem_cons_of_mem _ (in_Pn w h)) t_Pn tk_Pn nk_Pn hown hK hP hD hS 0 rfl rfl 5 (by decide) (hts _ (List.mem_cons_of_mem _ wd_254)) (fun _ h9 => h9) rfl (by decide +kernel) rfl rfl (Nat.le_of_ble_eq_true rfl) d_Pn_noteClosest_67 (fun H locs hP hD hS => ?_)
  have hP : va_P D clC (cw cA cP ob ad S_1) H := by rw [eS_1]; exact hP
  have hD : va_D A (cw cA cP ob ad S_1) := by rw [eS_1]; exact hD
  refine lv_aload_n hx hb d_Pn_noteClosest_70 rfl (lv_at hl 0 rfl) ?_
  refine lv_iload_n hx hb d_Pn_noteClosest_71 rfl (lv_at hl 1 rfl) ?_
  obtain ⟨S_2, eS_2, hf⟩ := bn_some hf
  refine va_put (D := D) (ci := 0) (v := .int x1) (ty := .int) (C := R_Pn) (T := F_Pn) (N := 8) hx hb hts (fun w h => List.mem_cons_of_mem _ (in_Pn w h)) t_Pn tk_Pn nk_Pn hown hK hP hD hS 0 rfl rfl 6 (by decide) (hts _ (List.mem_cons_of_mem _ wd_255)) (fun _ h9 => h9) rfl (by decide +kernel) rfl rfl (Nat.le_of_ble_eq_true rfl) d_Pn_noteClosest_72 (fun H locs hP hD hS => ?_)
  have hP : va_P D clC (cw cA cP ob ad S_2) H := by rw [eS_2]; exact hP
  have hD : va_D A (cw cA cP ob ad S_2) := by rw [eS_2]; exact hD
  refine lv_aload_n hx hb d_Pn_noteClosest_75 rfl (lv_at hl 0 rfl) ?_
  refine lv_iload_n hx hb d_Pn_noteClosest_76 rfl (lv_at hl 2 rfl) ?_
  obtain ⟨S_3, eS_3, hf⟩ := bn_some hf
  refine va_put (D := D) (ci := 0) (v := .int x2) (ty := .int) (C := R_Pn) (T := F_Pn) (N := 8) hx hb hts (fun w h => List.mem_cons_of_mem _ (in_Pn w h)) t_Pn tk_Pn nk_Pn hown hK hP hD hS 0 rfl rfl 7 (by decide) (hts _ (List.mem_cons_of_mem _ wd_256)) (fun _ h9 => h9) rfl (by decide +kernel) rfl rfl (Nat.le_of_ble_eq_true rfl) d_Pn_noteClosest_77 (fun H locs hP hD hS => ?_)
  have hP : va_P D clC (cw cA cP ob ad S_3) H := by rw [eS_3]; exact hP
  have hD : va_D A (cw cA cP ob ad S_3) := by rw [eS_3]; exact hD
  cases hf
  exact hret _ _ _ _ _ rfl hP hD hS d_Pn_noteClosest_80
def f_Pn_noteClosest_0   (x1 : Int32) (x2 : Int32) (S : St) : Option St :=
  (if x1 = (-1) then
    some S
    else
    bd (f_Pt_x x2 S) (fun q_2 => bd (f_Pt_y x2 q_2.2) (fun q_3 => bd (f_Pt_gap x1 q_2.1 q_3.1 q_3.2) (fun q_4 => (if (gi q_4.2 0) = (-1) then
      f_Pn_noteClosest_65   x1 x2 q_4.1 q_4.2
      else
      (if (lg_cmp q_4.1 (gl q_4.2 0)) < 0 then
        f_Pn_noteClosest_65   x1 x2 q_4.1 q_4.2
        else
        (if (lg_cmp q_4.1 (gl q_4.2 0)) = 0 then
          (if (gi q_4.2 0) ≤ x1 then
            some q_4.2
            else
            f_Pn_noteClosest_65   x1 x2 q_4.1 q_4.2)
          else
          some q_4.2)))))))
set_option maxHeartbeats 4000000 in
set_option maxRecDepth 100000 in
theorem w_Pn_noteClosest_0 (C0 : CX p s m args c b_Pn_noteClosest 5 R_Pn w_Pn_noteClosest D clC cA cP A) {res : St} (hret : RTv p l e rm_Pn_noteClosest s m args below meth c Q D clC A b_Pn_noteClosest 0 0 (fun w => w = cw cA cP ob ad res))    : ∀ (x1 : Int32) (x2 : Int32) (S : St) (H : Heap) (locs : List Loc) (ls : Array Slot), va_P D clC (cw cA cP ob ad S) H → va_D A (cw cA cP ob ad S) → va_S A s.heap H locs → lv_has ls 5 [(0, .ref (ob 0)), (1, .int x1), (2, .int x2)] → f_Pn_noteClosest_0   x1 x2 S = some res → W p l e rm_Pn_noteClosest s m args below meth c H locs 0 0 Q (F0 m 0 ls []) := by
  obtain ⟨hx, hb, hml, hown, hts, hK, hA, hN, hZ⟩ := id C0
  intro x1 x2 S H locs ls hP hD hS hl hf
  rw [f_Pn_noteClosest_0] at hf
  refine lv_iload_n hx hb d_Pn_noteClosest_0 rfl (lv_at hl 1 rfl) ?_
  refine lv_iconst (v := (-1)) hx hb d_Pn_noteClosest_1 (by decide) ?_
  refine lv_icmp_ne (tgt := 6) hx hb d_Pn_noteClosest_2 (by decide) (fun c_1 => ?_) (fun c_1 => ?_)
  · rw [if_neg c_1] at hf
    refine lv_aload_n hx hb d_Pn_noteClosest_6 rfl (lv_at hl 0 rfl) ?_
    refine va_get (D := D) (ci := 0) (v := .ref (ob 1)) (C := R_Pn) (T := F_Pn) (N := 8) hx hb hts (fun w h => List.mem_cons_of_mem _ (in_Pn w h)) hown hK hP 0 rfl rfl 0 (by decide) (hts _ (List.mem_cons_of_mem _ wd_249)) (fun _ h9 => h9) rfl d_Pn_noteClosest_7 ?_
    refine lv_iload_n hx hb d_Pn_noteClosest_10 rfl (lv_at hl 1 rfl) ?_
    refine lv_aload_n hx hb d_Pn_noteClosest_11 rfl (lv_at hl 0 rfl) ?_
    refine va_get (D := D) (ci := 0) (v := .ref (ob 1)) (C := R_Pn) (T := F_Pn) (N := 8) hx hb hts (fun w h => List.mem_cons_of_mem _ (in_Pn w h)) hown hK hP 0 rfl rfl 0 (by decide) (hts _ (List.mem_cons_of_mem _ wd_249)) (fun _ h9 => h9) rfl d_Pn_noteClosest_12 ?_
    refine lv_iload_n hx hb d_Pn_noteClosest_15 rfl (lv_at hl 2 rfl) ?_
    obtain ⟨q_2, hq_2, hf⟩ := bd_some hf
    refine kc_i (va_runV (As := [.int x2]) (rest := [.int x1, .ref (ob 1)]) ⟨hx, hb, hml, hown, hts⟩ (c_Pt_x l D cA cP ob ad x2  S hq_2 H.size) ⟨callB_of 1 hts (gd_Pt_x) rfl rfl rfl (hts _ (List.mem_cons_of_mem _ wd_65)) (hts _ (List.mem_cons_of_mem _ wd_565)) dd_Pt_x ⟨Nat.le_of_ble_eq_true rfl, Nat.le_of_ble_eq_true rfl⟩, (hts _ (List.mem_cons_of_mem _ wd_401)), (hts _ (List.mem_cons_of_mem _ wd_402))⟩ (kpV hK hP hD hN hZ hS 1 1 rfl rfl) rfl rfl hl.1 rfl (lv_room (Nat.le_of_ble_eq_true rfl)) d_Pn_noteClosest_16 ⟨Nat.le_of_ble_eq_true rfl, Nat.le_of_ble_eq_true rfl⟩) hP hD hS hA (fun r w H locs hw hP hD hS => ?_)
    obtain ⟨rfl, rfl⟩ := hw
    refine lv_aload_n hx hb d_Pn_noteClosest_19 rfl (lv_at hl 0 rfl) ?_
    refine va_get (D := D) (ci := 0) (v := .ref (ob 1)) (C := R_Pn) (T := F_Pn) (N := 8) hx hb hts (fun w h => List.mem_cons_of_mem _ (in_Pn w h)) hown hK hP 0 rfl rfl 0 (by decide) (hts _ (List.mem_cons_of_mem _ wd_249)) (fun _ h9 => h9) rfl d_Pn_noteClosest_20 ?_
    refine lv_iload_n hx hb d_Pn_noteClosest_23 rfl (lv_at hl 2 rfl) ?_
    obtain ⟨q_3, hq_3, hf⟩ := bd_some hf
    refine kc_i (va_runV (As := [.int x2]) (rest := [.int q_2.1, .int x1, .ref (ob 1)]) ⟨hx, hb, hml, hown, hts⟩ (c_Pt_y l D cA cP ob ad x2  q_2.2 hq_3 H.size) ⟨callB_of 1 hts (gd_Pt_y) rfl rfl rfl (hts _ (List.mem_cons_of_mem _ wd_65)) (hts _ (List.mem_cons_of_mem _ wd_566)) dd_Pt_y ⟨Nat.le_of_ble_eq_true rfl, Nat.le_of_ble_eq_true rfl⟩, (hts _ (List.mem_cons_of_mem _ wd_405)), (hts _ (List.mem_cons_of_mem _ wd_406))⟩ (kpV hK hP hD hN hZ hS 1 1 rfl rfl) rfl rfl hl.1 rfl (lv_room (Nat.le_of_ble_eq_true rfl)) d_Pn_noteClosest_24 ⟨Nat.le_of_ble_eq_true rfl, Nat.le_of_ble_eq_true rfl⟩) hP hD hS hA (fun r w H locs hw hP hD hS => ?_)
    obtain ⟨rfl, rfl⟩ := hw
    obtain ⟨q_4, hq_4, hf⟩ := bd_some hf
    refine kc_l (va_runV (As := [.int x1, .int q_2.1, .int q_3.1]) (rest := []) ⟨hx, hb, hml, hown, hts⟩ (c_Pt_gap l D cA cP ob ad x1 q_2.1 q_3.1  q_3.2 hq_4 H.size) ⟨callB_of 3 hts (gd_Pt_gap) rfl rfl rfl (hts _ (List.mem_cons_of_mem _ wd_65)) (hts _ (List.mem_cons_of_mem _ wd_567)) dd_Pt_gap ⟨Nat.le_of_ble_eq_true rfl, Nat.le_of_ble_eq_true rfl⟩, (hts _ (List.mem_cons_of_mem _ wd_502)), (hts _ (List.mem_cons_of_mem _ wd_503))⟩ (kpV hK hP hD hN hZ hS 1 1 rfl rfl) rfl rfl hl.1 rfl (lv_room (Nat.le_of_ble_eq_true rfl)) d_Pn_noteClosest_27 ⟨Nat.le_of_ble_eq_true rfl, Nat.le_of_ble_eq_true rfl⟩) hP hD hS hA (fun r w H locs hw hP hD hS => ?_)
    obtain ⟨rfl, rfl⟩ := hw
    refine lv_lstore_n (lv' := [(3, .long q_4.1), (0, .ref (ob 0)), (1, .int x1), (2, .int x2)]) hx hb d_Pn_noteClosest_30 rfl hl (by decide) rfl (fun ls hl => ?_)
    refine lv_aload_n hx hb d_Pn_noteClosest_31 rfl (lv_at hl 1 rfl) ?_
    refine va_get (D := D) (ci := 0) (v := .int (gi q_4.2 0)) (C := R_Pn) (T := F_Pn) (N := 8) hx hb hts (fun w h => List.mem_cons_of_mem _ (in_Pn w h)) hown hK hP 0 rfl rfl 6 (by decide) (hts _ (List.mem_cons_of_mem _ wd_255)) (fun _ h9 => h9) rfl d_Pn_noteClosest_32 ?_
    refine lv_iconst (v := (-1)) hx hb d_Pn_noteClosest_35 (by decide) ?_
    refine lv_icmp_eq (tgt := 65) hx hb d_Pn_noteClosest_36 (by decide) (fun c_5 => ?_) (fun c_5 => ?_)
    · rw [if_pos c_5] at hf
      exact w_Pn_noteClosest_65 C0 hret    x1 x2 q_4.1 q_4.2 H locs ls hP hD hS (lv_sub hl [1, 2, 3, 0] rfl) hf
    · rw [if_neg c_5] at hf
      refine lv_lload_n hx hb d_Pn_noteClosest_39 rfl (lv_at hl 0 rfl) ?_
      refine lv_aload_n hx hb d_Pn_noteClosest_40 rfl (lv_at hl 1 rfl) ?_
      refine va_get (D := D) (ci := 0) (v := .long (gl q_4.2 0)) (C := R_Pn) (T := F_Pn) (N := 8) hx hb hts (fun w h => List.mem_cons_of_mem _ (in_Pn w h)) hown hK hP 0 rfl rfl 5 (by decide) (hts _ (List.mem_cons_of_mem _ wd_254)) (fun _ h9 => h9) rfl d_Pn_noteClosest_41 ?_
      refine W.lcmp hx hb d_Pn_noteClosest_44 ?_
      refine lv_if_lt (tgt := 65) hx hb d_Pn_noteClosest_45 (by decide) (fun c_6 => ?_) (fun c_6 => ?_)
      · rw [if_pos c_6] at hf
        exact w_Pn_noteClosest_65 C0 hret    x1 x2 q_4.1 q_4.2 H locs ls hP hD hS (lv_sub hl [1, 2, 3, 0] rfl) hf
      · rw [if_neg c_6] at hf
        refine lv_lload_n hx hb d_Pn_noteClosest_48 rfl (lv_at hl 0 rfl) ?_
        refine lv_aload_n hx hb d_Pn_noteClosest_49 rfl (lv_at hl 1 rfl) ?_
        refine va_get (D := D) (ci := 0) (v := .long (gl q_4.2 0)) (C := R_Pn) (T := F_Pn) (N := 8) hx hb hts (fun w h => List.mem_cons_of_mem _ (in_Pn w h)) hown hK hP 0 rfl rfl 5 (by decide) (hts _ (List.mem_cons_of_mem _ wd_254)) (fun _ h9 => h9) rfl d_Pn_noteClosest_50 ?_
        refine W.lcmp hx hb d_Pn_noteClosest_53 ?_
        refine lv_if_ne (tgt := 80) hx hb d_Pn_noteClosest_54 (by decide) (fun c_7 => ?_) (fun c_7 => ?_)
        · rw [if_neg c_7] at hf
          cases hf
          exact hret _ _ _ _ _ rfl hP hD hS d_Pn_noteClosest_80
        · rw [if_pos c_7] at hf
          refine lv_iload_n hx hb d_Pn_noteClosest_57 rfl (lv_at hl 2 rfl) ?_
          refine lv_aload_n hx hb d_Pn_noteClosest_58 rfl (lv_at hl 1 rfl) ?_
          refine va_get (D := D) (ci := 0) (v := .int (gi q_4.2 0)) (C := R_Pn) (T := F_Pn) (N := 8) hx hb hts (fun w h => List.mem_cons_of_mem _ (in_Pn w h)) hown hK hP 0 rfl rfl 6 (by decide) (hts _ (List.mem_cons_of_mem _ wd_255)) (fun _ h9 => h9) rfl d_Pn_noteClosest_59 ?_
          refine lv_icmp_ge (tgt := 80) hx hb d_Pn_noteClosest_62 (by decide) (fun c_8 => ?_) (fun c_8 => ?_)
          · rw [if_pos c_8] at hf
            cases hf
            exact hret _ _ _ _ _ rfl hP hD hS d_Pn_noteClosest_80
          · rw [if_neg c_8] at hf
            exact w_Pn_noteClosest_65 C0 hret    x1 x2 q_4.1 q_4.2 H locs ls hP hD hS (lv_sub hl [1, 2, 3, 0] rfl) hf
  · rw [if_pos c_1] at hf
    cases hf
    exact hret _ _ _ _ _ rfl hP hD hS d_Pn_noteClosest_5
def f_Pn_noteClosest (x1 : Int32) (x2 : Int32) (S : St) : Option St := f_Pn_noteClosest_0  x1 x2 S
theorem c_Pn_noteClosest (l : Launch) (D : va_G) (cA cP : ClassId) (ob : Nat → Nat) (ad : Nat → Nat → Nat) (x1 : Int32) (x2 : Int32)  (S : St) {res : St} (hf : f_Pn_noteClosest x1 x2 S = some res) : CTv l y_Pn_noteClosest w_Pn_noteClosest rm_Pn_noteClosest 0 0 D clC (TY cA cP) [.ref (ob 0), .int x1, .int x2] (cw cA cP ob ad S) (fun w => w = cw cA cP ob ad res) :=
  mk_v (cc := b_Pn_noteClosest) (maxL := 5) (own := R_Pn) (by decide) rfl rfl (Nat.le_of_ble_eq_true rfl) (fun p e s m below meth c A Q C0 hret ls hl hP hD hS => w_Pn_noteClosest_0 C0 hret   x1 x2 S _ _ ls hP hD hS (lv_sub hl [0, 1, 2] rfl) hf)
def f_Nt_isEmpty_0    (S : St) : Option (Int32 × St) :=
  (if (gi S 6) = 0 then
    some (1, S)
    else
    some (0, S))
set_option maxHeartbeats 4000000 in
set_option maxRecDepth 100000 in
theorem w_Nt_isEmpty_0 (C0 : CX p s m args c b_Nt_isEmpty 1 R_Nt w_Nt_isEmpty D clC cA cP A) {res : (Int32 × St)} (hret : RTz p l e rm_Nt_isEmpty s m args below meth c Q D clC A b_Nt_isEmpty 0 0 (fun r w => r = res.1 ∧ w = cw cA cP ob ad res.2))    : ∀  (S : St) (H : Heap) (locs : List Loc) (ls : Array Slot), va_P D clC (cw cA cP ob ad S) H → va_D A (cw cA cP ob ad S) → va_S A s.heap H locs → lv_has ls 1 [(0, .ref (ob 3))] → f_Nt_isEmpty_0    S = some res → W p l e rm_Nt_isEmpty s m args below meth c H locs 0 0 Q (F0 m 0 ls []) := by
  obtain ⟨hx, hb, hml, hown, hts, hK, hA, hN, hZ⟩ := id C0
  intro  S H locs ls hP hD hS hl hf
  rw [f_Nt_isEmpty_0] at hf
  refine lv_aload_n hx hb d_Nt_isEmpty_0 rfl (lv_at hl 0 rfl) ?_
  refine va_get (D := D) (ci := 3) (v := .int (gi S 6)) (C := R_Nt) (T := F_Nt) (N := 13) hx hb hts (fun w h => List.mem_cons_of_mem _ (in_Nt w h)) hown hK hP 3 rfl rfl 9 (by decide) (hts _ (List.mem_cons_of_mem _ wd_167)) (fun _ h9 => h9) rfl d_Nt_isEmpty_1 ?_
  refine lv_if_ne (tgt := 11) hx hb d_Nt_isEmpty_4 (by decide) (fun c_1 => ?_) (fun c_1 => ?_)
  · rw [if_neg c_1] at hf
    refine lv_iconst (v := 0) hx hb d_Nt_isEmpty_11 (by decide) ?_
    cases hf
    exact hret _ _ _ _ _ _ ⟨rfl, rfl⟩ rfl hP hD hS d_Nt_isEmpty_12
  · rw [if_pos c_1] at hf
    refine lv_iconst (v := 1) hx hb d_Nt_isEmpty_7 (by decide) ?_
    refine lv_goto (tgt := 12) hx hb d_Nt_isEmpty_8 (by decide) ?_
    cases hf
    exact hret _ _ _ _ _ _ ⟨rfl, rfl⟩ rfl hP hD hS d_Nt_isEmpty_12
def f_Nt_isEmpty  (S : St) : Option (Int32 × St) := f_Nt_isEmpty_0   S
theorem c_Nt_isEmpty (l : Launch) (D : va_G) (cA cP : ClassId) (ob : Nat → Nat) (ad : Nat → Nat → Nat)   (S : St) {res : (Int32 × St)} (hf : f_Nt_isEmpty  S = some res) : CTi l y_Nt_isEmpty w_Nt_isEmpty rm_Nt_isEmpty 0 0 D clC (TY cA cP) [.ref (ob 3)] (cw cA cP ob ad S) (fun r w => r = res.1 ∧ w = cw cA cP ob ad res.2) :=
  mk_z (cc := b_Nt_isEmpty) (maxL := 1) (own := R_Nt) (by decide) rfl rfl (Nat.le_of_ble_eq_true rfl) (fun p e s m below meth c A Q C0 hret ls hl hP hD hS => w_Nt_isEmpty_0 C0 hret    S _ _ ls hP hD hS (lv_sub hl [0] rfl) hf)
def f_Pt_turn_0   (x1 : Int32) (x2 : Int32) (x3 : Int32) (x4 : Int32) (S : St) : Option (Int64 × St) :=
  bd (f_Rw_get 6 x2 S) (fun q_1 => bd (f_Rw_get 6 x1 q_1.2) (fun q_2 => bn ((Int32.toInt64 q_1.1) - (Int32.toInt64 q_2.1)) (fun x5_3 => bd (f_Rw_get 7 x2 q_2.2) (fun q_4 => bd (f_Rw_get 7 x1 q_4.2) (fun q_5 => bn ((Int32.toInt64 q_4.1) - (Int32.toInt64 q_5.1)) (fun x7_6 => bd (f_Rw_get 6 x1 q_5.2) (fun q_7 => bn ((Int32.toInt64 x3) - (Int32.toInt64 q_7.1)) (fun x9_8 => bd (f_Rw_get 7 x1 q_7.2) (fun q_9 => bn ((Int32.toInt64 x4) - (Int32.toInt64 q_9.1)) (fun x11_10 => some (((x5_3 * x11_10) - (x7_6 * x9_8)), q_9.2)))))))))))
set_option maxHeartbeats 4000000 in
set_option maxRecDepth 100000 in
theorem w_Pt_turn_0 (C0 : CX p s m args c b_Pt_turn 13 R_Pt w_Pt_turn D clC cA cP A) {res : (Int64 × St)} (hret : RTl p l e rm_Pt_turn s m args below meth c Q D clC A b_Pt_turn 0 0 (fun r w => r = res.1 ∧ w = cw cA cP ob ad res.2))    : ∀ (x1 : Int32) (x2 : Int32) (x3 : Int32) (x4 : Int32) (S : St) (H : Heap) (locs : List Loc) (ls : Array Slot), va_P D clC (cw cA cP ob ad S) H → va_D A (cw cA cP ob ad S) → va_S A s.heap H locs → lv_has ls 13 [(0, .ref (ob 1)), (1, .int x1), (2, .int x2), (3, .int x3), (4, .int x4)] → f_Pt_turn_0   x1 x2 x3 x4 S = some res → W p l e rm_Pt_turn s m args below meth c H locs 0 0 Q (F0 m 0 ls []) := by
  obtain ⟨hx, hb, hml, hown, hts, hK, hA, hN, hZ⟩ := id C0
  intro x1 x2 x3 x4 S H locs ls hP hD hS hl hf
  rw [f_Pt_turn_0] at hf
  refine lv_aload_n hx hb d_Pt_turn_0 rfl (lv_at hl 0 rfl) ?_
  refine va_get (D := D) (ci := 1) (v := .ref (ob 6)) (C := R_Pt) (T := F_Pt) (N := 5) hx hb hts (fun w h => List.mem_cons_of_mem _ (in_Pt w h)) hown hK hP 1 rfl rfl 2 (by decide) (hts _ (List.mem_cons_of_mem _ wd_136)) (fun _ h9 => h9) rfl d_Pt_turn_1 ?_
  refine lv_iload_n hx hb d_Pt_turn_4 rfl (lv_at hl 2 rfl) ?_
  obtain ⟨q_1, hq_1, hf⟩ := bd_some hf
  refine kc_i (va_runV (As := [.int x2]) (rest := []) ⟨hx, hb, hml, hown, hts⟩ (c_Rw_get l D cA cP ob ad 6 x2 (by decide) S hq_1 H.size) ⟨callB_of 1 hts (gd_Rw_get) rfl rfl rfl (hts _ (List.mem_cons_of_mem _ wd_67)) (hts _ (List.mem_cons_of_mem _ wd_339)) dd_Rw_get ⟨Nat.le_of_ble_eq_true rfl, Nat.le_of_ble_eq_true rfl⟩, (hts _ (List.mem_cons_of_mem _ wd_340)), (hts _ (List.mem_cons_of_mem _ wd_341))⟩ (kpV hK hP hD hN hZ hS 6 6 rfl rfl) rfl rfl hl.1 rfl (lv_room (Nat.le_of_ble_eq_true rfl)) d_Pt_turn_5 ⟨Nat.le_of_ble_eq_true rfl, Nat.le_of_ble_eq_true rfl⟩) hP hD hS hA (fun r w H locs hw hP hD hS => ?_)
  obtain ⟨rfl, rfl⟩ := hw
  refine lv_i2l (v := (Int32.toInt64 q_1.1)) hx hb d_Pt_turn_8 rfl ?_
  refine lv_aload_n hx hb d_Pt_turn_9 rfl (lv_at hl 0 rfl) ?_
  refine va_get (D := D) (ci := 1) (v := .ref (ob 6)) (C := R_Pt) (T := F_Pt) (N := 5) hx hb hts (fun w h => List.mem_cons_of_mem _ (in_Pt w h)) hown hK hP 1 rfl rfl 2 (by decide) (hts _ (List.mem_cons_of_mem _ wd_136)) (fun _ h9 => h9) rfl d_Pt_turn_10 ?_
  refine lv_iload_n hx hb d_Pt_turn_13 rfl (lv_at hl 1 rfl) ?_
  obtain ⟨q_2, hq_2, hf⟩ := bd_some hf
  refine kc_i (va_runV (As := [.int x1]) (rest := [.long (Int32.toInt64 q_1.1)]) ⟨hx, hb, hml, hown, hts⟩ (c_Rw_get l D cA cP ob ad 6 x1 (by decide) q_1.2 hq_2 H.size) ⟨callB_of 1 hts (gd_Rw_get) rfl rfl rfl (hts _ (List.mem_cons_of_mem _ wd_67)) (hts _ (List.mem_cons_of_mem _ wd_339)) dd_Rw_get ⟨Nat.le_of_ble_eq_true rfl, Nat.le_of_ble_eq_true rfl⟩, (hts _ (List.mem_cons_of_mem _ wd_340)), (hts _ (List.mem_cons_of_mem _ wd_341))⟩ (kpV hK hP hD hN hZ hS 6 6 rfl rfl) rfl rfl hl.1 rfl (lv_room (Nat.le_of_ble_eq_true rfl)) d_Pt_turn_14 ⟨Nat.le_of_ble_eq_true rfl, Nat.le_of_ble_eq_true rfl⟩) hP hD hS hA (fun r w H locs hw hP hD hS => ?_)
  obtain ⟨rfl, rfl⟩ := hw
  refine lv_i2l (v := (Int32.toInt64 q_2.1)) hx hb d_Pt_turn_17 rfl ?_
  refine lv_lsub hx hb d_Pt_turn_18 ?_
  obtain ⟨x5_3, ex5_3, hf⟩ := bn_some hf
  refine tpl ex5_3 ?_
  refine lv_lstore (lv' := [(5, .long x5_3), (0, .ref (ob 1)), (1, .int x1), (2, .int x2), (3, .int x3), (4, .int x4)]) hx hb d_Pt_turn_19 hl (by decide) rfl (fun ls hl => ?_)
  refine lv_aload_n hx hb d_Pt_turn_21 rfl (lv_at hl 1 rfl) ?_
  refine va_get (D := D) (ci := 1) (v := .ref (ob 7)) (C := R_Pt) (T := F_Pt) (N := 5) hx hb hts (fun w h => List.mem_cons_of_mem _ (in_Pt w h)) hown hK hP 1 rfl rfl 3 (by decide) (hts _ (List.mem_cons_of_mem _ wd_137)) (fun _ h9 => h9) rfl d_Pt_turn_22 ?_
  refine lv_iload_n hx hb d_Pt_turn_25 rfl (lv_at hl 3 rfl) ?_
  obtain ⟨q_4, hq_4, hf⟩ := bd_some hf
  refine kc_i (va_runV (As := [.int x2]) (rest := []) ⟨hx, hb, hml, hown, hts⟩ (c_Rw_get l D cA cP ob ad 7 x2 (by decide) q_2.2 hq_4 H.size) ⟨callB_of 1 hts (gd_Rw_get) rfl rfl rfl (hts _ (List.mem_cons_of_mem _ wd_67)) (hts _ (List.mem_cons_of_mem _ wd_339)) dd_Rw_get ⟨Nat.le_of_ble_eq_true rfl, Nat.le_of_ble_eq_true rfl⟩, (hts _ (List.mem_cons_of_mem _ wd_340)), (hts _ (List.mem_cons_of_mem _ wd_341))⟩ (kpV hK hP hD hN hZ hS 6 7 rfl rfl) rfl rfl hl.1 rfl (lv_room (Nat.le_of_ble_eq_true rfl)) d_Pt_turn_26 ⟨Nat.le_of_ble_eq_true rfl, Nat.le_of_ble_eq_true rfl⟩) hP hD hS hA (fun r w H locs hw hP hD hS => ?_)
  obtain ⟨rfl, rfl⟩ := hw
  refine lv_i2l (v := (Int32.toInt64 q_4.1)) hx hb d_Pt_turn_29 rfl ?_
  refine lv_aload_n hx hb d_Pt_turn_30 rfl (lv_at hl 1 rfl) ?_
  refine va_get (D := D) (ci := 1) (v := .ref (ob 7)) (C := R_Pt) (T := F_Pt) (N := 5) hx hb hts (fun w h => List.mem_cons_of_mem _ (in_Pt w h)) hown hK hP 1 rfl rfl 3 (by decide) (hts _ (List.mem_cons_of_mem _ wd_137)) (fun _ h9 => h9) rfl d_Pt_turn_31 ?_
  refine lv_iload_n hx hb d_Pt_turn_34 rfl (lv_at hl 2 rfl) ?_
  obtain ⟨q_5, hq_5, hf⟩ := bd_some hf
  refine kc_i (va_runV (As := [.int x1]) (rest := [.long (Int32.toInt64 q_4.1)]) ⟨hx, hb, hml, hown, hts⟩ (c_Rw_get l D cA cP ob ad 7 x1 (by decide) q_4.2 hq_5 H.size) ⟨callB_of 1 hts (gd_Rw_get) rfl rfl rfl (hts _ (List.mem_cons_of_mem _ wd_67)) (hts _ (List.mem_cons_of_mem _ wd_339)) dd_Rw_get ⟨Nat.le_of_ble_eq_true rfl, Nat.le_of_ble_eq_true rfl⟩, (hts _ (List.mem_cons_of_mem _ wd_340)), (hts _ (List.mem_cons_of_mem _ wd_341))⟩ (kpV hK hP hD hN hZ hS 6 7 rfl rfl) rfl rfl hl.1 rfl (lv_room (Nat.le_of_ble_eq_true rfl)) d_Pt_turn_35 ⟨Nat.le_of_ble_eq_true rfl, Nat.le_of_ble_eq_true rfl⟩) hP hD hS hA (fun r w H locs hw hP hD hS => ?_)
  obtain ⟨rfl, rfl⟩ := hw
  refine lv_i2l (v := (Int32.toInt64 q_5.1)) hx hb d_Pt_turn_38 rfl ?_
  refine lv_lsub hx hb d_Pt_turn_39 ?_
  obtain ⟨x7_6, ex7_6, hf⟩ := bn_some hf
  refine tpl ex7_6 ?_
  refine lv_lstore (lv' := [(7, .long x7_6), (5, .long x5_3), (0, .ref (ob 1)), (1, .int x1), (2, .int x2), (3, .int x3), (4, .int x4)]) hx hb d_Pt_turn_40 hl (by decide) rfl (fun ls hl => ?_)
  refine lv_iload_n hx hb d_Pt_turn_42 rfl (lv_at hl 5 rfl) ?_
  refine lv_i2l (v := (Int32.toInt64 x3)) hx hb d_Pt_turn_43 rfl ?_
  refine lv_aload_n hx hb d_Pt_turn_44 rfl (lv_at hl 2 rfl) ?_
  refine va_get (D := D) (ci := 1) (v := .ref (ob 6)) (C := R_Pt) (T := F_Pt) (N := 5) hx hb hts (fun w h => List.mem_cons_of_mem _ (in_Pt w h)) hown hK hP 1 rfl rfl 2 (by decide) (hts _ (List.mem_cons_of_mem _ wd_136)) (fun _ h9 => h9) rfl d_Pt_turn_45 ?_
  refine lv_iload_n hx hb d_Pt_turn_48 rfl (lv_at hl 3 rfl) ?_
  obtain ⟨q_7, hq_7, hf⟩ := bd_some hf
  refine kc_i (va_runV (As := [.int x1]) (rest := [.long (Int32.toInt64 x3)]) ⟨hx, hb, hml, hown, hts⟩ (c_Rw_get l D cA cP ob ad 6 x1 (by decide) q_5.2 hq_7 H.size) ⟨callB_of 1 hts (gd_Rw_get) rfl rfl rfl (hts _ (List.mem_cons_of_mem _ wd_67)) (hts _ (List.mem_cons_of_mem _ wd_339)) dd_Rw_get ⟨Nat.le_of_ble_eq_true rfl, Nat.le_of_ble_eq_true rfl⟩, (hts _ (List.mem_cons_of_mem _ wd_340)), (hts _ (List.mem_cons_of_mem _ wd_341))⟩ (kpV hK hP hD hN hZ hS 6 6 rfl rfl) rfl rfl hl.1 rfl (lv_room (Nat.le_of_ble_eq_true rfl)) d_Pt_turn_49 ⟨Nat.le_of_ble_eq_true rfl, Nat.le_of_ble_eq_true rfl⟩) hP hD hS hA (fun r w H locs hw hP hD hS => ?_)
  obtain ⟨rfl, rfl⟩ := hw
  refine lv_i2l (v := (Int32.toInt64 q_7.1)) hx hb d_Pt_turn_52 rfl ?_
  refine lv_lsub hx hb d_Pt_turn_53 ?_
  obtain ⟨x9_8, ex9_8, hf⟩ := bn_some hf
  refine tpl ex9_8 ?_
  refine lv_lstore (lv' := [(9, .long x9_8), (7, .long x7_6), (5, .long x5_3), (0, .ref (ob 1)), (1, .int x1), (2, .int x2), (3, .int x3), (4, .int x4)]) hx hb d_Pt_turn_54 hl (by decide) rfl (fun ls hl => ?_)
  refine lv_iload hx hb d_Pt_turn_56 (lv_at hl 7 rfl) ?_
  refine lv_i2l (v := (Int32.toInt64 x4)) hx hb d_Pt_turn_58 rfl ?_
  refine lv_aload_n hx hb d_Pt_turn_59 rfl (lv_at hl 3 rfl) ?_
  refine va_get (D := D) (ci := 1) (v := .ref (ob 7)) (C := R_Pt) (T := F_Pt) (N := 5) hx hb hts (fun w h => List.mem_cons_of_mem _ (in_Pt w h)) hown hK hP 1 rfl rfl 3 (by decide) (hts _ (List.mem_cons_of_mem _ wd_137)) (fun _ h9 => h9) rfl d_Pt_turn_60 ?_
  refine lv_iload_n hx hb d_Pt_turn_63 rfl (lv_at hl 4 rfl) ?_
  obtain ⟨q_9, hq_9, hf⟩ := bd_some hf
  refine kc_i (va_runV (As := [.int x1]) (rest := [.long (Int32.toInt64 x4)]) ⟨hx, hb, hml, hown, hts⟩ (c_Rw_get l D cA cP ob ad 7 x1 (by decide) q_7.2 hq_9 H.size) ⟨callB_of 1 hts (gd_Rw_get) rfl rfl rfl (hts _ (List.mem_cons_of_mem _ wd_67)) (hts _ (List.mem_cons_of_mem _ wd_339)) dd_Rw_get ⟨Nat.le_of_ble_eq_true rfl, Nat.le_of_ble_eq_true rfl⟩, (hts _ (List.mem_cons_of_mem _ wd_340)), (hts _ (List.mem_cons_of_mem _ wd_341))⟩ (kpV hK hP hD hN hZ hS 6 7 rfl rfl) rfl rfl hl.1 rfl (lv_room (Nat.le_of_ble_eq_true rfl)) d_Pt_turn_64 ⟨Nat.le_of_ble_eq_true rfl, Nat.le_of_ble_eq_true rfl⟩) hP hD hS hA (fun r w H locs hw hP hD hS => ?_)
  obtain ⟨rfl, rfl⟩ := hw
  refine lv_i2l (v := (Int32.toInt64 q_9.1)) hx hb d_Pt_turn_67 rfl ?_
  refine lv_lsub hx hb d_Pt_turn_68 ?_
  obtain ⟨x11_10, ex11_10, hf⟩ := bn_some hf
  refine tpl ex11_10 ?_
  refine lv_lstore (lv' := [(11, .long x11_10), (9, .long x9_8), (7, .long x7_6), (5, .long x5_3), (0, .ref (ob 1)), (1, .int x1), (2, .int x2), (3, .int x3), (4, .int x4)]) hx hb d_Pt_turn_69 hl (by decide) rfl (fun ls hl => ?_)
  refine lv_lload hx hb d_Pt_turn_71 (lv_at hl 3 rfl) ?_
  refine lv_lload hx hb d_Pt_turn_73 (lv_at hl 0 rfl) ?_
  refine lv_lmul hx hb d_Pt_turn_75 ?_
  refine lv_lload hx hb d_Pt_turn_76 (lv_at hl 2 rfl) ?_
  refine lv_lload hx hb d_Pt_turn_78 (lv_at hl 1 rfl) ?_
  refine lv_lmul hx hb d_Pt_turn_80 ?_
  refine lv_lsub hx hb d_Pt_turn_81 ?_
  cases hf
  exact hret _ _ _ _ _ _ ⟨rfl, rfl⟩ hP hD hS d_Pt_turn_82
def f_Pt_turn (x1 : Int32) (x2 : Int32) (x3 : Int32) (x4 : Int32) (S : St) : Option (Int64 × St) := f_Pt_turn_0  x1 x2 x3 x4 S
theorem c_Pt_turn (l : Launch) (D : va_G) (cA cP : ClassId) (ob : Nat → Nat) (ad : Nat → Nat → Nat) (x1 : Int32) (x2 : Int32) (x3 : Int32) (x4 : Int32)  (S : St) {res : (Int64 × St)} (hf : f_Pt_turn x1 x2 x3 x4 S = some res) : CTl l y_Pt_turn w_Pt_turn rm_Pt_turn 0 0 D clC (TY cA cP) [.ref (ob 1), .int x1, .int x2, .int x3, .int x4] (cw cA cP ob ad S) (fun r w => r = res.1 ∧ w = cw cA cP ob ad res.2) :=
  mk_l (cc := b_Pt_turn) (maxL := 13) (own := R_Pt) (by decide) rfl rfl (Nat.le_of_ble_eq_true rfl) (fun p e s m below meth c A Q C0 hret ls hl hP hD hS => w_Pt_turn_0 C0 hret   x1 x2 x3 x4 S _ _ ls hP hD hS (lv_sub hl [0, 1, 2, 3, 4] rfl) hf)
def f_Nt_placeOf_0   (x1 : Int32) (S : St) : Option (Int32 × St) :=
  (if x1 = (gi S 4) then
    some (0, S)
    else
    some ((x1 + 1), S))
set_option maxHeartbeats 4000000 in
set_option maxRecDepth 100000 in
theorem w_Nt_placeOf_0 (C0 : CX p s m args c b_Nt_placeOf 2 R_Nt w_Nt_placeOf D clC cA cP A) {res : (Int32 × St)} (hret : RTi p l e rm_Nt_placeOf s m args below meth c Q D clC A b_Nt_placeOf 0 0 (fun r w => r = res.1 ∧ w = cw cA cP ob ad res.2))    : ∀ (x1 : Int32) (S : St) (H : Heap) (locs : List Loc) (ls : Array Slot), va_P D clC (cw cA cP ob ad S) H → va_D A (cw cA cP ob ad S) → va_S A s.heap H locs → lv_has ls 2 [(0, .ref (ob 3)), (1, .int x1)] → f_Nt_placeOf_0   x1 S = some res → W p l e rm_Nt_placeOf s m args below meth c H locs 0 0 Q (F0 m 0 ls []) := by
  obtain ⟨hx, hb, hml, hown, hts, hK, hA, hN, hZ⟩ := id C0
  intro x1 S H locs ls hP hD hS hl hf
  rw [f_Nt_placeOf_0] at hf
  refine lv_iload_n hx hb d_Nt_placeOf_0 rfl (lv_at hl 1 rfl) ?_
  refine lv_aload_n hx hb d_Nt_placeOf_1 rfl (lv_at hl 0 rfl) ?_
  refine va_get (D := D) (ci := 3) (v := .int (gi S 4)) (C := R_Nt) (T := F_Nt) (N := 13) hx hb hts (fun w h => List.mem_cons_of_mem _ (in_Nt w h)) hown hK hP 3 rfl rfl 1 (by decide) (hts _ (List.mem_cons_of_mem _ wd_159)) (fun _ h9 => h9) rfl d_Nt_placeOf_2 ?_
  refine lv_icmp_ne (tgt := 12) hx hb d_Nt_placeOf_5 (by decide) (fun c_1 => ?_) (fun c_1 => ?_)
  · rw [if_neg c_1] at hf
    refine lv_iload_n hx hb d_Nt_placeOf_12 rfl (lv_at hl 1 rfl) ?_
    refine lv_iconst (v := 1) hx hb d_Nt_placeOf_13 (by decide) ?_
    refine lv_iadd hx hb d_Nt_placeOf_14 ?_
    cases hf
    exact hret _ _ _ _ _ _ ⟨rfl, rfl⟩ hP hD hS d_Nt_placeOf_15
  · rw [if_pos c_1] at hf
    refine lv_iconst (v := 0) hx hb d_Nt_placeOf_8 (by decide) ?_
    refine lv_goto (tgt := 15) hx hb d_Nt_placeOf_9 (by decide) ?_
    cases hf
    exact hret _ _ _ _ _ _ ⟨rfl, rfl⟩ hP hD hS d_Nt_placeOf_15
def f_Nt_placeOf (x1 : Int32) (S : St) : Option (Int32 × St) := f_Nt_placeOf_0  x1 S
theorem c_Nt_placeOf (l : Launch) (D : va_G) (cA cP : ClassId) (ob : Nat → Nat) (ad : Nat → Nat → Nat) (x1 : Int32)  (S : St) {res : (Int32 × St)} (hf : f_Nt_placeOf x1 S = some res) : CTi l y_Nt_placeOf w_Nt_placeOf rm_Nt_placeOf 0 0 D clC (TY cA cP) [.ref (ob 3), .int x1] (cw cA cP ob ad S) (fun r w => r = res.1 ∧ w = cw cA cP ob ad res.2) :=
  mk_i (cc := b_Nt_placeOf) (maxL := 2) (own := R_Nt) (by decide) rfl rfl (Nat.le_of_ble_eq_true rfl) (fun p e s m below meth c A Q C0 hret ls hl hP hD hS => w_Nt_placeOf_0 C0 hret   x1 S _ _ ls hP hD hS (lv_sub hl [0, 1] rfl) hf)
def f_Nt_setTriangle_0   (x1 : Int32) (x2 : Int32) (x3 : Int32) (x4 : Int32) (S : St) : Option St :=
  bn (3 * x1) (fun x5_1 => bd (f_Rw_put 8 x5_1 x2 S) (fun q_2 => bd (f_Rw_put 8 (x5_1 + 1) x3 q_2) (fun q_3 => bd (f_Rw_put 8 (x5_1 + 2) x4 q_3) (fun q_4 => bd (f_Nt_placeOf x2 q_4) (fun q_5 => bd (f_Rw_put 10 q_5.1 x5_1 q_5.2) (fun q_6 => bd (f_Nt_placeOf x4 q_6) (fun q_7 => bd (f_Rw_put 10 q_7.1 (x5_1 + 2) q_7.2) (fun q_8 => some q_8))))))))
set_option maxHeartbeats 4000000 in
set_option maxRecDepth 100000 in
theorem w_Nt_setTriangle_0 (C0 : CX p s m args c b_Nt_setTriangle 6 R_Nt w_Nt_setTriangle D clC cA cP A) {res : St} (hret : RTv p l e rm_Nt_setTriangle s m args below meth c Q D clC A b_Nt_setTriangle 0 0 (fun w => w = cw cA cP ob ad res))    : ∀ (x1 : Int32) (x2 : Int32) (x3 : Int32) (x4 : Int32) (S : St) (H : Heap) (locs : List Loc) (ls : Array Slot), va_P D clC (cw cA cP ob ad S) H → va_D A (cw cA cP ob ad S) → va_S A s.heap H locs → lv_has ls 6 [(0, .ref (ob 3)), (1, .int x1), (2, .int x2), (3, .int x3), (4, .int x4)] → f_Nt_setTriangle_0   x1 x2 x3 x4 S = some res → W p l e rm_Nt_setTriangle s m args below meth c H locs 0 0 Q (F0 m 0 ls []) := by
  obtain ⟨hx, hb, hml, hown, hts, hK, hA, hN, hZ⟩ := id C0
  intro x1 x2 x3 x4 S H locs ls hP hD hS hl hf
  rw [f_Nt_setTriangle_0] at hf
  refine lv_iconst (v := 3) hx hb d_Nt_setTriangle_0 (by decide) ?_
  refine lv_iload_n hx hb d_Nt_setTriangle_1 rfl (lv_at hl 1 rfl) ?_
  refine lv_imul hx hb d_Nt_setTriangle_2 ?_
  obtain ⟨x5_1, ex5_1, hf⟩ := bn_some hf
  refine tpi ex5_1 ?_
  refine lv_istore (lv' := [(5, .int x5_1), (0, .ref (ob 3)), (1, .int x1), (2, .int x2), (3, .int x3), (4, .int x4)]) hx hb d_Nt_setTriangle_3 hl (by decide) rfl (fun ls hl => ?_)
  refine lv_aload_n hx hb d_Nt_setTriangle_5 rfl (lv_at hl 1 rfl) ?_
  refine va_get (D := D) (ci := 3) (v := .ref (ob 8)) (C := R_Nt) (T := F_Nt) (N := 13) hx hb hts (fun w h => List.mem_cons_of_mem _ (in_Nt w h)) hown hK hP 3 rfl rfl 2 (by decide) (hts _ (List.mem_cons_of_mem _ wd_160)) (fun _ h9 => h9) rfl d_Nt_setTriangle_6 ?_
  refine lv_iload hx hb d_Nt_setTriangle_9 (lv_at hl 0 rfl) ?_
  refine lv_iload_n hx hb d_Nt_setTriangle_11 rfl (lv_at hl 3 rfl) ?_
  obtain ⟨q_2, hq_2, hf⟩ := bd_some hf
  refine kc_v (va_runV (As := [.int x5_1, .int x2]) (rest := []) ⟨hx, hb, hml, hown, hts⟩ (c_Rw_put l D cA cP ob ad 8 x5_1 x2 (by decide) S hq_2 H.size) ⟨callB_of 2 hts (gd_Rw_put) rfl rfl rfl (hts _ (List.mem_cons_of_mem _ wd_67)) (hts _ (List.mem_cons_of_mem _ wd_582)) dd_Rw_put ⟨Nat.le_of_ble_eq_true rfl, Nat.le_of_ble_eq_true rfl⟩, (hts _ (List.mem_cons_of_mem _ wd_361)), (hts _ (List.mem_cons_of_mem _ wd_362))⟩ (kpV hK hP hD hN hZ hS 6 8 rfl rfl) rfl rfl hl.1 rfl (lv_room (Nat.le_of_ble_eq_true rfl)) d_Nt_setTriangle_12 ⟨Nat.le_of_ble_eq_true rfl, Nat.le_of_ble_eq_true rfl⟩) hP hD hS hA (fun w H locs hw hP hD hS => ?_)
  obtain rfl := hw
  refine lv_aload_n hx hb d_Nt_setTriangle_15 rfl (lv_at hl 1 rfl) ?_
  refine va_get (D := D) (ci := 3) (v := .ref (ob 8)) (C := R_Nt) (T := F_Nt) (N := 13) hx hb hts (fun w h => List.mem_cons_of_mem _ (in_Nt w h)) hown hK hP 3 rfl rfl 2 (by decide) (hts _ (List.mem_cons_of_mem _ wd_160)) (fun _ h9 => h9) rfl d_Nt_setTriangle_16 ?_
  refine lv_iload hx hb d_Nt_setTriangle_19 (lv_at hl 0 rfl) ?_
  refine lv_iconst (v := 1) hx hb d_Nt_setTriangle_21 (by decide) ?_
  refine lv_iadd hx hb d_Nt_setTriangle_22 ?_
  refine lv_iload_n hx hb d_Nt_setTriangle_23 rfl (lv_at hl 4 rfl) ?_
  obtain ⟨q_3, hq_3, hf⟩ := bd_some hf
  refine kc_v (va_runV (As := [.int (x5_1 + 1), .int x3]) (rest := []) ⟨hx, hb, hml, hown, hts⟩ (c_Rw_put l D cA cP ob ad 8 (x5_1 + 1) x3 (by decide) q_2 hq_3 H.size) ⟨callB_of 2 hts (gd_Rw_put) rfl rfl rfl (hts _ (List.mem_cons_of_mem _ wd_67)) (hts _ (List.mem_cons_of_mem _ wd_582)) dd_Rw_put ⟨Nat.le_of_ble_eq_true rfl, Nat.le_of_ble_eq_true rfl⟩, (hts _ (List.mem_cons_of_mem _ wd_361)), (hts _ (List.mem_cons_of_mem _ wd_362))⟩ (kpV hK hP hD hN hZ hS 6 8 rfl rfl) rfl rfl hl.1 rfl (lv_room (Nat.le_of_ble_eq_true rfl)) d_Nt_setTriangle_24 ⟨Nat.le_of_ble_eq_true rfl, Nat.le_of_ble_eq_true rfl⟩) hP hD hS hA (fun w H locs hw hP hD hS => ?_)
  obtain rfl := hw
  refine lv_aload_n hx hb d_Nt_setTriangle_27 rfl (lv_at hl 1 rfl) ?_
  refine va_get (D := D) (ci := 3) (v := .ref (ob 8)) (C := R_Nt) (T := F_Nt) (N := 13) hx hb hts (fun w h => List.mem_cons_of_mem _ (in_Nt w h)) hown hK hP 3 rfl rfl 2 (by decide) (hts _ (List.mem_cons_of_mem _ wd_160)) (fun _ h9 => h9) rfl d_Nt_setTriangle_28 ?_
  refine lv_iload hx hb d_Nt_setTriangle_31 (lv_at hl 0 rfl) ?_
  refine lv_iconst (v := 2) hx hb d_Nt_setTriangle_33 (by decide) ?_
  refine lv_iadd hx hb d_Nt_setTriangle_34 ?_
  refine lv_iload hx hb d_Nt_setTriangle_35 (lv_at hl 5 rfl) ?_
  obtain ⟨q_4, hq_4, hf⟩ := bd_some hf
  refine kc_v (va_runV (As := [.int (x5_1 + 2), .int x4]) (rest := []) ⟨hx, hb, hml, hown, hts⟩ (c_Rw_put l D cA cP ob ad 8 (x5_1 + 2) x4 (by decide) q_3 hq_4 H.size) ⟨callB_of 2 hts (gd_Rw_put) rfl rfl rfl (hts _ (List.mem_cons_of_mem _ wd_67)) (hts _ (List.mem_cons_of_mem _ wd_582)) dd_Rw_put ⟨Nat.le_of_ble_eq_true rfl, Nat.le_of_ble_eq_true rfl⟩, (hts _ (List.mem_cons_of_mem _ wd_361)), (hts _ (List.mem_cons_of_mem _ wd_362))⟩ (kpV hK hP hD hN hZ hS 6 8 rfl rfl) rfl rfl hl.1 rfl (lv_room (Nat.le_of_ble_eq_true rfl)) d_Nt_setTriangle_37 ⟨Nat.le_of_ble_eq_true rfl, Nat.le_of_ble_eq_true rfl⟩) hP hD hS hA (fun w H locs hw hP hD hS => ?_)
  obtain rfl := hw
  refine lv_aload_n hx hb d_Nt_setTriangle_40 rfl (lv_at hl 1 rfl) ?_
  refine va_get (D := D) (ci := 3) (v := .ref (ob 10)) (C := R_Nt) (T := F_Nt) (N := 13) hx hb hts (fun w h => List.mem_cons_of_mem _ (in_Nt w h)) hown hK hP 3 rfl rfl 4 (by decide) (hts _ (List.mem_cons_of_mem _ wd_162)) (fun _ h9 => h9) rfl d_Nt_setTriangle_41 ?_
  refine lv_aload_n hx hb d_Nt_setTriangle_44 rfl (lv_at hl 1 rfl) ?_
  refine lv_iload_n hx hb d_Nt_setTriangle_45 rfl (lv_at hl 3 rfl) ?_
  obtain ⟨q_5, hq_5, hf⟩ := bd_some hf
  refine kc_i (va_runV (As := [.int x2]) (rest := [.ref (ob 10)]) ⟨hx, hb, hml, hown, hts⟩ (c_Nt_placeOf l D cA cP ob ad x2  q_4 hq_5 H.size) ⟨callB_of 1 hts (gd_Nt_placeOf) rfl rfl rfl (hts _ (List.mem_cons_of_mem _ wd_69)) (hts _ (List.mem_cons_of_mem _ wd_372)) dd_Nt_placeOf ⟨Nat.le_of_ble_eq_true rfl, Nat.le_of_ble_eq_true rfl⟩, (hts _ (List.mem_cons_of_mem _ wd_374)), (hts _ (List.mem_cons_of_mem _ wd_8))⟩ (kpV hK hP hD hN hZ hS 3 3 rfl rfl) rfl rfl hl.1 rfl (lv_room (Nat.le_of_ble_eq_true rfl)) d_Nt_setTriangle_46 ⟨Nat.le_of_ble_eq_true rfl, Nat.le_of_ble_eq_true rfl⟩) hP hD hS hA (fun r w H locs hw hP hD hS => ?_)
  obtain ⟨rfl, rfl⟩ := hw
  refine lv_iload hx hb d_Nt_setTriangle_49 (lv_at hl 0 rfl) ?_
  obtain ⟨q_6, hq_6, hf⟩ := bd_some hf
  refine kc_v (va_runV (As := [.int q_5.1, .int x5_1]) (rest := []) ⟨hx, hb, hml, hown, hts⟩ (c_Rw_put l D cA cP ob ad 10 q_5.1 x5_1 (by decide) q_5.2 hq_6 H.size) ⟨callB_of 2 hts (gd_Rw_put) rfl rfl rfl (hts _ (List.mem_cons_of_mem _ wd_67)) (hts _ (List.mem_cons_of_mem _ wd_582)) dd_Rw_put ⟨Nat.le_of_ble_eq_true rfl, Nat.le_of_ble_eq_true rfl⟩, (hts _ (List.mem_cons_of_mem _ wd_361)), (hts _ (List.mem_cons_of_mem _ wd_362))⟩ (kpV hK hP hD hN hZ hS 6 10 rfl rfl) rfl rfl hl.1 rfl (lv_room (Nat.le_of_ble_eq_true rfl)) d_Nt_setTriangle_51 ⟨Nat.le_of_ble_eq_true rfl, Nat.le_of_ble_eq_true rfl⟩) hP hD hS hA (fun w H locs hw hP hD hS => ?_)
  obtain rfl := hw
  refine lv_aload_n hx hb d_Nt_setTriangle_54 rfl (lv_at hl 1 rfl) ?_
  refine va_get (D := D) (ci := 3) (v := .ref (ob 10)) (C := R_Nt) (T := F_Nt) (N := 13) hx hb hts (fun w h => List.mem_cons_of_mem _ (in_Nt w h)) hown hK hP 3 rfl rfl 4 (by decide) (hts _ (List.mem_cons_of_mem _ wd_162)) (fun _ h9 => h9) rfl d_Nt_setTriangle_55 ?_
  refine lv_aload_n hx hb d_Nt_setTriangle_58 rfl (lv_at hl 1 rfl) ?_
  refine lv_iload hx hb d_Nt_setTriangle_59 (lv_at hl 5 rfl) ?_
  obtain ⟨q_7, hq_7, hf⟩ := bd_some hf
  refine kc_i (va_runV (As := [.int x4]) (rest := [.ref (ob 10)]) ⟨hx, hb, hml, hown, hts⟩ (c_Nt_placeOf l D cA cP ob ad x4  q_6 hq_7 H.size) ⟨callB_of 1 hts (gd_Nt_placeOf) rfl rfl rfl (hts _ (List.mem_cons_of_mem _ wd_69)) (hts _ (List.mem_cons_of_mem _ wd_372)) dd_Nt_placeOf ⟨Nat.le_of_ble_eq_true rfl, Nat.le_of_ble_eq_true rfl⟩, (hts _ (List.mem_cons_of_mem _ wd_374)), (hts _ (List.mem_cons_of_mem _ wd_8))⟩ (kpV hK hP hD hN hZ hS 3 3 rfl rfl) rfl rfl hl.1 rfl (lv_room (Nat.le_of_ble_eq_true rfl)) d_Nt_setTriangle_61 ⟨Nat.le_of_ble_eq_true rfl, Nat.le_of_ble_eq_true rfl⟩) hP hD hS hA (fun r w H locs hw hP hD hS => ?_)
  obtain ⟨rfl, rfl⟩ := hw
  refine lv_iload hx hb d_Nt_setTriangle_64 (lv_at hl 0 rfl) ?_
  refine lv_iconst (v := 2) hx hb d_Nt_setTriangle_66 (by decide) ?_
  refine lv_iadd hx hb d_Nt_setTriangle_67 ?_
  obtain ⟨q_8, hq_8, hf⟩ := bd_some hf
  refine kc_v (va_runV (As := [.int q_7.1, .int (x5_1 + 2)]) (rest := []) ⟨hx, hb, hml, hown, hts⟩ (c_Rw_put l D cA cP ob ad 10 q_7.1 (x5_1 + 2) (by decide) q_7.2 hq_8 H.size) ⟨callB_of 2 hts (gd_Rw_put) rfl rfl rfl (hts _ (List.mem_cons_of_mem _ wd_67)) (hts _ (List.mem_cons_of_mem _ wd_582)) dd_Rw_put ⟨Nat.le_of_ble_eq_true rfl, Nat.le_of_ble_eq_true rfl⟩, (hts _ (List.mem_cons_of_mem _ wd_361)), (hts _ (List.mem_cons_of_mem _ wd_362))⟩ (kpV hK hP hD hN hZ hS 6 10 rfl rfl) rfl rfl hl.1 rfl (lv_room (Nat.le_of_ble_eq_true rfl)) d_Nt_setTriangle_68 ⟨Nat.le_of_ble_eq_true rfl, Nat.le_of_ble_eq_true rfl⟩) hP hD hS hA (fun w H locs hw hP hD hS => ?_)
  obtain rfl := hw
  cases hf
  exact hret _ _ _ _ _ rfl hP hD hS d_Nt_setTriangle_71
def f_Nt_setTriangle (x1 : Int32) (x2 : Int32) (x3 : Int32) (x4 : Int32) (S : St) : Option St := f_Nt_setTriangle_0  x1 x2 x3 x4 S
theorem c_Nt_setTriangle (l : Launch) (D : va_G) (cA cP : ClassId) (ob : Nat → Nat) (ad : Nat → Nat → Nat) (x1 : Int32) (x2 : Int32) (x3 : Int32) (x4 : Int32)  (S : St) {res : St} (hf : f_Nt_setTriangle x1 x2 x3 x4 S = some res) : CTv l y_Nt_setTriangle w_Nt_setTriangle rm_Nt_setTriangle 0 0 D clC (TY cA cP) [.ref (ob 3), .int x1, .int x2, .int x3, .int x4] (cw cA cP ob ad S) (fun w => w = cw cA cP ob ad res) :=
  mk_v (cc := b_Nt_setTriangle) (maxL := 6) (own := R_Nt) (by decide) rfl rfl (Nat.le_of_ble_eq_true rfl) (fun p e s m below meth c A Q C0 hret ls hl hP hD hS => w_Nt_setTriangle_0 C0 hret   x1 x2 x3 x4 S _ _ ls hP hD hS (lv_sub hl [0, 1, 2, 3, 4] rfl) hf)
def f_Nt_join_0   (x1 : Int32) (x2 : Int32) (S : St) : Option St :=
  bd (f_Rw_put 9 x1 x2 S) (fun q_1 => bd (f_Rw_put 9 x2 x1 q_1) (fun q_2 => some q_2))
set_option maxHeartbeats 4000000 in
set_option maxRecDepth 100000 in
theorem w_Nt_join_0 (C0 : CX p s m args c b_Nt_join 3 R_Nt w_Nt_join D clC cA cP A) {res : St} (hret : RTv p l e rm_Nt_join s m args below meth c Q D clC A b_Nt_join 0 0 (fun w => w = cw cA cP ob ad res))    : ∀ (x1 : Int32) (x2 : Int32) (S : St) (H : Heap) (locs : List Loc) (ls : Array Slot), va_P D clC (cw cA cP ob ad S) H → va_D A (cw cA cP ob ad S) → va_S A s.heap H locs → lv_has ls 3 [(0, .ref (ob 3)), (1, .int x1), (2, .int x2)] → f_Nt_join_0   x1 x2 S = some res → W p l e rm_Nt_join s m args below meth c H locs 0 0 Q (F0 m 0 ls []) := by
  obtain ⟨hx, hb, hml, hown, hts, hK, hA, hN, hZ⟩ := id C0
  intro x1 x2 S H locs ls hP hD hS hl hf
  rw [f_Nt_join_0] at hf
  refine lv_aload_n hx hb d_Nt_join_0 rfl (lv_at hl 0 rfl) ?_
  refine va_get (D := D) (ci := 3) (v := .ref (ob 9)) (C := R_Nt) (T := F_Nt) (N := 13) hx hb hts (fun w h => List.mem_cons_of_mem _ (in_Nt w h)) hown hK hP 3 rfl rfl 3 (by decide) (hts _ (List.mem_cons_of_mem _ wd_161)) (fun _ h9 => h9) rfl d_Nt_join_1 ?_
  refine lv_iload_n hx hb d_Nt_join_4 rfl (lv_at hl 1 rfl) ?_
  refine lv_iload_n hx hb d_Nt_join_5 rfl (lv_at hl 2 rfl) ?_
  obtain ⟨q_1, hq_1, hf⟩ := bd_some hf
  refine kc_v (va_runV (As := [.int x1, .int x2]) (rest := []) ⟨hx, hb, hml, hown, hts⟩ (c_Rw_put l D cA cP ob ad 9 x1 x2 (by decide) S hq_1 H.size) ⟨callB_of 2 hts (gd_Rw_put) rfl rfl rfl (hts _ (List.mem_cons_of_mem _ wd_67)) (hts _ (List.mem_cons_of_mem _ wd_582)) dd_Rw_put ⟨Nat.le_of_ble_eq_true rfl, Nat.le_of_ble_eq_true rfl⟩, (hts _ (List.mem_cons_of_mem _ wd_361)), (hts _ (List.mem_cons_of_mem _ wd_362))⟩ (kpV hK hP hD hN hZ hS 6 9 rfl rfl) rfl rfl hl.1 rfl (lv_room (Nat.le_of_ble_eq_true rfl)) d_Nt_join_6 ⟨Nat.le_of_ble_eq_true rfl, Nat.le_of_ble_eq_true rfl⟩) hP hD hS hA (fun w H locs hw hP hD hS => ?_)
  obtain rfl := hw
  refine lv_aload_n hx hb d_Nt_join_9 rfl (lv_at hl 0 rfl) ?_
  refine va_get (D := D) (ci := 3) (v := .ref (ob 9)) (C := R_Nt) (T := F_Nt) (N := 13) hx hb hts (fun w h => List.mem_cons_of_mem _ (in_Nt w h)) hown hK hP 3 rfl rfl 3 (by decide) (hts _ (List.mem_cons_of_mem _ wd_161)) (fun _ h9 => h9) rfl d_Nt_join_10 ?_
  refine lv_iload_n hx hb d_Nt_join_13 rfl (lv_at hl 2 rfl) ?_
  refine lv_iload_n hx hb d_Nt_join_14 rfl (lv_at hl 1 rfl) ?_
  obtain ⟨q_2, hq_2, hf⟩ := bd_some hf
  refine kc_v (va_runV (As := [.int x2, .int x1]) (rest := []) ⟨hx, hb, hml, hown, hts⟩ (c_Rw_put l D cA cP ob ad 9 x2 x1 (by decide) q_1 hq_2 H.size) ⟨callB_of 2 hts (gd_Rw_put) rfl rfl rfl (hts _ (List.mem_cons_of_mem _ wd_67)) (hts _ (List.mem_cons_of_mem _ wd_582)) dd_Rw_put ⟨Nat.le_of_ble_eq_true rfl, Nat.le_of_ble_eq_true rfl⟩, (hts _ (List.mem_cons_of_mem _ wd_361)), (hts _ (List.mem_cons_of_mem _ wd_362))⟩ (kpV hK hP hD hN hZ hS 6 9 rfl rfl) rfl rfl hl.1 rfl (lv_room (Nat.le_of_ble_eq_true rfl)) d_Nt_join_15 ⟨Nat.le_of_ble_eq_true rfl, Nat.le_of_ble_eq_true rfl⟩) hP hD hS hA (fun w H locs hw hP hD hS => ?_)
  obtain rfl := hw
  cases hf
  exact hret _ _ _ _ _ rfl hP hD hS d_Nt_join_18
def f_Nt_join (x1 : Int32) (x2 : Int32) (S : St) : Option St := f_Nt_join_0  x1 x2 S
theorem c_Nt_join (l : Launch) (D : va_G) (cA cP : ClassId) (ob : Nat → Nat) (ad : Nat → Nat → Nat) (x1 : Int32) (x2 : Int32)  (S : St) {res : St} (hf : f_Nt_join x1 x2 S = some res) : CTv l y_Nt_join w_Nt_join rm_Nt_join 0 0 D clC (TY cA cP) [.ref (ob 3), .int x1, .int x2] (cw cA cP ob ad S) (fun w => w = cw cA cP ob ad res) :=
  mk_v (cc := b_Nt_join) (maxL := 3) (own := R_Nt) (by decide) rfl rfl (Nat.le_of_ble_eq_true rfl) (fun p e s m below meth c A Q C0 hret ls hl hP hD hS => w_Nt_join_0 C0 hret   x1 x2 S _ _ ls hP hD hS (lv_sub hl [0, 1, 2] rfl) hf)
end
