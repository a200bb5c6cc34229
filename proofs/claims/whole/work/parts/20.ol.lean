section
variable {p : Program} {l : Launch} {e : Env} {s : State} {m : MethodId} {args : Array Value} {below : List Frame} {meth : Method} {c : Code} {Q : State → Prop} {D : va_G} {cA cP : ClassId} {ob : Nat → Nat} {ad : Nat → Nat → Nat} {A : Nat → Prop}
def f_Ol_draw_34    (S : St) : Option St :=
  bn (seti S 12 1) (fun S_1 => some S_1)
set_option maxHeartbeats 4000000 in
set_option maxRecDepth 100000 in
theorem w_Ol_draw_34 (C0 : CX p s m args c b_Ol_draw 1 R_Ol w_Ol_draw D clC cA cP A) {res : St} (hret : RTv p l e rm_Ol_draw s m args below meth c Q D clC A b_Ol_draw 0 0 (fun w => w = cw cA cP ob ad res))    : ∀  (S : St) (H : Heap) (locs : List Loc) (ls : Array Slot), va_P D clC (cw cA cP ob ad S) H → va_D A (cw cA cP ob ad S) → va_S A s.heap H locs → lv_has ls 1 [(0, .ref (ob 5))] → f_Ol_draw_34    S = some res → W p l e rm_Ol_draw s m args below meth c H locs 0 0 Q (F0 m 34 ls []) := by
  obtain ⟨hx, hb, hml, hown, hts, hK, hA, hN, hZ⟩ := id C0
  intro  S H locs ls hP hD hS hl hf
  rw [f_Ol_draw_34] at hf
  refine lv_aload_n hx hb d_Ol_draw_34 rfl (lv_at hl 0 rfl) ?_
  refine lv_iconst (v := 1) hx hb d_Ol_draw_35 (by decide) ?_
  obtain ⟨S_1, eS_1, hf⟩ := bn_some hf
  refine va_put (D := D) (ci := 5) (v := .int 1) (ty := .boolean) (C := R_Ol) (T := F_Ol) (N := 5) hx hb hts (fun w h => List.mem_cons_of_mem _ (in_Ol w h)) t_Ol tk_Ol nk_Ol hown hK hP hD hS 5 rfl rfl 4 (by decide) (hts _ (List.mem_cons_of_mem _ wd_237)) (fun _ h9 => h9) rfl (by decide +kernel) rfl rfl (Nat.le_of_ble_eq_true rfl) d_Ol_draw_36 (fun H locs hP hD hS => ?_)
  have hP : va_P D clC (cw cA cP ob ad S_1) H := by rw [eS_1]; exact hP
  have hD : va_D A (cw cA cP ob ad S_1) := by rw [eS_1]; exact hD
  cases hf
  exact hret _ _ _ _ _ rfl hP hD hS d_Ol_draw_39
def f_Ol_draw_0    (S : St) : Option St :=
  (if (gi S 12) = 0 then
    bn (seti S 11 0) (fun S_2 => bd (f_Nt_isEmpty  S_2) (fun q_3 => (if q_3.1 = 0 then
      bd (f_Ol_drawRound  q_3.2) (fun q_5 => f_Ol_draw_34    q_5)
      else
      bd (f_Ol_drawLine  q_3.2) (fun q_6 => f_Ol_draw_34    q_6))))
    else
    some S)
set_option maxHeartbeats 4000000 in
set_option maxRecDepth 100000 in
theorem w_Ol_draw_0 (C0 : CX p s m args c b_Ol_draw 1 R_Ol w_Ol_draw D clC cA cP A) {res : St} (hret : RTv p l e rm_Ol_draw s m args below meth c Q D clC A b_Ol_draw 0 0 (fun w => w = cw cA cP ob ad res))    : ∀  (S : St) (H : Heap) (locs : List Loc) (ls : Array Slot), va_P D clC (cw cA cP ob ad S) H → va_D A (cw cA cP ob ad S) → va_S A s.heap H locs → lv_has ls 1 [(0, .ref (ob 5))] → f_Ol_draw_0    S = some res → W p l e rm_Ol_draw s m args below meth c H locs 0 0 Q (F0 m 0 ls []) := by
  obtain ⟨hx, hb, hml, hown, hts, hK, hA, hN, hZ⟩ := id C0
  intro  S H locs ls hP hD hS hl hf
  rw [f_Ol_draw_0] at hf
  refine lv_aload_n hx hb d_Ol_draw_0 rfl (lv_at hl 0 rfl) ?_
  refine va_get (D := D) (ci := 5) (v := .int (gi S 12)) (C := R_Ol) (T := F_Ol) (N := 5) hx hb hts (fun w h => List.mem_cons_of_mem _ (in_Ol w h)) hown hK hP 5 rfl rfl 4 (by decide) (hts _ (List.mem_cons_of_mem _ wd_237)) (fun _ h9 => h9) rfl d_Ol_draw_1 ?_
  refine lv_if_eq (tgt := 8) hx hb d_Ol_draw_4 (by decide) (fun c_1 => ?_) (fun c_1 => ?_)
  · rw [if_pos c_1] at hf
    refine lv_aload_n hx hb d_Ol_draw_8 rfl (lv_at hl 0 rfl) ?_
    refine lv_iconst (v := 0) hx hb d_Ol_draw_9 (by decide) ?_
    obtain ⟨S_2, eS_2, hf⟩ := bn_some hf
    refine va_put (D := D) (ci := 5) (v := .int 0) (ty := .int) (C := R_Ol) (T := F_Ol) (N := 5) hx hb hts (fun w h => List.mem_cons_of_mem _ (in_Ol w h)) t_Ol tk_Ol nk_Ol hown hK hP hD hS 5 rfl rfl 3 (by decide) (hts _ (List.mem_cons_of_mem _ wd_236)) (fun _ h9 => h9) rfl (by decide +kernel) rfl rfl (Nat.le_of_ble_eq_true rfl) d_Ol_draw_10 (fun H locs hP hD hS => ?_)
    have hP : va_P D clC (cw cA cP ob ad S_2) H := by rw [eS_2]; exact hP
    have hD : va_D A (cw cA cP ob ad S_2) := by rw [eS_2]; exact hD
    refine lv_aload_n hx hb d_Ol_draw_13 rfl (lv_at hl 0 rfl) ?_
    refine va_get (D := D) (ci := 5) (v := .ref (ob 3)) (C := R_Ol) (T := F_Ol) (N := 5) hx hb hts (fun w h => List.mem_cons_of_mem _ (in_Ol w h)) hown hK hP 5 rfl rfl 1 (by decide) (hts _ (List.mem_cons_of_mem _ wd_234)) (fun _ h9 => h9) rfl d_Ol_draw_14 ?_
    obtain ⟨q_3, hq_3, hf⟩ := bd_some hf
    refine kc_i (va_runV (As := []) (rest := []) ⟨hx, hb, hml, hown, hts⟩ (c_Nt_isEmpty l D cA cP ob ad   S_2 hq_3 H.size) ⟨callB_of 0 hts (gd_Nt_isEmpty) rfl rfl rfl (hts _ (List.mem_cons_of_mem _ wd_69)) (hts _ (List.mem_cons_of_mem _ wd_322)) dd_Nt_isEmpty ⟨Nat.le_of_ble_eq_true rfl, Nat.le_of_ble_eq_true rfl⟩, (hts _ (List.mem_cons_of_mem _ wd_323)), (hts _ (List.mem_cons_of_mem _ wd_324))⟩ (kpV hK hP hD hN hZ hS 3 3 rfl rfl) rfl rfl hl.1 rfl (lv_room (Nat.le_of_ble_eq_true rfl)) d_Ol_draw_17 ⟨Nat.le_of_ble_eq_true rfl, Nat.le_of_ble_eq_true rfl⟩) hP hD hS hA (fun r w H locs hw hP hD hS => ?_)
    obtain ⟨rfl, rfl⟩ := hw
    refine lv_if_eq (tgt := 30) hx hb d_Ol_draw_20 (by decide) (fun c_4 => ?_) (fun c_4 => ?_)
    · rw [if_pos c_4] at hf
      refine lv_aload_n hx hb d_Ol_draw_30 rfl (lv_at hl 0 rfl) ?_
      obtain ⟨q_5, hq_5, hf⟩ := bd_some hf
      refine kc_v (va_runV (As := []) (rest := []) ⟨hx, hb, hml, hown, hts⟩ (c_Ol_drawRound l D cA cP ob ad   q_3.2 hq_5 H.size) ⟨callB_of 0 hts (gd_Ol_drawRound) rfl rfl rfl (hts _ (List.mem_cons_of_mem _ wd_71)) (hts _ (List.mem_cons_of_mem _ wd_364)) dd_Ol_drawRound ⟨Nat.le_of_ble_eq_true rfl, Nat.le_of_ble_eq_true rfl⟩, (hts _ (List.mem_cons_of_mem _ wd_366)), (hts _ (List.mem_cons_of_mem _ wd_7))⟩ (kpV hK hP hD hN hZ hS 5 5 rfl rfl) rfl rfl hl.1 rfl (lv_room (Nat.le_of_ble_eq_true rfl)) d_Ol_draw_31 ⟨Nat.le_of_ble_eq_true rfl, Nat.le_of_ble_eq_true rfl⟩) hP hD hS hA (fun w H locs hw hP hD hS => ?_)
      obtain rfl := hw
      exact w_Ol_draw_34 C0 hret     q_5 H locs ls hP hD hS (lv_sub hl [0] rfl) hf
    · rw [if_neg c_4] at hf
      refine lv_aload_n hx hb d_Ol_draw_23 rfl (lv_at hl 0 rfl) ?_
      obtain ⟨q_6, hq_6, hf⟩ := bd_some hf
      refine kc_v (va_runV (As := []) (rest := []) ⟨hx, hb, hml, hown, hts⟩ (c_Ol_drawLine l D cA cP ob ad   q_3.2 hq_6 H.size) ⟨callB_of 0 hts (gd_Ol_drawLine) rfl rfl rfl (hts _ (List.mem_cons_of_mem _ wd_71)) (hts _ (List.mem_cons_of_mem _ wd_326)) dd_Ol_drawLine ⟨Nat.le_of_ble_eq_true rfl, Nat.le_of_ble_eq_true rfl⟩, (hts _ (List.mem_cons_of_mem _ wd_328)), (hts _ (List.mem_cons_of_mem _ wd_3))⟩ (kpV hK hP hD hN hZ hS 5 5 rfl rfl) rfl rfl hl.1 rfl (lv_room (Nat.le_of_ble_eq_true rfl)) d_Ol_draw_24 ⟨Nat.le_of_ble_eq_true rfl, Nat.le_of_ble_eq_true rfl⟩) hP hD hS hA (fun w H locs hw hP hD hS => ?_)
      obtain rfl := hw
      refine lv_goto (tgt := 34) hx hb d_Ol_draw_27 (by decide) ?_
      exact w_Ol_draw_34 C0 hret     q_6 H locs ls hP hD hS (lv_sub hl [0] rfl) hf
  · rw [if_neg c_1] at hf
    cases hf
    exact hret _ _ _ _ _ rfl hP hD hS d_Ol_draw_7
def f_Ol_draw  (S : St) : Option St := f_Ol_draw_0   S
theorem c_Ol_draw (l : Launch) (D : va_G) (cA cP : ClassId) (ob : Nat → Nat) (ad : Nat → Nat → Nat)   (S : St) {res : St} (hf : f_Ol_draw  S = some res) : CTv l y_Ol_draw w_Ol_draw rm_Ol_draw 0 0 D clC (TY cA cP) [.ref (ob 5)] (cw cA cP ob ad S) (fun w => w = cw cA cP ob ad res) :=
  mk_v (cc := b_Ol_draw) (maxL := 1) (own := R_Ol) (by decide) rfl rfl (Nat.le_of_ble_eq_true rfl) (fun p e s m below meth c A Q C0 hret ls hl hP hD hS => w_Ol_draw_0 C0 hret    S _ _ ls hP hD hS (lv_sub hl [0] rfl) hf)
def f_Ol_many_0    (S : St) : Option (Int32 × St) :=
  bd (f_Ol_draw  S) (fun q_1 => some ((gi q_1 11), q_1))
set_option maxHeartbeats 4000000 in
set_option maxRecDepth 100000 in
theorem w_Ol_many_0 (C0 : CX p s m args c b_Ol_many 1 R_Ol w_Ol_many D clC cA cP A) {res : (Int32 × St)} (hret : RTi p l e rm_Ol_many s m args below meth c Q D clC A b_Ol_many 0 0 (fun r w => r = res.1 ∧ w = cw cA cP ob ad res.2))    : ∀  (S : St) (H : Heap) (locs : List Loc) (ls : Array Slot), va_P D clC (cw cA cP ob ad S) H → va_D A (cw cA cP ob ad S) → va_S A s.heap H locs → lv_has ls 1 [(0, .ref (ob 5))] → f_Ol_many_0    S = some res → W p l e rm_Ol_many s m args below meth c H locs 0 0 Q (F0 m 0 ls []) := by
  obtain ⟨hx, hb, hml, hown, hts, hK, hA, hN, hZ⟩ := id C0
  intro  S H locs ls hP hD hS hl hf
  rw [f_Ol_many_0] at hf
  refine lv_aload_n hx hb d_Ol_many_0 rfl (lv_at hl 0 rfl) ?_
  obtain ⟨q_1, hq_1, hf⟩ := bd_some hf
  refine kc_v (va_runV (As := []) (rest := []) ⟨hx, hb, hml, hown, hts⟩ (c_Ol_draw l D cA cP ob ad   S hq_1 H.size) ⟨callB_of 0 hts (gd_Ol_draw) rfl rfl rfl (hts _ (List.mem_cons_of_mem _ wd_71)) (hts _ (List.mem_cons_of_mem _ wd_318)) dd_Ol_draw ⟨Nat.le_of_ble_eq_true rfl, Nat.le_of_ble_eq_true rfl⟩, (hts _ (List.mem_cons_of_mem _ wd_320)), (hts _ (List.mem_cons_of_mem _ wd_2))⟩ (kpV hK hP hD hN hZ hS 5 5 rfl rfl) rfl rfl hl.1 rfl (lv_room (Nat.le_of_ble_eq_true rfl)) d_Ol_many_1 ⟨Nat.le_of_ble_eq_true rfl, Nat.le_of_ble_eq_true rfl⟩) hP hD hS hA (fun w H locs hw hP hD hS => ?_)
  obtain rfl := hw
  refine lv_aload_n hx hb d_Ol_many_4 rfl (lv_at hl 0 rfl) ?_
  refine va_get (D := D) (ci := 5) (v := .int (gi q_1 11)) (C := R_Ol) (T := F_Ol) (N := 5) hx hb hts (fun w h => List.mem_cons_of_mem _ (in_Ol w h)) hown hK hP 5 rfl rfl 3 (by decide) (hts _ (List.mem_cons_of_mem _ wd_236)) (fun _ h9 => h9) rfl d_Ol_many_5 ?_
  cases hf
  exact hret _ _ _ _ _ _ ⟨rfl, rfl⟩ hP hD hS d_Ol_many_8
def f_Ol_many  (S : St) : Option (Int32 × St) := f_Ol_many_0   S
theorem c_Ol_many (l : Launch) (D : va_G) (cA cP : ClassId) (ob : Nat → Nat) (ad : Nat → Nat → Nat)   (S : St) {res : (Int32 × St)} (hf : f_Ol_many  S = some res) : CTi l y_Ol_many w_Ol_many rm_Ol_many 0 0 D clC (TY cA cP) [.ref (ob 5)] (cw cA cP ob ad S) (fun r w => r = res.1 ∧ w = cw cA cP ob ad res.2) :=
  mk_i (cc := b_Ol_many) (maxL := 1) (own := R_Ol) (by decide) rfl rfl (Nat.le_of_ble_eq_true rfl) (fun p e s m below meth c A Q C0 hret ls hl hP hD hS => w_Ol_many_0 C0 hret    S _ _ ls hP hD hS (lv_sub hl [0] rfl) hf)
def f_Ol_at_0   (x1 : Int32) (S : St) : Option (Int32 × St) :=
  bd (f_Ol_draw  S) (fun q_1 => bd (f_Rw_get 17 x1 q_1) (fun q_2 => some (q_2.1, q_2.2)))
set_option maxHeartbeats 4000000 in
set_option maxRecDepth 100000 in
theorem w_Ol_at_0 (C0 : CX p s m args c b_Ol_at 2 R_Ol w_Ol_at D clC cA cP A) {res : (Int32 × St)} (hret : RTi p l e rm_Ol_at s m args below meth c Q D clC A b_Ol_at 0 0 (fun r w => r = res.1 ∧ w = cw cA cP ob ad res.2))    : ∀ (x1 : Int32) (S : St) (H : Heap) (locs : List Loc) (ls : Array Slot), va_P D clC (cw cA cP ob ad S) H → va_D A (cw cA cP ob ad S) → va_S A s.heap H locs → lv_has ls 2 [(0, .ref (ob 5)), (1, .int x1)] → f_Ol_at_0   x1 S = some res → W p l e rm_Ol_at s m args below meth c H locs 0 0 Q (F0 m 0 ls []) := by
  obtain ⟨hx, hb, hml, hown, hts, hK, hA, hN, hZ⟩ := id C0
  intro x1 S H locs ls hP hD hS hl hf
  rw [f_Ol_at_0] at hf
  refine lv_aload_n hx hb d_Ol_at_0 rfl (lv_at hl 0 rfl) ?_
  obtain ⟨q_1, hq_1, hf⟩ := bd_some hf
  refine kc_v (va_runV (As := []) (rest := []) ⟨hx, hb, hml, hown, hts⟩ (c_Ol_draw l D cA cP ob ad   S hq_1 H.size) ⟨callB_of 0 hts (gd_Ol_draw) rfl rfl rfl (hts _ (List.mem_cons_of_mem _ wd_71)) (hts _ (List.mem_cons_of_mem _ wd_318)) dd_Ol_draw ⟨Nat.le_of_ble_eq_true rfl, Nat.le_of_ble_eq_true rfl⟩, (hts _ (List.mem_cons_of_mem _ wd_320)), (hts _ (List.mem_cons_of_mem _ wd_2))⟩ (kpV hK hP hD hN hZ hS 5 5 rfl rfl) rfl rfl hl.1 rfl (lv_room (Nat.le_of_ble_eq_true rfl)) d_Ol_at_1 ⟨Nat.le_of_ble_eq_true rfl, Nat.le_of_ble_eq_true rfl⟩) hP hD hS hA (fun w H locs hw hP hD hS => ?_)
  obtain rfl := hw
  refine lv_aload_n hx hb d_Ol_at_4 rfl (lv_at hl 0 rfl) ?_
  refine va_get (D := D) (ci := 5) (v := .ref (ob 17)) (C := R_Ol) (T := F_Ol) (N := 5) hx hb hts (fun w h => List.mem_cons_of_mem _ (in_Ol w h)) hown hK hP 5 rfl rfl 2 (by decide) (hts _ (List.mem_cons_of_mem _ wd_235)) (fun _ h9 => h9) rfl d_Ol_at_5 ?_
  refine lv_iload_n hx hb d_Ol_at_8 rfl (lv_at hl 1 rfl) ?_
  obtain ⟨q_2, hq_2, hf⟩ := bd_some hf
  refine kc_i (va_runV (As := [.int x1]) (rest := []) ⟨hx, hb, hml, hown, hts⟩ (c_Rw_get l D cA cP ob ad 17 x1 (by decide) q_1 hq_2 H.size) ⟨callB_of 1 hts (gd_Rw_get) rfl rfl rfl (hts _ (List.mem_cons_of_mem _ wd_67)) (hts _ (List.mem_cons_of_mem _ wd_767)) dd_Rw_get ⟨Nat.le_of_ble_eq_true rfl, Nat.le_of_ble_eq_true rfl⟩, (hts _ (List.mem_cons_of_mem _ wd_340)), (hts _ (List.mem_cons_of_mem _ wd_341))⟩ (kpV hK hP hD hN hZ hS 6 17 rfl rfl) rfl rfl hl.1 rfl (lv_room (Nat.le_of_ble_eq_true rfl)) d_Ol_at_9 ⟨Nat.le_of_ble_eq_true rfl, Nat.le_of_ble_eq_true rfl⟩) hP hD hS hA (fun r w H locs hw hP hD hS => ?_)
  obtain ⟨rfl, rfl⟩ := hw
  cases hf
  exact hret _ _ _ _ _ _ ⟨rfl, rfl⟩ hP hD hS d_Ol_at_12
def f_Ol_at (x1 : Int32) (S : St) : Option (Int32 × St) := f_Ol_at_0  x1 S
theorem c_Ol_at (l : Launch) (D : va_G) (cA cP : ClassId) (ob : Nat → Nat) (ad : Nat → Nat → Nat) (x1 : Int32)  (S : St) {res : (Int32 × St)} (hf : f_Ol_at x1 S = some res) : CTi l y_Ol_at w_Ol_at rm_Ol_at 0 0 D clC (TY cA cP) [.ref (ob 5), .int x1] (cw cA cP ob ad S) (fun r w => r = res.1 ∧ w = cw cA cP ob ad res.2) :=
  mk_i (cc := b_Ol_at) (maxL := 2) (own := R_Ol) (by decide) rfl rfl (Nat.le_of_ble_eq_true rfl) (fun p e s m below meth c A Q C0 hret ls hl hP hD hS => w_Ol_at_0 C0 hret   x1 S _ _ ls hP hD hS (lv_sub hl [0, 1] rfl) hf)
def f_Pn_corner_15    (S : St) : Option (Int32 × St) :=
  none
set_option maxHeartbeats 4000000 in
set_option maxRecDepth 100000 in
theorem w_Pn_corner_15 (C0 : CX p s m args c b_Pn_corner 2 R_Pn w_Pn_corner D clC cA cP A) {res : (Int32 × St)} (hret : RTi p l e rm_Pn_corner s m args below meth c Q D clC A b_Pn_corner 0 0 (fun r w => r = res.1 ∧ w = cw cA cP ob ad res.2))    : ∀  (S : St) (H : Heap) (locs : List Loc) (ls : Array Slot), va_P D clC (cw cA cP ob ad S) H → va_D A (cw cA cP ob ad S) → va_S A s.heap H locs → lv_has ls 2 [] → f_Pn_corner_15    S = some res → W p l e rm_Pn_corner s m args below meth c H locs 0 0 Q (F0 m 15 ls []) := by
  obtain ⟨hx, hb, hml, hown, hts, hK, hA, hN, hZ⟩ := id C0
  intro  S H locs ls hP hD hS hl hf
  rw [f_Pn_corner_15] at hf
  cases hf
def f_Pn_corner_0   (x1 : Int32) (S : St) : Option (Int32 × St) :=
  (if x1 < 0 then
    f_Pn_corner_15    S
    else
    bd (f_Ol_many  S) (fun q_2 => (if x1 < q_2.1 then
      bd (f_Ol_at x1 q_2.2) (fun q_4 => some (q_4.1, q_4.2))
      else
      f_Pn_corner_15    q_2.2)))
set_option maxHeartbeats 4000000 in
set_option maxRecDepth 100000 in
theorem w_Pn_corner_0 (C0 : CX p s m args c b_Pn_corner 2 R_Pn w_Pn_corner D clC cA cP A) {res : (Int32 × St)} (hret : RTi p l e rm_Pn_corner s m args below meth c Q D clC A b_Pn_corner 0 0 (fun r w => r = res.1 ∧ w = cw cA cP ob ad res.2))    : ∀ (x1 : Int32) (S : St) (H : Heap) (locs : List Loc) (ls : Array Slot), va_P D clC (cw cA cP ob ad S) H → va_D A (cw cA cP ob ad S) → va_S A s.heap H locs → lv_has ls 2 [(0, .ref (ob 0)), (1, .int x1)] → f_Pn_corner_0   x1 S = some res → W p l e rm_Pn_corner s m args below meth c H locs 0 0 Q (F0 m 0 ls []) := by
  obtain ⟨hx, hb, hml, hown, hts, hK, hA, hN, hZ⟩ := id C0
  intro x1 S H locs ls hP hD hS hl hf
  rw [f_Pn_corner_0] at hf
  refine lv_iload_n hx hb d_Pn_corner_0 rfl (lv_at hl 1 rfl) ?_
  refine lv_if_lt (tgt := 15) hx hb d_Pn_corner_1 (by decide) (fun c_1 => ?_) (fun c_1 => ?_)
  · rw [if_pos c_1] at hf
    exact w_Pn_corner_15 C0 hret     S H locs ls hP hD hS (lv_sub hl [] rfl) hf
  · rw [if_neg c_1] at hf
    refine lv_iload_n hx hb d_Pn_corner_4 rfl (lv_at hl 1 rfl) ?_
    refine lv_aload_n hx hb d_Pn_corner_5 rfl (lv_at hl 0 rfl) ?_
    refine va_get (D := D) (ci := 0) (v := .ref (ob 5)) (C := R_Pn) (T := F_Pn) (N := 8) hx hb hts (fun w h => List.mem_cons_of_mem _ (in_Pn w h)) hown hK hP 0 rfl rfl 3 (by decide) (hts _ (List.mem_cons_of_mem _ wd_252)) (fun _ h9 => h9) rfl d_Pn_corner_6 ?_
    obtain ⟨q_2, hq_2, hf⟩ := bd_some hf
    refine kc_i (va_runV (As := []) (rest := [.int x1]) ⟨hx, hb, hml, hown, hts⟩ (c_Ol_many l D cA cP ob ad   S hq_2 H.size) ⟨callB_of 0 hts (gd_Ol_many) rfl rfl rfl (hts _ (List.mem_cons_of_mem _ wd_71)) (hts _ (List.mem_cons_of_mem _ wd_314)) dd_Ol_many ⟨Nat.le_of_ble_eq_true rfl, Nat.le_of_ble_eq_true rfl⟩, (hts _ (List.mem_cons_of_mem _ wd_315)), (hts _ (List.mem_cons_of_mem _ wd_316))⟩ (kpV hK hP hD hN hZ hS 5 5 rfl rfl) rfl rfl hl.1 rfl (lv_room (Nat.le_of_ble_eq_true rfl)) d_Pn_corner_9 ⟨Nat.le_of_ble_eq_true rfl, Nat.le_of_ble_eq_true rfl⟩) hP hD hS hA (fun r w H locs hw hP hD hS => ?_)
    obtain ⟨rfl, rfl⟩ := hw
    refine lv_icmp_lt (tgt := 25) hx hb d_Pn_corner_12 (by decide) (fun c_3 => ?_) (fun c_3 => ?_)
    · rw [if_pos c_3] at hf
      refine lv_aload_n hx hb d_Pn_corner_25 rfl (lv_at hl 0 rfl) ?_
      refine va_get (D := D) (ci := 0) (v := .ref (ob 5)) (C := R_Pn) (T := F_Pn) (N := 8) hx hb hts (fun w h => List.mem_cons_of_mem _ (in_Pn w h)) hown hK hP 0 rfl rfl 3 (by decide) (hts _ (List.mem_cons_of_mem _ wd_252)) (fun _ h9 => h9) rfl d_Pn_corner_26 ?_
      refine lv_iload_n hx hb d_Pn_corner_29 rfl (lv_at hl 1 rfl) ?_
      obtain ⟨q_4, hq_4, hf⟩ := bd_some hf
      refine kc_i (va_runV (As := [.int x1]) (rest := []) ⟨hx, hb, hml, hown, hts⟩ (c_Ol_at l D cA cP ob ad x1  q_2.2 hq_4 H.size) ⟨callB_of 1 hts (gd_Ol_at) rfl rfl rfl (hts _ (List.mem_cons_of_mem _ wd_71)) (hts _ (List.mem_cons_of_mem _ wd_763)) dd_Ol_at ⟨Nat.le_of_ble_eq_true rfl, Nat.le_of_ble_eq_true rfl⟩, (hts _ (List.mem_cons_of_mem _ wd_764)), (hts _ (List.mem_cons_of_mem _ wd_765))⟩ (kpV hK hP hD hN hZ hS 5 5 rfl rfl) rfl rfl hl.1 rfl (lv_room (Nat.le_of_ble_eq_true rfl)) d_Pn_corner_30 ⟨Nat.le_of_ble_eq_true rfl, Nat.le_of_ble_eq_true rfl⟩) hP hD hS hA (fun r w H locs hw hP hD hS => ?_)
      obtain ⟨rfl, rfl⟩ := hw
      cases hf
      exact hret _ _ _ _ _ _ ⟨rfl, rfl⟩ hP hD hS d_Pn_corner_33
    · rw [if_neg c_3] at hf
      exact w_Pn_corner_15 C0 hret     q_2.2 H locs ls hP hD hS (lv_sub hl [] rfl) hf
def f_Pn_corner (x1 : Int32) (S : St) : Option (Int32 × St) := f_Pn_corner_0  x1 S
theorem c_Pn_corner (l : Launch) (D : va_G) (cA cP : ClassId) (ob : Nat → Nat) (ad : Nat → Nat → Nat) (x1 : Int32)  (S : St) {res : (Int32 × St)} (hf : f_Pn_corner x1 S = some res) : CTi l y_Pn_corner w_Pn_corner rm_Pn_corner 0 0 D clC (TY cA cP) [.ref (ob 0), .int x1] (cw cA cP ob ad S) (fun r w => r = res.1 ∧ w = cw cA cP ob ad res.2) :=
  mk_i (cc := b_Pn_corner) (maxL := 2) (own := R_Pn) (by decide) rfl rfl (Nat.le_of_ble_eq_true rfl) (fun p e s m below meth c A Q C0 hret ls hl hP hD hS => w_Pn_corner_0 C0 hret   x1 S _ _ ls hP hD hS (lv_sub hl [0, 1] rfl) hf)
def f_Pn_foundBetween_0   (x1 : Int32) (x2 : Int32) (S : St) : Option (Int32 × St) :=
  as_ (inb 0 (gn S 30)) (bn (seta S 30 (upd (ga S 30) (Int32.toNatClampNeg 0) (if x2 < x1 then x2 else x1))) (fun S_2 => as_ (inb 1 (gn S_2 30)) (bn (seta S_2 30 (upd (ga S_2 30) (Int32.toNatClampNeg 1) (if x1 < x2 then x2 else x1))) (fun S_4 => some (2, S_4)))))
set_option maxHeartbeats 4000000 in
set_option maxRecDepth 100000 in
theorem w_Pn_foundBetween_0 (C0 : CX p s m args c b_Pn_foundBetween 3 R_Pn w_Pn_foundBetween D clC cA cP A) {res : (Int32 × St)} (hret : RTi p l e rm_Pn_foundBetween s m args below meth c Q D clC A b_Pn_foundBetween 0 0 (fun r w => r = res.1 ∧ w = cw cA cP ob ad res.2))    : ∀ (x1 : Int32) (x2 : Int32) (S : St) (H : Heap) (locs : List Loc) (ls : Array Slot), va_P D clC (cw cA cP ob ad S) H → va_D A (cw cA cP ob ad S) → va_S A s.heap H locs → lv_has ls 3 [(0, .ref (ob 0)), (1, .int x1), (2, .int x2)] → f_Pn_foundBetween_0   x1 x2 S = some res → W p l e rm_Pn_foundBetween s m args below meth c H locs 0 0 Q (F0 m 0 ls []) := by
  obtain ⟨hx, hb, hml, hown, hts, hK, hA, hN, hZ⟩ := id C0
  intro x1 x2 S H locs ls hP hD hS hl hf
  rw [f_Pn_foundBetween_0] at hf
  refine lv_aload_n hx hb d_Pn_foundBetween_0 rfl (lv_at hl 0 rfl) ?_
  refine va_get (D := D) (ci := 0) (v := .ref (ob 30)) (C := R_Pn) (T := F_Pn) (N := 8) hx hb hts (fun w h => List.mem_cons_of_mem _ (in_Pn w h)) hown hK hP 0 rfl rfl 4 (by decide) (hts _ (List.mem_cons_of_mem _ wd_253)) (fun _ h9 => h9) rfl d_Pn_foundBetween_1 ?_
  refine lv_iconst (v := 0) hx hb d_Pn_foundBetween_4 (by decide) ?_
  refine lv_iload_n hx hb d_Pn_foundBetween_5 rfl (lv_at hl 1 rfl) ?_
  refine lv_iload_n hx hb d_Pn_foundBetween_6 rfl (lv_at hl 2 rfl) ?_
  refine va_mmin hx hb (by rw [hml]; exact hl.1.symm) hown (hts _ (List.mem_cons_of_mem _ wd_90)) (hts _ (List.mem_cons_of_mem _ wd_91)) (hts _ (List.mem_cons_of_mem _ wd_66)) (hts _ (List.mem_cons_of_mem _ wd_92)) (Nat.le_of_ble_eq_true rfl) (Nat.le_of_ble_eq_true rfl) (Nat.le_of_ble_eq_true rfl) (Nat.le_of_ble_eq_true rfl) d_Pn_foundBetween_7 ?_
  obtain ⟨hi_1, hf⟩ := as_some hf
  obtain ⟨S_2, eS_2, hf⟩ := bn_some hf
  refine va_iast hx hb hK hP hD hS 30 0 rfl rfl (inb_in hi_1) d_Pn_foundBetween_10 (fun H locs hP hD hS => ?_)
  have hP : va_P D clC (cw cA cP ob ad S_2) H := by rw [eS_2]; exact hP
  have hD : va_D A (cw cA cP ob ad S_2) := by rw [eS_2]; exact hD
  refine lv_aload_n hx hb d_Pn_foundBetween_11 rfl (lv_at hl 0 rfl) ?_
  refine va_get (D := D) (ci := 0) (v := .ref (ob 30)) (C := R_Pn) (T := F_Pn) (N := 8) hx hb hts (fun w h => List.mem_cons_of_mem _ (in_Pn w h)) hown hK hP 0 rfl rfl 4 (by decide) (hts _ (List.mem_cons_of_mem _ wd_253)) (fun _ h9 => h9) rfl d_Pn_foundBetween_12 ?_
  refine lv_iconst (v := 1) hx hb d_Pn_foundBetween_15 (by decide) ?_
  refine lv_iload_n hx hb d_Pn_foundBetween_16 rfl (lv_at hl 1 rfl) ?_
  refine lv_iload_n hx hb d_Pn_foundBetween_17 rfl (lv_at hl 2 rfl) ?_
  refine va_mmax hx hb (by rw [hml]; exact hl.1.symm) hown (hts _ (List.mem_cons_of_mem _ wd_93)) (hts _ (List.mem_cons_of_mem _ wd_94)) (hts _ (List.mem_cons_of_mem _ wd_66)) (hts _ (List.mem_cons_of_mem _ wd_95)) (Nat.le_of_ble_eq_true rfl) (Nat.le_of_ble_eq_true rfl) (Nat.le_of_ble_eq_true rfl) (Nat.le_of_ble_eq_true rfl) d_Pn_foundBetween_18 ?_
  obtain ⟨hi_3, hf⟩ := as_some hf
  obtain ⟨S_4, eS_4, hf⟩ := bn_some hf
  refine va_iast hx hb hK hP hD hS 30 0 rfl rfl (inb_in hi_3) d_Pn_foundBetween_21 (fun H locs hP hD hS => ?_)
  have hP : va_P D clC (cw cA cP ob ad S_4) H := by rw [eS_4]; exact hP
  have hD : va_D A (cw cA cP ob ad S_4) := by rw [eS_4]; exact hD
  refine lv_iconst (v := 2) hx hb d_Pn_foundBetween_22 (by decide) ?_
  cases hf
  exact hret _ _ _ _ _ _ ⟨rfl, rfl⟩ hP hD hS d_Pn_foundBetween_23
def f_Pn_foundBetween (x1 : Int32) (x2 : Int32) (S : St) : Option (Int32 × St) := f_Pn_foundBetween_0  x1 x2 S
theorem c_Pn_foundBetween (l : Launch) (D : va_G) (cA cP : ClassId) (ob : Nat → Nat) (ad : Nat → Nat → Nat) (x1 : Int32) (x2 : Int32)  (S : St) {res : (Int32 × St)} (hf : f_Pn_foundBetween x1 x2 S = some res) : CTi l y_Pn_foundBetween w_Pn_foundBetween rm_Pn_foundBetween 0 0 D clC (TY cA cP) [.ref (ob 0), .int x1, .int x2] (cw cA cP ob ad S) (fun r w => r = res.1 ∧ w = cw cA cP ob ad res.2) :=
  mk_i (cc := b_Pn_foundBetween) (maxL := 3) (own := R_Pn) (by decide) rfl rfl (Nat.le_of_ble_eq_true rfl) (fun p e s m below meth c A Q C0 hret ls hl hP hD hS => w_Pn_foundBetween_0 C0 hret   x1 x2 S _ _ ls hP hD hS (lv_sub hl [0, 1, 2] rfl) hf)
def f_Pn_locateOnLine_61    (S : St) : Option (Int32 × St) :=
  some (0, S)
set_option maxHeartbeats 4000000 in
set_option maxRecDepth 100000 in
theorem w_Pn_locateOnLine_61 (C0 : CX p s m args c b_Pn_locateOnLine 5 R_Pn w_Pn_locateOnLine D clC cA cP A) {res : (Int32 × St)} (hret : RTi p l e rm_Pn_locateOnLine s m args below meth c Q D clC A b_Pn_locateOnLine 0 0 (fun r w => r = res.1 ∧ w = cw cA cP ob ad res.2))    : ∀  (S : St) (H : Heap) (locs : List Loc) (ls : Array Slot), va_P D clC (cw cA cP ob ad S) H → va_D A (cw cA cP ob ad S) → va_S A s.heap H locs → lv_has ls 5 [] → f_Pn_locateOnLine_61    S = some res → W p l e rm_Pn_locateOnLine s m args below meth c H locs 0 0 Q (F0 m 61 ls []) := by
  obtain ⟨hx, hb, hml, hown, hts, hK, hA, hN, hZ⟩ := id C0
  intro  S H locs ls hP hD hS hl hf
  rw [f_Pn_locateOnLine_61] at hf
  refine lv_iconst (v := 0) hx hb d_Pn_locateOnLine_61 (by decide) ?_
  refine lv_goto (tgt := 72) hx hb d_Pn_locateOnLine_62 (by decide) ?_
  cases hf
  exact hret _ _ _ _ _ _ ⟨rfl, rfl⟩ hP hD hS d_Pn_locateOnLine_72
def f_Pn_locateOnLine_0   (x1 : Int32) (x2 : Int32) (S : St) : Option (Int32 × St) :=
  (if (gi S 3) < 2 then
    some (0, S)
    else
    bd (f_Pt_turn 0 1 x1 x2 S) (fun q_2 => (if (lg_cmp q_2.1 0) = 0 then
      bd (f_Pt_greatestBelow x1 x2 q_2.2) (fun q_4 => bd (f_Pt_leastAbove x1 x2 q_4.2) (fun q_5 => (if q_4.1 = (-1) then
        f_Pn_locateOnLine_61    q_5.2
        else
        (if q_5.1 = (-1) then
          f_Pn_locateOnLine_61    q_5.2
          else
          bd (f_Pn_foundBetween q_4.1 q_5.1 q_5.2) (fun q_8 => some (q_8.1, q_8.2))))))
      else
      some (0, q_2.2))))
set_option maxHeartbeats 4000000 in
set_option maxRecDepth 100000 in
theorem w_Pn_locateOnLine_0 (C0 : CX p s m args c b_Pn_locateOnLine 5 R_Pn w_Pn_locateOnLine D clC cA cP A) {res : (Int32 × St)} (hret : RTi p l e rm_Pn_locateOnLine s m args below meth c Q D clC A b_Pn_locateOnLine 0 0 (fun r w => r = res.1 ∧ w = cw cA cP ob ad res.2))    : ∀ (x1 : Int32) (x2 : Int32) (S : St) (H : Heap) (locs : List Loc) (ls : Array Slot), va_P D clC (cw cA cP ob ad S) H → va_D A (cw cA cP ob ad S) → va_S A s.heap H locs → lv_has ls 5 [(0, .ref (ob 0)), (1, .int x1), (2, .int x2)] → f_Pn_locateOnLine_0   x1 x2 S = some res → W p l e rm_Pn_locateOnLine s m args below meth c H locs 0 0 Q (F0 m 0 ls []) := by
  obtain ⟨hx, hb, hml, hown, hts, hK, hA, hN, hZ⟩ := id C0
  intro x1 x2 S H locs ls hP hD hS hl hf
  rw [f_Pn_locateOnLine_0] at hf
  refine lv_aload_n hx hb d_Pn_locateOnLine_0 rfl (lv_at hl 0 rfl) ?_
  refine va_get (D := D) (ci := 0) (v := .ref (ob 1)) (C := R_Pn) (T := F_Pn) (N := 8) hx hb hts (fun w h => List.mem_cons_of_mem _ (in_Pn w h)) hown hK hP 0 rfl rfl 0 (by decide) (hts _ (List.mem_cons_of_mem _ wd_249)) (fun _ h9 => h9) rfl d_Pn_locateOnLine_1 ?_
  refine va_get (D := D) (ci := 1) (v := .int (gi S 3)) (C := R_Pt) (T := F_Pt) (N := 5) hx hb hts (fun w h => List.mem_cons_of_mem _ (in_Pt w h)) hown hK hP 1 rfl rfl 1 (by decide) (hts _ (List.mem_cons_of_mem _ wd_133)) (fun _ h9 => h9) rfl d_Pn_locateOnLine_4 ?_
  refine lv_iconst (v := 2) hx hb d_Pn_locateOnLine_7 (by decide) ?_
  refine lv_icmp_lt (tgt := 27) hx hb d_Pn_locateOnLine_8 (by decide) (fun c_1 => ?_) (fun c_1 => ?_)
  · rw [if_pos c_1] at hf
    refine lv_iconst (v := 0) hx hb d_Pn_locateOnLine_27 (by decide) ?_
    cases hf
    exact hret _ _ _ _ _ _ ⟨rfl, rfl⟩ hP hD hS d_Pn_locateOnLine_28
  · rw [if_neg c_1] at hf
    refine lv_aload_n hx hb d_Pn_locateOnLine_11 rfl (lv_at hl 0 rfl) ?_
    refine va_get (D := D) (ci := 0) (v := .ref (ob 1)) (C := R_Pn) (T := F_Pn) (N := 8) hx hb hts (fun w h => List.mem_cons_of_mem _ (in_Pn w h)) hown hK hP 0 rfl rfl 0 (by decide) (hts _ (List.mem_cons_of_mem _ wd_249)) (fun _ h9 => h9) rfl d_Pn_locateOnLine_12 ?_
    refine lv_iconst (v := 0) hx hb d_Pn_locateOnLine_15 (by decide) ?_
    refine lv_iconst (v := 1) hx hb d_Pn_locateOnLine_16 (by decide) ?_
    refine lv_iload_n hx hb d_Pn_locateOnLine_17 rfl (lv_at hl 1 rfl) ?_
    refine lv_iload_n hx hb d_Pn_locateOnLine_18 rfl (lv_at hl 2 rfl) ?_
    obtain ⟨q_2, hq_2, hf⟩ := bd_some hf
    refine kc_l (va_runV (As := [.int 0, .int 1, .int x1, .int x2]) (rest := []) ⟨hx, hb, hml, hown, hts⟩ (c_Pt_turn l D cA cP ob ad 0 1 x1 x2  S hq_2 H.size) ⟨callB_of 4 hts (gd_Pt_turn) rfl rfl rfl (hts _ (List.mem_cons_of_mem _ wd_65)) (hts _ (List.mem_cons_of_mem _ wd_573)) dd_Pt_turn ⟨Nat.le_of_ble_eq_true rfl, Nat.le_of_ble_eq_true rfl⟩, (hts _ (List.mem_cons_of_mem _ wd_409)), (hts _ (List.mem_cons_of_mem _ wd_410))⟩ (kpV hK hP hD hN hZ hS 1 1 rfl rfl) rfl rfl hl.1 rfl (lv_room (Nat.le_of_ble_eq_true rfl)) d_Pn_locateOnLine_19 ⟨Nat.le_of_ble_eq_true rfl, Nat.le_of_ble_eq_true rfl⟩) hP hD hS hA (fun r w H locs hw hP hD hS => ?_)
    obtain ⟨rfl, rfl⟩ := hw
    refine lv_lconst (v := 0) hx hb d_Pn_locateOnLine_22 (by decide) ?_
    refine W.lcmp hx hb d_Pn_locateOnLine_23 ?_
    refine lv_if_eq (tgt := 29) hx hb d_Pn_locateOnLine_24 (by decide) (fun c_3 => ?_) (fun c_3 => ?_)
    · rw [if_pos c_3] at hf
      refine lv_aload_n hx hb d_Pn_locateOnLine_29 rfl (lv_at hl 0 rfl) ?_
      refine va_get (D := D) (ci := 0) (v := .ref (ob 1)) (C := R_Pn) (T := F_Pn) (N := 8) hx hb hts (fun w h => List.mem_cons_of_mem _ (in_Pn w h)) hown hK hP 0 rfl rfl 0 (by decide) (hts _ (List.mem_cons_of_mem _ wd_249)) (fun _ h9 => h9) rfl d_Pn_locateOnLine_30 ?_
      refine lv_iload_n hx hb d_Pn_locateOnLine_33 rfl (lv_at hl 1 rfl) ?_
      refine lv_iload_n hx hb d_Pn_locateOnLine_34 rfl (lv_at hl 2 rfl) ?_
      obtain ⟨q_4, hq_4, hf⟩ := bd_some hf
      refine kc_i (va_runV (As := [.int x1, .int x2]) (rest := []) ⟨hx, hb, hml, hown, hts⟩ (c_Pt_greatestBelow l D cA cP ob ad x1 x2  q_2.2 hq_4 H.size) ⟨callB_of 2 hts (gd_Pt_greatestBelow) rfl rfl rfl (hts _ (List.mem_cons_of_mem _ wd_65)) (hts _ (List.mem_cons_of_mem _ wd_733)) dd_Pt_greatestBelow ⟨Nat.le_of_ble_eq_true rfl, Nat.le_of_ble_eq_true rfl⟩, (hts _ (List.mem_cons_of_mem _ wd_349)), (hts _ (List.mem_cons_of_mem _ wd_350))⟩ (kpV hK hP hD hN hZ hS 1 1 rfl rfl) rfl rfl hl.1 rfl (lv_room (Nat.le_of_ble_eq_true rfl)) d_Pn_locateOnLine_35 ⟨Nat.le_of_ble_eq_true rfl, Nat.le_of_ble_eq_true rfl⟩) hP hD hS hA (fun r w H locs hw hP hD hS => ?_)
      obtain ⟨rfl, rfl⟩ := hw
      refine lv_istore_n (lv' := [(3, .int q_4.1), (0, .ref (ob 0)), (1, .int x1), (2, .int x2)]) hx hb d_Pn_locateOnLine_38 rfl hl (by decide) rfl (fun ls hl => ?_)
      refine lv_aload_n hx hb d_Pn_locateOnLine_39 rfl (lv_at hl 1 rfl) ?_
      refine va_get (D := D) (ci := 0) (v := .ref (ob 1)) (C := R_Pn) (T := F_Pn) (N := 8) hx hb hts (fun w h => List.mem_cons_of_mem _ (in_Pn w h)) hown hK hP 0 rfl rfl 0 (by decide) (hts _ (List.mem_cons_of_mem _ wd_249)) (fun _ h9 => h9) rfl d_Pn_locateOnLine_40 ?_
      refine lv_iload_n hx hb d_Pn_locateOnLine_43 rfl (lv_at hl 2 rfl) ?_
      refine lv_iload_n hx hb d_Pn_locateOnLine_44 rfl (lv_at hl 3 rfl) ?_
      obtain ⟨q_5, hq_5, hf⟩ := bd_some hf
      refine kc_i (va_runV (As := [.int x1, .int x2]) (rest := []) ⟨hx, hb, hml, hown, hts⟩ (c_Pt_leastAbove l D cA cP ob ad x1 x2  q_4.2 hq_5 H.size) ⟨callB_of 2 hts (gd_Pt_leastAbove) rfl rfl rfl (hts _ (List.mem_cons_of_mem _ wd_65)) (hts _ (List.mem_cons_of_mem _ wd_734)) dd_Pt_leastAbove ⟨Nat.le_of_ble_eq_true rfl, Nat.le_of_ble_eq_true rfl⟩, (hts _ (List.mem_cons_of_mem _ wd_332)), (hts _ (List.mem_cons_of_mem _ wd_333))⟩ (kpV hK hP hD hN hZ hS 1 1 rfl rfl) rfl rfl hl.1 rfl (lv_room (Nat.le_of_ble_eq_true rfl)) d_Pn_locateOnLine_45 ⟨Nat.le_of_ble_eq_true rfl, Nat.le_of_ble_eq_true rfl⟩) hP hD hS hA (fun r w H locs hw hP hD hS => ?_)
      obtain ⟨rfl, rfl⟩ := hw
      refine lv_istore (lv' := [(4, .int q_5.1), (3, .int q_4.1), (0, .ref (ob 0)), (1, .int x1), (2, .int x2)]) hx hb d_Pn_locateOnLine_48 hl (by decide) rfl (fun ls hl => ?_)
      refine lv_iload_n hx hb d_Pn_locateOnLine_50 rfl (lv_at hl 1 rfl) ?_
      refine lv_iconst (v := (-1)) hx hb d_Pn_locateOnLine_51 (by decide) ?_
      refine lv_icmp_eq (tgt := 61) hx hb d_Pn_locateOnLine_52 (by decide) (fun c_6 => ?_) (fun c_6 => ?_)
      · rw [if_pos c_6] at hf
        exact w_Pn_locateOnLine_61 C0 hret     q_5.2 H locs ls hP hD hS (lv_sub hl [] rfl) hf
      · rw [if_neg c_6] at hf
        refine lv_iload hx hb d_Pn_locateOnLine_55 (lv_at hl 0 rfl) ?_
        refine lv_iconst (v := (-1)) hx hb d_Pn_locateOnLine_57 (by decide) ?_
        refine lv_icmp_ne (tgt := 65) hx hb d_Pn_locateOnLine_58 (by decide) (fun c_7 => ?_) (fun c_7 => ?_)
        · rw [if_neg c_7] at hf
          refine lv_aload_n hx hb d_Pn_locateOnLine_65 rfl (lv_at hl 2 rfl) ?_
          refine lv_iload_n hx hb d_Pn_locateOnLine_66 rfl (lv_at hl 1 rfl) ?_
          refine lv_iload hx hb d_Pn_locateOnLine_67 (lv_at hl 0 rfl) ?_
          obtain ⟨q_8, hq_8, hf⟩ := bd_some hf
          refine kc_i (va_runV (As := [.int q_4.1, .int q_5.1]) (rest := []) ⟨hx, hb, hml, hown, hts⟩ (c_Pn_foundBetween l D cA cP ob ad q_4.1 q_5.1  q_5.2 hq_8 H.size) ⟨callB_of 2 hts (gd_Pn_foundBetween) rfl rfl rfl (hts _ (List.mem_cons_of_mem _ wd_64)) (hts _ (List.mem_cons_of_mem _ wd_779)) dd_Pn_foundBetween ⟨Nat.le_of_ble_eq_true rfl, Nat.le_of_ble_eq_true rfl⟩, (hts _ (List.mem_cons_of_mem _ wd_781)), (hts _ (List.mem_cons_of_mem _ wd_32))⟩ (kpV hK hP hD hN hZ hS 0 0 rfl rfl) rfl rfl hl.1 rfl (lv_room (Nat.le_of_ble_eq_true rfl)) d_Pn_locateOnLine_69 ⟨Nat.le_of_ble_eq_true rfl, Nat.le_of_ble_eq_true rfl⟩) hP hD hS hA (fun r w H locs hw hP hD hS => ?_)
          obtain ⟨rfl, rfl⟩ := hw
          cases hf
          exact hret _ _ _ _ _ _ ⟨rfl, rfl⟩ hP hD hS d_Pn_locateOnLine_72
        · rw [if_pos c_7] at hf
          exact w_Pn_locateOnLine_61 C0 hret     q_5.2 H locs ls hP hD hS (lv_sub hl [] rfl) hf
    · rw [if_neg c_3] at hf
      refine lv_iconst (v := 0) hx hb d_Pn_locateOnLine_27 (by decide) ?_
      cases hf
      exact hret _ _ _ _ _ _ ⟨rfl, rfl⟩ hP hD hS d_Pn_locateOnLine_28
def f_Pn_locateOnLine (x1 : Int32) (x2 : Int32) (S : St) : Option (Int32 × St) := f_Pn_locateOnLine_0  x1 x2 S
theorem c_Pn_locateOnLine (l : Launch) (D : va_G) (cA cP : ClassId) (ob : Nat → Nat) (ad : Nat → Nat → Nat) (x1 : Int32) (x2 : Int32)  (S : St) {res : (Int32 × St)} (hf : f_Pn_locateOnLine x1 x2 S = some res) : CTi l y_Pn_locateOnLine w_Pn_locateOnLine rm_Pn_locateOnLine 0 0 D clC (TY cA cP) [.ref (ob 0), .int x1, .int x2] (cw cA cP ob ad S) (fun r w => r = res.1 ∧ w = cw cA cP ob ad res.2) :=
  mk_i (cc := b_Pn_locateOnLine) (maxL := 5) (own := R_Pn) (by decide) rfl rfl (Nat.le_of_ble_eq_true rfl) (fun p e s m below meth c A Q C0 hret ls hl hP hD hS => w_Pn_locateOnLine_0 C0 hret   x1 x2 S _ _ ls hP hD hS (lv_sub hl [0, 1, 2] rfl) hf)
def f_Pn_locateInNet_119   : Nat → Int32 → Int32 → St → Option (Int32 × St)
  | 0 => fun _ _ _ => none
  | n + 1 => fun x5 x6 S => (if (nI (gn S 30)) ≤ x6 then
      some (1, S)
      else
      bd (f_Nt_ahead x5 x6 S) (fun q_2 => bd (f_Nt_startOf q_2.1 q_2.2) (fun q_3 => as_ (inb x6 (gn q_3.2 30)) (bn (seta q_3.2 30 (upd (ga q_3.2 30) (Int32.toNatClampNeg x6) q_3.1)) (fun S_5 => bn (x6 + 1) (fun x6_6 => f_Pn_locateInNet_119  n x5 x6_6 S_5))))))
set_option maxHeartbeats 4000000 in
set_option maxRecDepth 100000 in
theorem w_Pn_locateInNet_119 (C0 : CX p s m args c b_Pn_locateInNet 7 R_Pn w_Pn_locateInNet D clC cA cP A) {res : (Int32 × St)} (hret : RTi p l e rm_Pn_locateInNet s m args below meth c Q D clC A b_Pn_locateInNet 0 0 (fun r w => r = res.1 ∧ w = cw cA cP ob ad res.2))    : ∀ (n : Nat) (x5 : Int32) (x6 : Int32) (S : St) (H : Heap) (locs : List Loc) (ls : Array Slot), va_P D clC (cw cA cP ob ad S) H → va_D A (cw cA cP ob ad S) → va_S A s.heap H locs → lv_has ls 7 [(0, .ref (ob 0)), (5, .int x5), (6, .int x6)] → f_Pn_locateInNet_119   n x5 x6 S = some res → W p l e rm_Pn_locateInNet s m args below meth c H locs 0 0 Q (F0 m 119 ls []) := by
  obtain ⟨hx, hb, hml, hown, hts, hK, hA, hN, hZ⟩ := id C0
  intro n
  induction n with
  | zero =>
    intro x5 x6 S H locs ls hP hD hS hl hf
    cases hf
  | succ n ih =>
    intro x5 x6 S H locs ls hP hD hS hl hf
    rw [f_Pn_locateInNet_119] at hf
    try dsimp only at hf
    refine lv_iload hx hb d_Pn_locateInNet_119 (lv_at hl 2 rfl) ?_
    refine lv_aload_n hx hb d_Pn_locateInNet_121 rfl (lv_at hl 0 rfl) ?_
    refine va_get (D := D) (ci := 0) (v := .ref (ob 30)) (C := R_Pn) (T := F_Pn) (N := 8) hx hb hts (fun w h => List.mem_cons_of_mem _ (in_Pn w h)) hown hK hP 0 rfl rfl 4 (by decide) (hts _ (List.mem_cons_of_mem _ wd_253)) (fun _ h9 => h9) rfl d_Pn_locateInNet_122 ?_
    refine va_alen (v := (nI (gn S 30))) hx hb hK hP 30 0 rfl rfl rfl d_Pn_locateInNet_125 ?_
    refine lv_icmp_ge (tgt := 156) hx hb d_Pn_locateInNet_126 (by decide) (fun c_1 => ?_) (fun c_1 => ?_)
    · rw [if_pos c_1] at hf
      refine lv_iconst (v := 1) hx hb d_Pn_locateInNet_156 (by decide) ?_
      cases hf
      exact hret _ _ _ _ _ _ ⟨rfl, rfl⟩ hP hD hS d_Pn_locateInNet_157
    · rw [if_neg c_1] at hf
      refine lv_aload_n hx hb d_Pn_locateInNet_129 rfl (lv_at hl 0 rfl) ?_
      refine va_get (D := D) (ci := 0) (v := .ref (ob 30)) (C := R_Pn) (T := F_Pn) (N := 8) hx hb hts (fun w h => List.mem_cons_of_mem _ (in_Pn w h)) hown hK hP 0 rfl rfl 4 (by decide) (hts _ (List.mem_cons_of_mem _ wd_253)) (fun _ h9 => h9) rfl d_Pn_locateInNet_130 ?_
      refine lv_iload hx hb d_Pn_locateInNet_133 (lv_at hl 2 rfl) ?_
      refine lv_aload_n hx hb d_Pn_locateInNet_135 rfl (lv_at hl 0 rfl) ?_
      refine va_get (D := D) (ci := 0) (v := .ref (ob 3)) (C := R_Pn) (T := F_Pn) (N := 8) hx hb hts (fun w h => List.mem_cons_of_mem _ (in_Pn w h)) hown hK hP 0 rfl rfl 1 (by decide) (hts _ (List.mem_cons_of_mem _ wd_250)) (fun _ h9 => h9) rfl d_Pn_locateInNet_136 ?_
      refine lv_iload hx hb d_Pn_locateInNet_139 (lv_at hl 1 rfl) ?_
      refine lv_iload hx hb d_Pn_locateInNet_141 (lv_at hl 2 rfl) ?_
      obtain ⟨q_2, hq_2, hf⟩ := bd_some hf
      refine kc_i (va_runS (As := [.int x5, .int x6]) (rest := [.ref (ob 3), .int x6, .ref (ob 30)]) ⟨hx, hb, hml, hown, hts⟩ (c_Nt_ahead l D cA cP ob ad x5 x6  S hq_2 H.size) ⟨callB_of 2 hts (gd_Nt_ahead) rfl rfl rfl (hts _ (List.mem_cons_of_mem _ wd_69)) (hts _ (List.mem_cons_of_mem _ wd_711)) dd_Nt_ahead ⟨Nat.le_of_ble_eq_true rfl, Nat.le_of_ble_eq_true rfl⟩, (hts _ (List.mem_cons_of_mem _ wd_382))⟩ (kpS hK hP hD hN hZ hS) rfl rfl hl.1 rfl (lv_room (Nat.le_of_ble_eq_true rfl)) d_Pn_locateInNet_143 ⟨Nat.le_of_ble_eq_true rfl, Nat.le_of_ble_eq_true rfl⟩) hP hD hS hA (fun r w H locs hw hP hD hS => ?_)
      obtain ⟨rfl, rfl⟩ := hw
      obtain ⟨q_3, hq_3, hf⟩ := bd_some hf
      refine kc_i (va_runV (As := [.int q_2.1]) (rest := [.int x6, .ref (ob 30)]) ⟨hx, hb, hml, hown, hts⟩ (c_Nt_startOf l D cA cP ob ad q_2.1  q_2.2 hq_3 H.size) ⟨callB_of 1 hts (gd_Nt_startOf) rfl rfl rfl (hts _ (List.mem_cons_of_mem _ wd_69)) (hts _ (List.mem_cons_of_mem _ wd_712)) dd_Nt_startOf ⟨Nat.le_of_ble_eq_true rfl, Nat.le_of_ble_eq_true rfl⟩, (hts _ (List.mem_cons_of_mem _ wd_393)), (hts _ (List.mem_cons_of_mem _ wd_394))⟩ (kpV hK hP hD hN hZ hS 3 3 rfl rfl) rfl rfl hl.1 rfl (lv_room (Nat.le_of_ble_eq_true rfl)) d_Pn_locateInNet_146 ⟨Nat.le_of_ble_eq_true rfl, Nat.le_of_ble_eq_true rfl⟩) hP hD hS hA (fun r w H locs hw hP hD hS => ?_)
      obtain ⟨rfl, rfl⟩ := hw
      obtain ⟨hi_4, hf⟩ := as_some hf
      obtain ⟨S_5, eS_5, hf⟩ := bn_some hf
      refine va_iast hx hb hK hP hD hS 30 0 rfl rfl (inb_in hi_4) d_Pn_locateInNet_149 (fun H locs hP hD hS => ?_)
      have hP : va_P D clC (cw cA cP ob ad S_5) H := by rw [eS_5]; exact hP
      have hD : va_D A (cw cA cP ob ad S_5) := by rw [eS_5]; exact hD
      obtain ⟨x6_6, ex6_6, hf⟩ := bn_some hf
      refine lv_iinc (v := x6_6) (lv' := [(6, .int x6_6), (0, .ref (ob 0)), (5, .int x5)]) hx hb d_Pn_locateInNet_150 hl (k := 2) rfl (by rw [ex6_6]; rfl) (by decide) rfl (fun ls hl => ?_)
      refine lv_goto (tgt := 119) hx hb d_Pn_locateInNet_153 (by decide) ?_
      exact ih x5 x6_6 S_5 H locs ls hP hD hS (lv_sub hl [1, 2, 0] rfl) hf
def f_Pn_locateInNet_29   : Nat → Int32 → Int32 → Int32 → Int32 → St → Option (Int32 × St)
  | 0 => fun _ _ _ _ _ => none
  | n + 1 => fun x2 x3 x4 x5 S => (if 3 ≤ x5 then
      bd (f_Nt_lowestFirst x4 S) (fun q_2 => f_Pn_locateInNet_119   FU q_2.1 0 q_2.2)
      else
      bd (f_Nt_ahead x4 x5 S) (fun q_3 => bd (f_Nt_startOf q_3.1 q_3.2) (fun q_4 => bd (f_Nt_endOf q_3.1 q_4.2) (fun q_5 => bd (f_Pt_turn q_4.1 q_5.1 x2 x3 q_5.2) (fun q_6 => (if (lg_cmp q_6.1 0) = 0 then
        bd (f_Nt_startOf q_3.1 q_6.2) (fun q_9 => bd (f_Nt_endOf q_3.1 q_9.2) (fun q_10 => bd (f_Pn_foundBetween q_9.1 q_10.1 q_10.2) (fun q_11 => some (q_11.1, q_11.2))))
        else
        bn (x5 + 1) (fun x5_8 => f_Pn_locateInNet_29  n x2 x3 x4 x5_8 q_6.2)))))))
set_option maxHeartbeats 4000000 in
set_option maxRecDepth 100000 in
theorem w_Pn_locateInNet_29 (C0 : CX p s m args c b_Pn_locateInNet 7 R_Pn w_Pn_locateInNet D clC cA cP A) {res : (Int32 × St)} (hret : RTi p l e rm_Pn_locateInNet s m args below meth c Q D clC A b_Pn_locateInNet 0 0 (fun r w => r = res.1 ∧ w = cw cA cP ob ad res.2))    : ∀ (n : Nat) (x2 : Int32) (x3 : Int32) (x4 : Int32) (x5 : Int32) (S : St) (H : Heap) (locs : List Loc) (ls : Array Slot), va_P D clC (cw cA cP ob ad S) H → va_D A (cw cA cP ob ad S) → va_S A s.heap H locs → lv_has ls 7 [(0, .ref (ob 0)), (2, .int x2), (3, .int x3), (4, .int x4), (5, .int x5)] → f_Pn_locateInNet_29   n x2 x3 x4 x5 S = some res → W p l e rm_Pn_locateInNet s m args below meth c H locs 0 0 Q (F0 m 29 ls []) := by
  obtain ⟨hx, hb, hml, hown, hts, hK, hA, hN, hZ⟩ := id C0
  intro n
  induction n with
  | zero =>
    intro x2 x3 x4 x5 S H locs ls hP hD hS hl hf
    cases hf
  | succ n ih =>
    intro x2 x3 x4 x5 S H locs ls hP hD hS hl hf
    rw [f_Pn_locateInNet_29] at hf
    try dsimp only at hf
    refine lv_iload hx hb d_Pn_locateInNet_29 (lv_at hl 4 rfl) ?_
    refine lv_iconst (v := 3) hx hb d_Pn_locateInNet_31 (by decide) ?_
    refine lv_icmp_ge (tgt := 105) hx hb d_Pn_locateInNet_32 (by decide) (fun c_1 => ?_) (fun c_1 => ?_)
    · rw [if_pos c_1] at hf
      refine lv_aload_n hx hb d_Pn_locateInNet_105 rfl (lv_at hl 0 rfl) ?_
      refine va_get (D := D) (ci := 0) (v := .ref (ob 3)) (C := R_Pn) (T := F_Pn) (N := 8) hx hb hts (fun w h => List.mem_cons_of_mem _ (in_Pn w h)) hown hK hP 0 rfl rfl 1 (by decide) (hts _ (List.mem_cons_of_mem _ wd_250)) (fun _ h9 => h9) rfl d_Pn_locateInNet_106 ?_
      refine lv_iload hx hb d_Pn_locateInNet_109 (lv_at hl 3 rfl) ?_
      obtain ⟨q_2, hq_2, hf⟩ := bd_some hf
      refine kc_i (va_runV (As := [.int x4]) (rest := []) ⟨hx, hb, hml, hown, hts⟩ (c_Nt_lowestFirst l D cA cP ob ad x4  S hq_2 H.size) ⟨callB_of 1 hts (gd_Nt_lowestFirst) rfl rfl rfl (hts _ (List.mem_cons_of_mem _ wd_69)) (hts _ (List.mem_cons_of_mem _ wd_790)) dd_Nt_lowestFirst ⟨Nat.le_of_ble_eq_true rfl, Nat.le_of_ble_eq_true rfl⟩, (hts _ (List.mem_cons_of_mem _ wd_700)), (hts _ (List.mem_cons_of_mem _ wd_701))⟩ (kpV hK hP hD hN hZ hS 3 3 rfl rfl) rfl rfl hl.1 rfl (lv_room (Nat.le_of_ble_eq_true rfl)) d_Pn_locateInNet_111 ⟨Nat.le_of_ble_eq_true rfl, Nat.le_of_ble_eq_true rfl⟩) hP hD hS hA (fun r w H locs hw hP hD hS => ?_)
      obtain ⟨rfl, rfl⟩ := hw
      refine lv_istore (lv' := [(5, .int q_2.1), (0, .ref (ob 0)), (2, .int x2), (3, .int x3), (4, .int x4)]) hx hb d_Pn_locateInNet_114 hl (by decide) rfl (fun ls hl => ?_)
      refine lv_iconst (v := 0) hx hb d_Pn_locateInNet_116 (by decide) ?_
      refine lv_istore (lv' := [(6, .int 0), (5, .int q_2.1), (0, .ref (ob 0)), (2, .int x2), (3, .int x3), (4, .int x4)]) hx hb d_Pn_locateInNet_117 hl (by decide) rfl (fun ls hl => ?_)
      exact w_Pn_locateInNet_119 C0 hret    FU q_2.1 0 q_2.2 H locs ls hP hD hS (lv_sub hl [2, 1, 0] rfl) hf
    · rw [if_neg c_1] at hf
      refine lv_iload hx hb d_Pn_locateInNet_35 (lv_at hl 3 rfl) ?_
      refine lv_iload hx hb d_Pn_locateInNet_37 (lv_at hl 4 rfl) ?_
      obtain ⟨q_3, hq_3, hf⟩ := bd_some hf
      refine kc_i (va_runS (As := [.int x4, .int x5]) (rest := []) ⟨hx, hb, hml, hown, hts⟩ (c_Nt_ahead l D cA cP ob ad x4 x5  S hq_3 H.size) ⟨callB_of 2 hts (gd_Nt_ahead) rfl rfl rfl (hts _ (List.mem_cons_of_mem _ wd_69)) (hts _ (List.mem_cons_of_mem _ wd_711)) dd_Nt_ahead ⟨Nat.le_of_ble_eq_true rfl, Nat.le_of_ble_eq_true rfl⟩, (hts _ (List.mem_cons_of_mem _ wd_382))⟩ (kpS hK hP hD hN hZ hS) rfl rfl hl.1 rfl (lv_room (Nat.le_of_ble_eq_true rfl)) d_Pn_locateInNet_39 ⟨Nat.le_of_ble_eq_true rfl, Nat.le_of_ble_eq_true rfl⟩) hP hD hS hA (fun r w H locs hw hP hD hS => ?_)
      obtain ⟨rfl, rfl⟩ := hw
      refine lv_istore (lv' := [(6, .int q_3.1), (0, .ref (ob 0)), (2, .int x2), (3, .int x3), (4, .int x4), (5, .int x5)]) hx hb d_Pn_locateInNet_42 hl (by decide) rfl (fun ls hl => ?_)
      refine lv_aload_n hx hb d_Pn_locateInNet_44 rfl (lv_at hl 1 rfl) ?_
      refine va_get (D := D) (ci := 0) (v := .ref (ob 1)) (C := R_Pn) (T := F_Pn) (N := 8) hx hb hts (fun w h => List.mem_cons_of_mem _ (in_Pn w h)) hown hK hP 0 rfl rfl 0 (by decide) (hts _ (List.mem_cons_of_mem _ wd_249)) (fun _ h9 => h9) rfl d_Pn_locateInNet_45 ?_
      refine lv_aload_n hx hb d_Pn_locateInNet_48 rfl (lv_at hl 1 rfl) ?_
      refine va_get (D := D) (ci := 0) (v := .ref (ob 3)) (C := R_Pn) (T := F_Pn) (N := 8) hx hb hts (fun w h => List.mem_cons_of_mem _ (in_Pn w h)) hown hK hP 0 rfl rfl 1 (by decide) (hts _ (List.mem_cons_of_mem _ wd_250)) (fun _ h9 => h9) rfl d_Pn_locateInNet_49 ?_
      refine lv_iload hx hb d_Pn_locateInNet_52 (lv_at hl 0 rfl) ?_
      obtain ⟨q_4, hq_4, hf⟩ := bd_some hf
      refine kc_i (va_runV (As := [.int q_3.1]) (rest := [.ref (ob 1)]) ⟨hx, hb, hml, hown, hts⟩ (c_Nt_startOf l D cA cP ob ad q_3.1  q_3.2 hq_4 H.size) ⟨callB_of 1 hts (gd_Nt_startOf) rfl rfl rfl (hts _ (List.mem_cons_of_mem _ wd_69)) (hts _ (List.mem_cons_of_mem _ wd_712)) dd_Nt_startOf ⟨Nat.le_of_ble_eq_true rfl, Nat.le_of_ble_eq_true rfl⟩, (hts _ (List.mem_cons_of_mem _ wd_393)), (hts _ (List.mem_cons_of_mem _ wd_394))⟩ (kpV hK hP hD hN hZ hS 3 3 rfl rfl) rfl rfl hl.1 rfl (lv_room (Nat.le_of_ble_eq_true rfl)) d_Pn_locateInNet_54 ⟨Nat.le_of_ble_eq_true rfl, Nat.le_of_ble_eq_true rfl⟩) hP hD hS hA (fun r w H locs hw hP hD hS => ?_)
      obtain ⟨rfl, rfl⟩ := hw
      refine lv_aload_n hx hb d_Pn_locateInNet_57 rfl (lv_at hl 1 rfl) ?_
      refine va_get (D := D) (ci := 0) (v := .ref (ob 3)) (C := R_Pn) (T := F_Pn) (N := 8) hx hb hts (fun w h => List.mem_cons_of_mem _ (in_Pn w h)) hown hK hP 0 rfl rfl 1 (by decide) (hts _ (List.mem_cons_of_mem _ wd_250)) (fun _ h9 => h9) rfl d_Pn_locateInNet_58 ?_
      refine lv_iload hx hb d_Pn_locateInNet_61 (lv_at hl 0 rfl) ?_
      obtain ⟨q_5, hq_5, hf⟩ := bd_some hf
      refine kc_i (va_runV (As := [.int q_3.1]) (rest := [.int q_4.1, .ref (ob 1)]) ⟨hx, hb, hml, hown, hts⟩ (c_Nt_endOf l D cA cP ob ad q_3.1  q_4.2 hq_5 H.size) ⟨callB_of 1 hts (gd_Nt_endOf) rfl rfl rfl (hts _ (List.mem_cons_of_mem _ wd_69)) (hts _ (List.mem_cons_of_mem _ wd_789)) dd_Nt_endOf ⟨Nat.le_of_ble_eq_true rfl, Nat.le_of_ble_eq_true rfl⟩, (hts _ (List.mem_cons_of_mem _ wd_378)), (hts _ (List.mem_cons_of_mem _ wd_379))⟩ (kpV hK hP hD hN hZ hS 3 3 rfl rfl) rfl rfl hl.1 rfl (lv_room (Nat.le_of_ble_eq_true rfl)) d_Pn_locateInNet_63 ⟨Nat.le_of_ble_eq_true rfl, Nat.le_of_ble_eq_true rfl⟩) hP hD hS hA (fun r w H locs hw hP hD hS => ?_)
      obtain ⟨rfl, rfl⟩ := hw
      refine lv_iload_n hx hb d_Pn_locateInNet_66 rfl (lv_at hl 2 rfl) ?_
      refine lv_iload_n hx hb d_Pn_locateInNet_67 rfl (lv_at hl 3 rfl) ?_
      obtain ⟨q_6, hq_6, hf⟩ := bd_some hf
      refine kc_l (va_runV (As := [.int q_4.1, .int q_5.1, .int x2, .int x3]) (rest := []) ⟨hx, hb, hml, hown, hts⟩ (c_Pt_turn l D cA cP ob ad q_4.1 q_5.1 x2 x3  q_5.2 hq_6 H.size) ⟨callB_of 4 hts (gd_Pt_turn) rfl rfl rfl (hts _ (List.mem_cons_of_mem _ wd_65)) (hts _ (List.mem_cons_of_mem _ wd_573)) dd_Pt_turn ⟨Nat.le_of_ble_eq_true rfl, Nat.le_of_ble_eq_true rfl⟩, (hts _ (List.mem_cons_of_mem _ wd_409)), (hts _ (List.mem_cons_of_mem _ wd_410))⟩ (kpV hK hP hD hN hZ hS 1 1 rfl rfl) rfl rfl hl.1 rfl (lv_room (Nat.le_of_ble_eq_true rfl)) d_Pn_locateInNet_68 ⟨Nat.le_of_ble_eq_true rfl, Nat.le_of_ble_eq_true rfl⟩) hP hD hS hA (fun r w H locs hw hP hD hS => ?_)
      obtain ⟨rfl, rfl⟩ := hw
      refine lv_lconst (v := 0) hx hb d_Pn_locateInNet_71 (by decide) ?_
      refine W.lcmp hx hb d_Pn_locateInNet_72 ?_
      refine lv_if_ne (tgt := 99) hx hb d_Pn_locateInNet_73 (by decide) (fun c_7 => ?_) (fun c_7 => ?_)
      · rw [if_neg c_7] at hf
        obtain ⟨x5_8, ex5_8, hf⟩ := bn_some hf
        refine lv_iinc (v := x5_8) (lv' := [(5, .int x5_8), (6, .int q_3.1), (0, .ref (ob 0)), (2, .int x2), (3, .int x3), (4, .int x4)]) hx hb d_Pn_locateInNet_99 hl (k := 5) rfl (by rw [ex5_8]; rfl) (by decide) rfl (fun ls hl => ?_)
        refine lv_goto (tgt := 29) hx hb d_Pn_locateInNet_102 (by decide) ?_
        exact ih x2 x3 x4 x5_8 q_6.2 H locs ls hP hD hS (lv_sub hl [2, 3, 4, 5, 0] rfl) hf
      · rw [if_pos c_7] at hf
        refine lv_aload_n hx hb d_Pn_locateInNet_76 rfl (lv_at hl 1 rfl) ?_
        refine lv_aload_n hx hb d_Pn_locateInNet_77 rfl (lv_at hl 1 rfl) ?_
        refine va_get (D := D) (ci := 0) (v := .ref (ob 3)) (C := R_Pn) (T := F_Pn) (N := 8) hx hb hts (fun w h => List.mem_cons_of_mem _ (in_Pn w h)) hown hK hP 0 rfl rfl 1 (by decide) (hts _ (List.mem_cons_of_mem _ wd_250)) (fun _ h9 => h9) rfl d_Pn_locateInNet_78 ?_
        refine lv_iload hx hb d_Pn_locateInNet_81 (lv_at hl 0 rfl) ?_
        obtain ⟨q_9, hq_9, hf⟩ := bd_some hf
        refine kc_i (va_runV (As := [.int q_3.1]) (rest := [.ref (ob 0)]) ⟨hx, hb, hml, hown, hts⟩ (c_Nt_startOf l D cA cP ob ad q_3.1  q_6.2 hq_9 H.size) ⟨callB_of 1 hts (gd_Nt_startOf) rfl rfl rfl (hts _ (List.mem_cons_of_mem _ wd_69)) (hts _ (List.mem_cons_of_mem _ wd_712)) dd_Nt_startOf ⟨Nat.le_of_ble_eq_true rfl, Nat.le_of_ble_eq_true rfl⟩, (hts _ (List.mem_cons_of_mem _ wd_393)), (hts _ (List.mem_cons_of_mem _ wd_394))⟩ (kpV hK hP hD hN hZ hS 3 3 rfl rfl) rfl rfl hl.1 rfl (lv_room (Nat.le_of_ble_eq_true rfl)) d_Pn_locateInNet_83 ⟨Nat.le_of_ble_eq_true rfl, Nat.le_of_ble_eq_true rfl⟩) hP hD hS hA (fun r w H locs hw hP hD hS => ?_)
        obtain ⟨rfl, rfl⟩ := hw
        refine lv_aload_n hx hb d_Pn_locateInNet_86 rfl (lv_at hl 1 rfl) ?_
        refine va_get (D := D) (ci := 0) (v := .ref (ob 3)) (C := R_Pn) (T := F_Pn) (N := 8) hx hb hts (fun w h => List.mem_cons_of_mem _ (in_Pn w h)) hown hK hP 0 rfl rfl 1 (by decide) (hts _ (List.mem_cons_of_mem _ wd_250)) (fun _ h9 => h9) rfl d_Pn_locateInNet_87 ?_
        refine lv_iload hx hb d_Pn_locateInNet_90 (lv_at hl 0 rfl) ?_
        obtain ⟨q_10, hq_10, hf⟩ := bd_some hf
        refine kc_i (va_runV (As := [.int q_3.1]) (rest := [.int q_9.1, .ref (ob 0)]) ⟨hx, hb, hml, hown, hts⟩ (c_Nt_endOf l D cA cP ob ad q_3.1  q_9.2 hq_10 H.size) ⟨callB_of 1 hts (gd_Nt_endOf) rfl rfl rfl (hts _ (List.mem_cons_of_mem _ wd_69)) (hts _ (List.mem_cons_of_mem _ wd_789)) dd_Nt_endOf ⟨Nat.le_of_ble_eq_true rfl, Nat.le_of_ble_eq_true rfl⟩, (hts _ (List.mem_cons_of_mem _ wd_378)), (hts _ (List.mem_cons_of_mem _ wd_379))⟩ (kpV hK hP hD hN hZ hS 3 3 rfl rfl) rfl rfl hl.1 rfl (lv_room (Nat.le_of_ble_eq_true rfl)) d_Pn_locateInNet_92 ⟨Nat.le_of_ble_eq_true rfl, Nat.le_of_ble_eq_true rfl⟩) hP hD hS hA (fun r w H locs hw hP hD hS => ?_)
        obtain ⟨rfl, rfl⟩ := hw
        obtain ⟨q_11, hq_11, hf⟩ := bd_some hf
        refine kc_i (va_runV (As := [.int q_9.1, .int q_10.1]) (rest := []) ⟨hx, hb, hml, hown, hts⟩ (c_Pn_foundBetween l D cA cP ob ad q_9.1 q_10.1  q_10.2 hq_11 H.size) ⟨callB_of 2 hts (gd_Pn_foundBetween) rfl rfl rfl (hts _ (List.mem_cons_of_mem _ wd_64)) (hts _ (List.mem_cons_of_mem _ wd_779)) dd_Pn_foundBetween ⟨Nat.le_of_ble_eq_true rfl, Nat.le_of_ble_eq_true rfl⟩, (hts _ (List.mem_cons_of_mem _ wd_781)), (hts _ (List.mem_cons_of_mem _ wd_32))⟩ (kpV hK hP hD hN hZ hS 0 0 rfl rfl) rfl rfl hl.1 rfl (lv_room (Nat.le_of_ble_eq_true rfl)) d_Pn_locateInNet_95 ⟨Nat.le_of_ble_eq_true rfl, Nat.le_of_ble_eq_true rfl⟩) hP hD hS hA (fun r w H locs hw hP hD hS => ?_)
        obtain ⟨rfl, rfl⟩ := hw
        cases hf
        exact hret _ _ _ _ _ _ ⟨rfl, rfl⟩ hP hD hS d_Pn_locateInNet_98
def f_Pn_locateInNet_0   (x1 : Int32) (x2 : Int32) (x3 : Int32) (S : St) : Option (Int32 × St) :=
  bd (f_Nt_holder x1 x2 x3 S) (fun q_1 => bd (f_Nt_isOuter q_1.1 q_1.2) (fun q_2 => (if q_2.1 = 0 then
    f_Pn_locateInNet_29   FU x2 x3 q_1.1 0 q_2.2
    else
    some (0, q_2.2))))
set_option maxHeartbeats 4000000 in
set_option maxRecDepth 100000 in
theorem w_Pn_locateInNet_0 (C0 : CX p s m args c b_Pn_locateInNet 7 R_Pn w_Pn_locateInNet D clC cA cP A) {res : (Int32 × St)} (hret : RTi p l e rm_Pn_locateInNet s m args below meth c Q D clC A b_Pn_locateInNet 0 0 (fun r w => r = res.1 ∧ w = cw cA cP ob ad res.2))    : ∀ (x1 : Int32) (x2 : Int32) (x3 : Int32) (S : St) (H : Heap) (locs : List Loc) (ls : Array Slot), va_P D clC (cw cA cP ob ad S) H → va_D A (cw cA cP ob ad S) → va_S A s.heap H locs → lv_has ls 7 [(0, .ref (ob 0)), (1, .int x1), (2, .int x2), (3, .int x3)] → f_Pn_locateInNet_0   x1 x2 x3 S = some res → W p l e rm_Pn_locateInNet s m args below meth c H locs 0 0 Q (F0 m 0 ls []) := by
  obtain ⟨hx, hb, hml, hown, hts, hK, hA, hN, hZ⟩ := id C0
  intro x1 x2 x3 S H locs ls hP hD hS hl hf
  rw [f_Pn_locateInNet_0] at hf
  refine lv_aload_n hx hb d_Pn_locateInNet_0 rfl (lv_at hl 0 rfl) ?_
  refine va_get (D := D) (ci := 0) (v := .ref (ob 3)) (C := R_Pn) (T := F_Pn) (N := 8) hx hb hts (fun w h => List.mem_cons_of_mem _ (in_Pn w h)) hown hK hP 0 rfl rfl 1 (by decide) (hts _ (List.mem_cons_of_mem _ wd_250)) (fun _ h9 => h9) rfl d_Pn_locateInNet_1 ?_
  refine lv_iload_n hx hb d_Pn_locateInNet_4 rfl (lv_at hl 1 rfl) ?_
  refine lv_iload_n hx hb d_Pn_locateInNet_5 rfl (lv_at hl 2 rfl) ?_
  refine lv_iload_n hx hb d_Pn_locateInNet_6 rfl (lv_at hl 3 rfl) ?_
  obtain ⟨q_1, hq_1, hf⟩ := bd_some hf
  refine kc_i (va_runV (As := [.int x1, .int x2, .int x3]) (rest := []) ⟨hx, hb, hml, hown, hts⟩ (c_Nt_holder l D cA cP ob ad x1 x2 x3  S hq_1 H.size) ⟨callB_of 3 hts (gd_Nt_holder) rfl rfl rfl (hts _ (List.mem_cons_of_mem _ wd_69)) (hts _ (List.mem_cons_of_mem _ wd_787)) dd_Nt_holder ⟨Nat.le_of_ble_eq_true rfl, Nat.le_of_ble_eq_true rfl⟩, (hts _ (List.mem_cons_of_mem _ wd_594)), (hts _ (List.mem_cons_of_mem _ wd_595))⟩ (kpV hK hP hD hN hZ hS 3 3 rfl rfl) rfl rfl hl.1 rfl (lv_room (Nat.le_of_ble_eq_true rfl)) d_Pn_locateInNet_7 ⟨Nat.le_of_ble_eq_true rfl, Nat.le_of_ble_eq_true rfl⟩) hP hD hS hA (fun r w H locs hw hP hD hS => ?_)
  obtain ⟨rfl, rfl⟩ := hw
  refine lv_istore (lv' := [(4, .int q_1.1), (0, .ref (ob 0)), (1, .int x1), (2, .int x2), (3, .int x3)]) hx hb d_Pn_locateInNet_10 hl (by decide) rfl (fun ls hl => ?_)
  refine lv_aload_n hx hb d_Pn_locateInNet_12 rfl (lv_at hl 1 rfl) ?_
  refine va_get (D := D) (ci := 0) (v := .ref (ob 3)) (C := R_Pn) (T := F_Pn) (N := 8) hx hb hts (fun w h => List.mem_cons_of_mem _ (in_Pn w h)) hown hK hP 0 rfl rfl 1 (by decide) (hts _ (List.mem_cons_of_mem _ wd_250)) (fun _ h9 => h9) rfl d_Pn_locateInNet_13 ?_
  refine lv_iload hx hb d_Pn_locateInNet_16 (lv_at hl 0 rfl) ?_
  obtain ⟨q_2, hq_2, hf⟩ := bd_some hf
  refine kc_i (va_runV (As := [.int q_1.1]) (rest := []) ⟨hx, hb, hml, hown, hts⟩ (c_Nt_isOuter l D cA cP ob ad q_1.1  q_1.2 hq_2 H.size) ⟨callB_of 1 hts (gd_Nt_isOuter) rfl rfl rfl (hts _ (List.mem_cons_of_mem _ wd_69)) (hts _ (List.mem_cons_of_mem _ wd_788)) dd_Nt_isOuter ⟨Nat.le_of_ble_eq_true rfl, Nat.le_of_ble_eq_true rfl⟩, (hts _ (List.mem_cons_of_mem _ wd_598)), (hts _ (List.mem_cons_of_mem _ wd_599))⟩ (kpV hK hP hD hN hZ hS 3 3 rfl rfl) rfl rfl hl.1 rfl (lv_room (Nat.le_of_ble_eq_true rfl)) d_Pn_locateInNet_18 ⟨Nat.le_of_ble_eq_true rfl, Nat.le_of_ble_eq_true rfl⟩) hP hD hS hA (fun r w H locs hw hP hD hS => ?_)
  obtain ⟨rfl, rfl⟩ := hw
  refine lv_if_eq (tgt := 26) hx hb d_Pn_locateInNet_21 (by decide) (fun c_3 => ?_) (fun c_3 => ?_)
  · rw [if_pos c_3] at hf
    refine lv_iconst (v := 0) hx hb d_Pn_locateInNet_26 (by decide) ?_
    refine lv_istore (lv' := [(5, .int 0), (4, .int q_1.1), (0, .ref (ob 0)), (1, .int x1), (2, .int x2), (3, .int x3)]) hx hb d_Pn_locateInNet_27 hl (by decide) rfl (fun ls hl => ?_)
    exact w_Pn_locateInNet_29 C0 hret    FU x2 x3 q_1.1 0 q_2.2 H locs ls hP hD hS (lv_sub hl [2, 4, 5, 1, 0] rfl) hf
  · rw [if_neg c_3] at hf
    refine lv_iconst (v := 0) hx hb d_Pn_locateInNet_24 (by decide) ?_
    cases hf
    exact hret _ _ _ _ _ _ ⟨rfl, rfl⟩ hP hD hS d_Pn_locateInNet_25
def f_Pn_locateInNet (x1 : Int32) (x2 : Int32) (x3 : Int32) (S : St) : Option (Int32 × St) := f_Pn_locateInNet_0  x1 x2 x3 S
theorem c_Pn_locateInNet (l : Launch) (D : va_G) (cA cP : ClassId) (ob : Nat → Nat) (ad : Nat → Nat → Nat) (x1 : Int32) (x2 : Int32) (x3 : Int32)  (S : St) {res : (Int32 × St)} (hf : f_Pn_locateInNet x1 x2 x3 S = some res) : CTi l y_Pn_locateInNet w_Pn_locateInNet rm_Pn_locateInNet 0 0 D clC (TY cA cP) [.ref (ob 0), .int x1, .int x2, .int x3] (cw cA cP ob ad S) (fun r w => r = res.1 ∧ w = cw cA cP ob ad res.2) :=
  mk_i (cc := b_Pn_locateInNet) (maxL := 7) (own := R_Pn) (by decide) rfl rfl (Nat.le_of_ble_eq_true rfl) (fun p e s m below meth c A Q C0 hret ls hl hP hD hS => w_Pn_locateInNet_0 C0 hret   x1 x2 x3 S _ _ ls hP hD hS (lv_sub hl [0, 1, 2, 3] rfl) hf)
end
