section
variable {p : Program} {l : Launch} {e : Env} {s : State} {m : MethodId} {args : Array Value} {below : List Frame} {meth : Method} {c : Code} {Q : State → Prop} {D : va_G} {cA cP : ClassId} {ob : Nat → Nat} {ad : Nat → Nat → Nat} {A : Nat → Prop}
def f_Pn_neighbour_18    (S : St) : Option (Int32 × St) :=
  none
set_option maxHeartbeats 4000000 in
set_option maxRecDepth 100000 in
theorem w_Pn_neighbour_18 (C0 : CX p s m args c b_Pn_neighbour 3 R_Pn w_Pn_neighbour D clC cA cP A) {res : (Int32 × St)} (hret : RTi p l e rm_Pn_neighbour s m args below meth c Q D clC A b_Pn_neighbour 0 0 (fun r w => r = res.1 ∧ w = cw cA cP ob ad res.2))    : ∀  (S : St) (H : Heap) (locs : List Loc) (ls : Array Slot), va_P D clC (cw cA cP ob ad S) H → va_D A (cw cA cP ob ad S) → va_S A s.heap H locs → lv_has ls 3 [] → f_Pn_neighbour_18    S = some res → W p l e rm_Pn_neighbour s m args below meth c H locs 0 0 Q (F0 m 18 ls []) := by
  obtain ⟨hx, hb, hml, hown, hts, hK, hA, hN, hZ⟩ := id C0
  intro  S H locs ls hP hD hS hl hf
  rw [f_Pn_neighbour_18] at hf
  cases hf
def f_Pn_neighbour_0   (x1 : Int32) (x2 : Int32) (S : St) : Option (Int32 × St) :=
  bd (f_Pn_checkNumber x1 S) (fun q_1 => (if x2 < 0 then
    f_Pn_neighbour_18    q_1
    else
    bd (f_Pn_neighbourCount x1 q_1) (fun q_3 => (if x2 < q_3.1 then
      bd (f_Nt_isEmpty  q_3.2) (fun q_5 => (if q_5.1 = 0 then
        bd (f_Nt_leftRound x1 x2 q_5.2) (fun q_7 => some (q_7.1, q_7.2))
        else
        bd (f_Pn_neighbourOnLine x1 x2 q_5.2) (fun q_8 => some (q_8.1, q_8.2))))
      else
      f_Pn_neighbour_18    q_3.2))))
set_option maxHeartbeats 4000000 in
set_option maxRecDepth 100000 in
theorem w_Pn_neighbour_0 (C0 : CX p s m args c b_Pn_neighbour 3 R_Pn w_Pn_neighbour D clC cA cP A) {res : (Int32 × St)} (hret : RTi p l e rm_Pn_neighbour s m args below meth c Q D clC A b_Pn_neighbour 0 0 (fun r w => r = res.1 ∧ w = cw cA cP ob ad res.2))    : ∀ (x1 : Int32) (x2 : Int32) (S : St) (H : Heap) (locs : List Loc) (ls : Array Slot), va_P D clC (cw cA cP ob ad S) H → va_D A (cw cA cP ob ad S) → va_S A s.heap H locs → lv_has ls 3 [(0, .ref (ob 0)), (1, .int x1), (2, .int x2)] → f_Pn_neighbour_0   x1 x2 S = some res → W p l e rm_Pn_neighbour s m args below meth c H locs 0 0 Q (F0 m 0 ls []) := by
  obtain ⟨hx, hb, hml, hown, hts, hK, hA, hN, hZ⟩ := id C0
  intro x1 x2 S H locs ls hP hD hS hl hf
  rw [f_Pn_neighbour_0] at hf
  refine lv_aload_n hx hb d_Pn_neighbour_0 rfl (lv_at hl 0 rfl) ?_
  refine lv_iload_n hx hb d_Pn_neighbour_1 rfl (lv_at hl 1 rfl) ?_
  obtain ⟨q_1, hq_1, hf⟩ := bd_some hf
  refine kc_v (va_runV (As := [.int x1]) (rest := []) ⟨hx, hb, hml, hown, hts⟩ (c_Pn_checkNumber l D cA cP ob ad x1  S hq_1 H.size) ⟨callB_of 1 hts (gd_Pn_checkNumber) rfl rfl rfl (hts _ (List.mem_cons_of_mem _ wd_64)) (hts _ (List.mem_cons_of_mem _ wd_720)) dd_Pn_checkNumber ⟨Nat.le_of_ble_eq_true rfl, Nat.le_of_ble_eq_true rfl⟩, (hts _ (List.mem_cons_of_mem _ wd_722)), (hts _ (List.mem_cons_of_mem _ wd_27))⟩ (kpV hK hP hD hN hZ hS 0 0 rfl rfl) rfl rfl hl.1 rfl (lv_room (Nat.le_of_ble_eq_true rfl)) d_Pn_neighbour_2 ⟨Nat.le_of_ble_eq_true rfl, Nat.le_of_ble_eq_true rfl⟩) hP hD hS hA (fun w H locs hw hP hD hS => ?_)
  obtain rfl := hw
  refine lv_iload_n hx hb d_Pn_neighbour_5 rfl (lv_at hl 2 rfl) ?_
  refine lv_if_lt (tgt := 18) hx hb d_Pn_neighbour_6 (by decide) (fun c_2 => ?_) (fun c_2 => ?_)
  · rw [if_pos c_2] at hf
    exact w_Pn_neighbour_18 C0 hret     q_1 H locs ls hP hD hS (lv_sub hl [] rfl) hf
  · rw [if_neg c_2] at hf
    refine lv_iload_n hx hb d_Pn_neighbour_9 rfl (lv_at hl 2 rfl) ?_
    refine lv_aload_n hx hb d_Pn_neighbour_10 rfl (lv_at hl 0 rfl) ?_
    refine lv_iload_n hx hb d_Pn_neighbour_11 rfl (lv_at hl 1 rfl) ?_
    obtain ⟨q_3, hq_3, hf⟩ := bd_some hf
    refine kc_i (va_runV (As := [.int x1]) (rest := [.int x2]) ⟨hx, hb, hml, hown, hts⟩ (c_Pn_neighbourCount l D cA cP ob ad x1  q_1 hq_3 H.size) ⟨callB_of 1 hts (gd_Pn_neighbourCount) rfl rfl rfl (hts _ (List.mem_cons_of_mem _ wd_64)) (hts _ (List.mem_cons_of_mem _ wd_725)) dd_Pn_neighbourCount ⟨Nat.le_of_ble_eq_true rfl, Nat.le_of_ble_eq_true rfl⟩, (hts _ (List.mem_cons_of_mem _ wd_727)), (hts _ (List.mem_cons_of_mem _ wd_28))⟩ (kpV hK hP hD hN hZ hS 0 0 rfl rfl) rfl rfl hl.1 rfl (lv_room (Nat.le_of_ble_eq_true rfl)) d_Pn_neighbour_12 ⟨Nat.le_of_ble_eq_true rfl, Nat.le_of_ble_eq_true rfl⟩) hP hD hS hA (fun r w H locs hw hP hD hS => ?_)
    obtain ⟨rfl, rfl⟩ := hw
    refine lv_icmp_lt (tgt := 28) hx hb d_Pn_neighbour_15 (by decide) (fun c_4 => ?_) (fun c_4 => ?_)
    · rw [if_pos c_4] at hf
      refine lv_aload_n hx hb d_Pn_neighbour_28 rfl (lv_at hl 0 rfl) ?_
      refine va_get (D := D) (ci := 0) (v := .ref (ob 3)) (C := R_Pn) (T := F_Pn) (N := 8) hx hb hts (fun w h => List.mem_cons_of_mem _ (in_Pn w h)) hown hK hP 0 rfl rfl 1 (by decide) (hts _ (List.mem_cons_of_mem _ wd_250)) (fun _ h9 => h9) rfl d_Pn_neighbour_29 ?_
      obtain ⟨q_5, hq_5, hf⟩ := bd_some hf
      refine kc_i (va_runV (As := []) (rest := []) ⟨hx, hb, hml, hown, hts⟩ (c_Nt_isEmpty l D cA cP ob ad   q_3.2 hq_5 H.size) ⟨callB_of 0 hts (gd_Nt_isEmpty) rfl rfl rfl (hts _ (List.mem_cons_of_mem _ wd_69)) (hts _ (List.mem_cons_of_mem _ wd_568)) dd_Nt_isEmpty ⟨Nat.le_of_ble_eq_true rfl, Nat.le_of_ble_eq_true rfl⟩, (hts _ (List.mem_cons_of_mem _ wd_323)), (hts _ (List.mem_cons_of_mem _ wd_324))⟩ (kpV hK hP hD hN hZ hS 3 3 rfl rfl) rfl rfl hl.1 rfl (lv_room (Nat.le_of_ble_eq_true rfl)) d_Pn_neighbour_32 ⟨Nat.le_of_ble_eq_true rfl, Nat.le_of_ble_eq_true rfl⟩) hP hD hS hA (fun r w H locs hw hP hD hS => ?_)
      obtain ⟨rfl, rfl⟩ := hw
      refine lv_if_eq (tgt := 47) hx hb d_Pn_neighbour_35 (by decide) (fun c_6 => ?_) (fun c_6 => ?_)
      · rw [if_pos c_6] at hf
        refine lv_aload_n hx hb d_Pn_neighbour_47 rfl (lv_at hl 0 rfl) ?_
        refine va_get (D := D) (ci := 0) (v := .ref (ob 3)) (C := R_Pn) (T := F_Pn) (N := 8) hx hb hts (fun w h => List.mem_cons_of_mem _ (in_Pn w h)) hown hK hP 0 rfl rfl 1 (by decide) (hts _ (List.mem_cons_of_mem _ wd_250)) (fun _ h9 => h9) rfl d_Pn_neighbour_48 ?_
        refine lv_iload_n hx hb d_Pn_neighbour_51 rfl (lv_at hl 1 rfl) ?_
        refine lv_iload_n hx hb d_Pn_neighbour_52 rfl (lv_at hl 2 rfl) ?_
        obtain ⟨q_7, hq_7, hf⟩ := bd_some hf
        refine kc_i (va_runV (As := [.int x1, .int x2]) (rest := []) ⟨hx, hb, hml, hown, hts⟩ (c_Nt_leftRound l D cA cP ob ad x1 x2  q_5.2 hq_7 H.size) ⟨callB_of 2 hts (gd_Nt_leftRound) rfl rfl rfl (hts _ (List.mem_cons_of_mem _ wd_69)) (hts _ (List.mem_cons_of_mem _ wd_747)) dd_Nt_leftRound ⟨Nat.le_of_ble_eq_true rfl, Nat.le_of_ble_eq_true rfl⟩, (hts _ (List.mem_cons_of_mem _ wd_748)), (hts _ (List.mem_cons_of_mem _ wd_749))⟩ (kpV hK hP hD hN hZ hS 3 3 rfl rfl) rfl rfl hl.1 rfl (lv_room (Nat.le_of_ble_eq_true rfl)) d_Pn_neighbour_53 ⟨Nat.le_of_ble_eq_true rfl, Nat.le_of_ble_eq_true rfl⟩) hP hD hS hA (fun r w H locs hw hP hD hS => ?_)
        obtain ⟨rfl, rfl⟩ := hw
        cases hf
        exact hret _ _ _ _ _ _ ⟨rfl, rfl⟩ hP hD hS d_Pn_neighbour_56
      · rw [if_neg c_6] at hf
        refine lv_aload_n hx hb d_Pn_neighbour_38 rfl (lv_at hl 0 rfl) ?_
        refine lv_iload_n hx hb d_Pn_neighbour_39 rfl (lv_at hl 1 rfl) ?_
        refine lv_iload_n hx hb d_Pn_neighbour_40 rfl (lv_at hl 2 rfl) ?_
        obtain ⟨q_8, hq_8, hf⟩ := bd_some hf
        refine kc_i (va_runV (As := [.int x1, .int x2]) (rest := []) ⟨hx, hb, hml, hown, hts⟩ (c_Pn_neighbourOnLine l D cA cP ob ad x1 x2  q_5.2 hq_8 H.size) ⟨callB_of 2 hts (gd_Pn_neighbourOnLine) rfl rfl rfl (hts _ (List.mem_cons_of_mem _ wd_64)) (hts _ (List.mem_cons_of_mem _ wd_743)) dd_Pn_neighbourOnLine ⟨Nat.le_of_ble_eq_true rfl, Nat.le_of_ble_eq_true rfl⟩, (hts _ (List.mem_cons_of_mem _ wd_745)), (hts _ (List.mem_cons_of_mem _ wd_29))⟩ (kpV hK hP hD hN hZ hS 0 0 rfl rfl) rfl rfl hl.1 rfl (lv_room (Nat.le_of_ble_eq_true rfl)) d_Pn_neighbour_41 ⟨Nat.le_of_ble_eq_true rfl, Nat.le_of_ble_eq_true rfl⟩) hP hD hS hA (fun r w H locs hw hP hD hS => ?_)
        obtain ⟨rfl, rfl⟩ := hw
        refine lv_goto (tgt := 56) hx hb d_Pn_neighbour_44 (by decide) ?_
        cases hf
        exact hret _ _ _ _ _ _ ⟨rfl, rfl⟩ hP hD hS d_Pn_neighbour_56
    · rw [if_neg c_4] at hf
      exact w_Pn_neighbour_18 C0 hret     q_3.2 H locs ls hP hD hS (lv_sub hl [] rfl) hf
def f_Pn_neighbour (x1 : Int32) (x2 : Int32) (S : St) : Option (Int32 × St) := f_Pn_neighbour_0  x1 x2 S
theorem c_Pn_neighbour (l : Launch) (D : va_G) (cA cP : ClassId) (ob : Nat → Nat) (ad : Nat → Nat → Nat) (x1 : Int32) (x2 : Int32)  (S : St) {res : (Int32 × St)} (hf : f_Pn_neighbour x1 x2 S = some res) : CTi l y_Pn_neighbour w_Pn_neighbour rm_Pn_neighbour 0 0 D clC (TY cA cP) [.ref (ob 0), .int x1, .int x2] (cw cA cP ob ad S) (fun r w => r = res.1 ∧ w = cw cA cP ob ad res.2) :=
  mk_i (cc := b_Pn_neighbour) (maxL := 3) (own := R_Pn) (by decide) rfl rfl (Nat.le_of_ble_eq_true rfl) (fun p e s m below meth c A Q C0 hret ls hl hP hD hS => w_Pn_neighbour_0 C0 hret   x1 x2 S _ _ ls hP hD hS (lv_sub hl [0, 1, 2] rfl) hf)
def f_Ol_put_0   (x1 : Int32) (S : St) : Option St :=
  bd (f_Rw_put 17 (gi S 11) x1 S) (fun q_1 => bn (seti q_1 11 ((gi q_1 11) + 1)) (fun S_2 => some S_2))
set_option maxHeartbeats 4000000 in
set_option maxRecDepth 100000 in
theorem w_Ol_put_0 (C0 : CX p s m args c b_Ol_put 2 R_Ol w_Ol_put D clC cA cP A) {res : St} (hret : RTv p l e rm_Ol_put s m args below meth c Q D clC A b_Ol_put 0 0 (fun w => w = cw cA cP ob ad res))    : ∀ (x1 : Int32) (S : St) (H : Heap) (locs : List Loc) (ls : Array Slot), va_P D clC (cw cA cP ob ad S) H → va_D A (cw cA cP ob ad S) → va_S A s.heap H locs → lv_has ls 2 [(0, .ref (ob 5)), (1, .int x1)] → f_Ol_put_0   x1 S = some res → W p l e rm_Ol_put s m args below meth c H locs 0 0 Q (F0 m 0 ls []) := by
  obtain ⟨hx, hb, hml, hown, hts, hK, hA, hN, hZ⟩ := id C0
  intro x1 S H locs ls hP hD hS hl hf
  rw [f_Ol_put_0] at hf
  refine lv_aload_n hx hb d_Ol_put_0 rfl (lv_at hl 0 rfl) ?_
  refine va_get (D := D) (ci := 5) (v := .ref (ob 17)) (C := R_Ol) (T := F_Ol) (N := 5) hx hb hts (fun w h => List.mem_cons_of_mem _ (in_Ol w h)) hown hK hP 5 rfl rfl 2 (by decide) (hts _ (List.mem_cons_of_mem _ wd_235)) (fun _ h9 => h9) rfl d_Ol_put_1 ?_
  refine lv_aload_n hx hb d_Ol_put_4 rfl (lv_at hl 0 rfl) ?_
  refine va_get (D := D) (ci := 5) (v := .int (gi S 11)) (C := R_Ol) (T := F_Ol) (N := 5) hx hb hts (fun w h => List.mem_cons_of_mem _ (in_Ol w h)) hown hK hP 5 rfl rfl 3 (by decide) (hts _ (List.mem_cons_of_mem _ wd_236)) (fun _ h9 => h9) rfl d_Ol_put_5 ?_
  refine lv_iload_n hx hb d_Ol_put_8 rfl (lv_at hl 1 rfl) ?_
  obtain ⟨q_1, hq_1, hf⟩ := bd_some hf
  refine kc_v (va_runV (As := [.int (gi S 11), .int x1]) (rest := []) ⟨hx, hb, hml, hown, hts⟩ (c_Rw_put l D cA cP ob ad 17 (gi S 11) x1 (by decide) S hq_1 H.size) ⟨callB_of 2 hts (gd_Rw_put) rfl rfl rfl (hts _ (List.mem_cons_of_mem _ wd_67)) (hts _ (List.mem_cons_of_mem _ wd_360)) dd_Rw_put ⟨Nat.le_of_ble_eq_true rfl, Nat.le_of_ble_eq_true rfl⟩, (hts _ (List.mem_cons_of_mem _ wd_361)), (hts _ (List.mem_cons_of_mem _ wd_362))⟩ (kpV hK hP hD hN hZ hS 6 17 rfl rfl) rfl rfl hl.1 rfl (lv_room (Nat.le_of_ble_eq_true rfl)) d_Ol_put_9 ⟨Nat.le_of_ble_eq_true rfl, Nat.le_of_ble_eq_true rfl⟩) hP hD hS hA (fun w H locs hw hP hD hS => ?_)
  obtain rfl := hw
  refine lv_aload_n hx hb d_Ol_put_12 rfl (lv_at hl 0 rfl) ?_
  refine lv_dup hx hb d_Ol_put_13 rfl ?_
  refine va_get (D := D) (ci := 5) (v := .int (gi q_1 11)) (C := R_Ol) (T := F_Ol) (N := 5) hx hb hts (fun w h => List.mem_cons_of_mem _ (in_Ol w h)) hown hK hP 5 rfl rfl 3 (by decide) (hts _ (List.mem_cons_of_mem _ wd_236)) (fun _ h9 => h9) rfl d_Ol_put_14 ?_
  refine lv_iconst (v := 1) hx hb d_Ol_put_17 (by decide) ?_
  refine lv_iadd hx hb d_Ol_put_18 ?_
  obtain ⟨S_2, eS_2, hf⟩ := bn_some hf
  refine va_put (D := D) (ci := 5) (v := .int ((gi q_1 11) + 1)) (ty := .int) (C := R_Ol) (T := F_Ol) (N := 5) hx hb hts (fun w h => List.mem_cons_of_mem _ (in_Ol w h)) t_Ol tk_Ol nk_Ol hown hK hP hD hS 5 rfl rfl 3 (by decide) (hts _ (List.mem_cons_of_mem _ wd_236)) (fun _ h9 => h9) rfl (by decide +kernel) rfl rfl (Nat.le_of_ble_eq_true rfl) d_Ol_put_19 (fun H locs hP hD hS => ?_)
  have hP : va_P D clC (cw cA cP ob ad S_2) H := by rw [eS_2]; exact hP
  have hD : va_D A (cw cA cP ob ad S_2) := by rw [eS_2]; exact hD
  cases hf
  exact hret _ _ _ _ _ rfl hP hD hS d_Ol_put_22
def f_Ol_put (x1 : Int32) (S : St) : Option St := f_Ol_put_0  x1 S
theorem c_Ol_put (l : Launch) (D : va_G) (cA cP : ClassId) (ob : Nat → Nat) (ad : Nat → Nat → Nat) (x1 : Int32)  (S : St) {res : St} (hf : f_Ol_put x1 S = some res) : CTv l y_Ol_put w_Ol_put rm_Ol_put 0 0 D clC (TY cA cP) [.ref (ob 5), .int x1] (cw cA cP ob ad S) (fun w => w = cw cA cP ob ad res) :=
  mk_v (cc := b_Ol_put) (maxL := 2) (own := R_Ol) (by decide) rfl rfl (Nat.le_of_ble_eq_true rfl) (fun p e s m below meth c A Q C0 hret ls hl hP hD hS => w_Ol_put_0 C0 hret   x1 S _ _ ls hP hD hS (lv_sub hl [0, 1] rfl) hf)
def f_Ol_drawLine_32   (x1 : Int32) (x2 : Int32) (S : St) : Option St :=
  (if x2 = x1 then
    some S
    else
    bd (f_Ol_put x2 S) (fun q_2 => some q_2))
set_option maxHeartbeats 4000000 in
set_option maxRecDepth 100000 in
theorem w_Ol_drawLine_32 (C0 : CX p s m args c b_Ol_drawLine 3 R_Ol w_Ol_drawLine D clC cA cP A) {res : St} (hret : RTv p l e rm_Ol_drawLine s m args below meth c Q D clC A b_Ol_drawLine 0 0 (fun w => w = cw cA cP ob ad res))    : ∀ (x1 : Int32) (x2 : Int32) (S : St) (H : Heap) (locs : List Loc) (ls : Array Slot), va_P D clC (cw cA cP ob ad S) H → va_D A (cw cA cP ob ad S) → va_S A s.heap H locs → lv_has ls 3 [(0, .ref (ob 5)), (1, .int x1), (2, .int x2)] → f_Ol_drawLine_32   x1 x2 S = some res → W p l e rm_Ol_drawLine s m args below meth c H locs 0 0 Q (F0 m 32 ls []) := by
  obtain ⟨hx, hb, hml, hown, hts, hK, hA, hN, hZ⟩ := id C0
  intro x1 x2 S H locs ls hP hD hS hl hf
  rw [f_Ol_drawLine_32] at hf
  refine lv_iload_n hx hb d_Ol_drawLine_32 rfl (lv_at hl 2 rfl) ?_
  refine lv_iload_n hx hb d_Ol_drawLine_33 rfl (lv_at hl 1 rfl) ?_
  refine lv_icmp_eq (tgt := 42) hx hb d_Ol_drawLine_34 (by decide) (fun c_1 => ?_) (fun c_1 => ?_)
  · rw [if_pos c_1] at hf
    cases hf
    exact hret _ _ _ _ _ rfl hP hD hS d_Ol_drawLine_42
  · rw [if_neg c_1] at hf
    refine lv_aload_n hx hb d_Ol_drawLine_37 rfl (lv_at hl 0 rfl) ?_
    refine lv_iload_n hx hb d_Ol_drawLine_38 rfl (lv_at hl 2 rfl) ?_
    obtain ⟨q_2, hq_2, hf⟩ := bd_some hf
    refine kc_v (va_runV (As := [.int x2]) (rest := []) ⟨hx, hb, hml, hown, hts⟩ (c_Ol_put l D cA cP ob ad x2  S hq_2 H.size) ⟨callB_of 1 hts (gd_Ol_put) rfl rfl rfl (hts _ (List.mem_cons_of_mem _ wd_71)) (hts _ (List.mem_cons_of_mem _ wd_356)) dd_Ol_put ⟨Nat.le_of_ble_eq_true rfl, Nat.le_of_ble_eq_true rfl⟩, (hts _ (List.mem_cons_of_mem _ wd_358)), (hts _ (List.mem_cons_of_mem _ wd_6))⟩ (kpV hK hP hD hN hZ hS 5 5 rfl rfl) rfl rfl hl.1 rfl (lv_room (Nat.le_of_ble_eq_true rfl)) d_Ol_drawLine_39 ⟨Nat.le_of_ble_eq_true rfl, Nat.le_of_ble_eq_true rfl⟩) hP hD hS hA (fun w H locs hw hP hD hS => ?_)
    obtain rfl := hw
    cases hf
    exact hret _ _ _ _ _ rfl hP hD hS d_Ol_drawLine_42
def f_Ol_drawLine_0    (S : St) : Option St :=
  bd (f_Pt_leastAbove (-1000000001) 0 S) (fun q_1 => bd (f_Pt_greatestBelow 1000000001 0 q_1.2) (fun q_2 => (if q_1.1 = (-1) then
    f_Ol_drawLine_32   q_1.1 q_2.1 q_2.2
    else
    bd (f_Ol_put q_1.1 q_2.2) (fun q_4 => f_Ol_drawLine_32   q_1.1 q_2.1 q_4))))
set_option maxHeartbeats 4000000 in
set_option maxRecDepth 100000 in
theorem w_Ol_drawLine_0 (C0 : CX p s m args c b_Ol_drawLine 3 R_Ol w_Ol_drawLine D clC cA cP A) {res : St} (hret : RTv p l e rm_Ol_drawLine s m args below meth c Q D clC A b_Ol_drawLine 0 0 (fun w => w = cw cA cP ob ad res))    : ∀  (S : St) (H : Heap) (locs : List Loc) (ls : Array Slot), va_P D clC (cw cA cP ob ad S) H → va_D A (cw cA cP ob ad S) → va_S A s.heap H locs → lv_has ls 3 [(0, .ref (ob 5))] → f_Ol_drawLine_0    S = some res → W p l e rm_Ol_drawLine s m args below meth c H locs 0 0 Q (F0 m 0 ls []) := by
  obtain ⟨hx, hb, hml, hown, hts, hK, hA, hN, hZ⟩ := id C0
  intro  S H locs ls hP hD hS hl hf
  rw [f_Ol_drawLine_0] at hf
  refine lv_aload_n hx hb d_Ol_drawLine_0 rfl (lv_at hl 0 rfl) ?_
  refine va_get (D := D) (ci := 5) (v := .ref (ob 1)) (C := R_Ol) (T := F_Ol) (N := 5) hx hb hts (fun w h => List.mem_cons_of_mem _ (in_Ol w h)) hown hK hP 5 rfl rfl 0 (by decide) (hts _ (List.mem_cons_of_mem _ wd_233)) (fun _ h9 => h9) rfl d_Ol_drawLine_1 ?_
  refine lv_ldc (v := (-1000000001)) hx hb hown (hts _ (List.mem_cons_of_mem _ wd_330)) d_Ol_drawLine_4 ?_
  refine lv_iconst (v := 0) hx hb d_Ol_drawLine_6 (by decide) ?_
  obtain ⟨q_1, hq_1, hf⟩ := bd_some hf
  refine kc_i (va_runV (As := [.int (-1000000001), .int 0]) (rest := []) ⟨hx, hb, hml, hown, hts⟩ (c_Pt_leastAbove l D cA cP ob ad (-1000000001) 0  S hq_1 H.size) ⟨callB_of 2 hts (gd_Pt_leastAbove) rfl rfl rfl (hts _ (List.mem_cons_of_mem _ wd_65)) (hts _ (List.mem_cons_of_mem _ wd_331)) dd_Pt_leastAbove ⟨Nat.le_of_ble_eq_true rfl, Nat.le_of_ble_eq_true rfl⟩, (hts _ (List.mem_cons_of_mem _ wd_332)), (hts _ (List.mem_cons_of_mem _ wd_333))⟩ (kpV hK hP hD hN hZ hS 1 1 rfl rfl) rfl rfl hl.1 rfl (lv_room (Nat.le_of_ble_eq_true rfl)) d_Ol_drawLine_7 ⟨Nat.le_of_ble_eq_true rfl, Nat.le_of_ble_eq_true rfl⟩) hP hD hS hA (fun r w H locs hw hP hD hS => ?_)
  obtain ⟨rfl, rfl⟩ := hw
  refine lv_istore_n (lv' := [(1, .int q_1.1), (0, .ref (ob 5))]) hx hb d_Ol_drawLine_10 rfl hl (by decide) rfl (fun ls hl => ?_)
  refine lv_aload_n hx hb d_Ol_drawLine_11 rfl (lv_at hl 1 rfl) ?_
  refine va_get (D := D) (ci := 5) (v := .ref (ob 1)) (C := R_Ol) (T := F_Ol) (N := 5) hx hb hts (fun w h => List.mem_cons_of_mem _ (in_Ol w h)) hown hK hP 5 rfl rfl 0 (by decide) (hts _ (List.mem_cons_of_mem _ wd_233)) (fun _ h9 => h9) rfl d_Ol_drawLine_12 ?_
  refine lv_ldc (v := 1000000001) hx hb hown (hts _ (List.mem_cons_of_mem _ wd_347)) d_Ol_drawLine_15 ?_
  refine lv_iconst (v := 0) hx hb d_Ol_drawLine_17 (by decide) ?_
  obtain ⟨q_2, hq_2, hf⟩ := bd_some hf
  refine kc_i (va_runV (As := [.int 1000000001, .int 0]) (rest := []) ⟨hx, hb, hml, hown, hts⟩ (c_Pt_greatestBelow l D cA cP ob ad 1000000001 0  q_1.2 hq_2 H.size) ⟨callB_of 2 hts (gd_Pt_greatestBelow) rfl rfl rfl (hts _ (List.mem_cons_of_mem _ wd_65)) (hts _ (List.mem_cons_of_mem _ wd_348)) dd_Pt_greatestBelow ⟨Nat.le_of_ble_eq_true rfl, Nat.le_of_ble_eq_true rfl⟩, (hts _ (List.mem_cons_of_mem _ wd_349)), (hts _ (List.mem_cons_of_mem _ wd_350))⟩ (kpV hK hP hD hN hZ hS 1 1 rfl rfl) rfl rfl hl.1 rfl (lv_room (Nat.le_of_ble_eq_true rfl)) d_Ol_drawLine_18 ⟨Nat.le_of_ble_eq_true rfl, Nat.le_of_ble_eq_true rfl⟩) hP hD hS hA (fun r w H locs hw hP hD hS => ?_)
  obtain ⟨rfl, rfl⟩ := hw
  refine lv_istore_n (lv' := [(2, .int q_2.1), (1, .int q_1.1), (0, .ref (ob 5))]) hx hb d_Ol_drawLine_21 rfl hl (by decide) rfl (fun ls hl => ?_)
  refine lv_iload_n hx hb d_Ol_drawLine_22 rfl (lv_at hl 1 rfl) ?_
  refine lv_iconst (v := (-1)) hx hb d_Ol_drawLine_23 (by decide) ?_
  refine lv_icmp_eq (tgt := 32) hx hb d_Ol_drawLine_24 (by decide) (fun c_3 => ?_) (fun c_3 => ?_)
  · rw [if_pos c_3] at hf
    exact w_Ol_drawLine_32 C0 hret    q_1.1 q_2.1 q_2.2 H locs ls hP hD hS (lv_sub hl [2, 1, 0] rfl) hf
  · rw [if_neg c_3] at hf
    refine lv_aload_n hx hb d_Ol_drawLine_27 rfl (lv_at hl 2 rfl) ?_
    refine lv_iload_n hx hb d_Ol_drawLine_28 rfl (lv_at hl 1 rfl) ?_
    obtain ⟨q_4, hq_4, hf⟩ := bd_some hf
    refine kc_v (va_runV (As := [.int q_1.1]) (rest := []) ⟨hx, hb, hml, hown, hts⟩ (c_Ol_put l D cA cP ob ad q_1.1  q_2.2 hq_4 H.size) ⟨callB_of 1 hts (gd_Ol_put) rfl rfl rfl (hts _ (List.mem_cons_of_mem _ wd_71)) (hts _ (List.mem_cons_of_mem _ wd_356)) dd_Ol_put ⟨Nat.le_of_ble_eq_true rfl, Nat.le_of_ble_eq_true rfl⟩, (hts _ (List.mem_cons_of_mem _ wd_358)), (hts _ (List.mem_cons_of_mem _ wd_6))⟩ (kpV hK hP hD hN hZ hS 5 5 rfl rfl) rfl rfl hl.1 rfl (lv_room (Nat.le_of_ble_eq_true rfl)) d_Ol_drawLine_29 ⟨Nat.le_of_ble_eq_true rfl, Nat.le_of_ble_eq_true rfl⟩) hP hD hS hA (fun w H locs hw hP hD hS => ?_)
    obtain rfl := hw
    exact w_Ol_drawLine_32 C0 hret    q_1.1 q_2.1 q_4 H locs ls hP hD hS (lv_sub hl [2, 1, 0] rfl) hf
def f_Ol_drawLine  (S : St) : Option St := f_Ol_drawLine_0   S
theorem c_Ol_drawLine (l : Launch) (D : va_G) (cA cP : ClassId) (ob : Nat → Nat) (ad : Nat → Nat → Nat)   (S : St) {res : St} (hf : f_Ol_drawLine  S = some res) : CTv l y_Ol_drawLine w_Ol_drawLine rm_Ol_drawLine 0 0 D clC (TY cA cP) [.ref (ob 5)] (cw cA cP ob ad S) (fun w => w = cw cA cP ob ad res) :=
  mk_v (cc := b_Ol_drawLine) (maxL := 3) (own := R_Ol) (by decide) rfl rfl (Nat.le_of_ble_eq_true rfl) (fun p e s m below meth c A Q C0 hret ls hl hP hD hS => w_Ol_drawLine_0 C0 hret    S _ _ ls hP hD hS (lv_sub hl [0] rfl) hf)
def f_Nt_wayToGhost_15   : Nat → Int32 → Int32 → St → Option (Int32 × St)
  | 0 => fun _ _ _ => none
  | n + 1 => fun x2 x3 S => (if (gi S 4) < x3 then
      some (x2, S)
      else
      bd (f_Nt_endOf x2 S) (fun q_2 => (if q_2.1 = (gi q_2.2 4) then
        some (x2, q_2.2)
        else
        bd (f_Nt_leftOf x2 q_2.2) (fun q_4 => bn (x3 + 1) (fun x3_5 => f_Nt_wayToGhost_15  n q_4.1 x3_5 q_4.2)))))
set_option maxHeartbeats 4000000 in
set_option maxRecDepth 100000 in
theorem w_Nt_wayToGhost_15 (C0 : CX p s m args c b_Nt_wayToGhost 4 R_Nt w_Nt_wayToGhost D clC cA cP A) {res : (Int32 × St)} (hret : RTi p l e rm_Nt_wayToGhost s m args below meth c Q D clC A b_Nt_wayToGhost 0 0 (fun r w => r = res.1 ∧ w = cw cA cP ob ad res.2))    : ∀ (n : Nat) (x2 : Int32) (x3 : Int32) (S : St) (H : Heap) (locs : List Loc) (ls : Array Slot), va_P D clC (cw cA cP ob ad S) H → va_D A (cw cA cP ob ad S) → va_S A s.heap H locs → lv_has ls 4 [(0, .ref (ob 3)), (2, .int x2), (3, .int x3)] → f_Nt_wayToGhost_15   n x2 x3 S = some res → W p l e rm_Nt_wayToGhost s m args below meth c H locs 0 0 Q (F0 m 15 ls []) := by
  obtain ⟨hx, hb, hml, hown, hts, hK, hA, hN, hZ⟩ := id C0
  intro n
  induction n with
  | zero =>
    intro x2 x3 S H locs ls hP hD hS hl hf
    cases hf
  | succ n ih =>
    intro x2 x3 S H locs ls hP hD hS hl hf
    rw [f_Nt_wayToGhost_15] at hf
    try dsimp only at hf
    refine lv_iload_n hx hb d_Nt_wayToGhost_15 rfl (lv_at hl 2 rfl) ?_
    refine lv_aload_n hx hb d_Nt_wayToGhost_16 rfl (lv_at hl 0 rfl) ?_
    refine va_get (D := D) (ci := 3) (v := .int (gi S 4)) (C := R_Nt) (T := F_Nt) (N := 13) hx hb hts (fun w h => List.mem_cons_of_mem _ (in_Nt w h)) hown hK hP 3 rfl rfl 1 (by decide) (hts _ (List.mem_cons_of_mem _ wd_159)) (fun _ h9 => h9) rfl d_Nt_wayToGhost_17 ?_
    refine lv_icmp_gt (tgt := 47) hx hb d_Nt_wayToGhost_20 (by decide) (fun c_1 => ?_) (fun c_1 => ?_)
    · rw [if_pos c_1] at hf
      refine lv_iload_n hx hb d_Nt_wayToGhost_47 rfl (lv_at hl 1 rfl) ?_
      cases hf
      exact hret _ _ _ _ _ _ ⟨rfl, rfl⟩ hP hD hS d_Nt_wayToGhost_48
    · rw [if_neg c_1] at hf
      refine lv_aload_n hx hb d_Nt_wayToGhost_23 rfl (lv_at hl 0 rfl) ?_
      refine lv_iload_n hx hb d_Nt_wayToGhost_24 rfl (lv_at hl 1 rfl) ?_
      obtain ⟨q_2, hq_2, hf⟩ := bd_some hf
      refine kc_i (va_runV (As := [.int x2]) (rest := []) ⟨hx, hb, hml, hown, hts⟩ (c_Nt_endOf l D cA cP ob ad x2  S hq_2 H.size) ⟨callB_of 1 hts (gd_Nt_endOf) rfl rfl rfl (hts _ (List.mem_cons_of_mem _ wd_69)) (hts _ (List.mem_cons_of_mem _ wd_377)) dd_Nt_endOf ⟨Nat.le_of_ble_eq_true rfl, Nat.le_of_ble_eq_true rfl⟩, (hts _ (List.mem_cons_of_mem _ wd_378)), (hts _ (List.mem_cons_of_mem _ wd_379))⟩ (kpV hK hP hD hN hZ hS 3 3 rfl rfl) rfl rfl hl.1 rfl (lv_room (Nat.le_of_ble_eq_true rfl)) d_Nt_wayToGhost_25 ⟨Nat.le_of_ble_eq_true rfl, Nat.le_of_ble_eq_true rfl⟩) hP hD hS hA (fun r w H locs hw hP hD hS => ?_)
      obtain ⟨rfl, rfl⟩ := hw
      refine lv_aload_n hx hb d_Nt_wayToGhost_28 rfl (lv_at hl 0 rfl) ?_
      refine va_get (D := D) (ci := 3) (v := .int (gi q_2.2 4)) (C := R_Nt) (T := F_Nt) (N := 13) hx hb hts (fun w h => List.mem_cons_of_mem _ (in_Nt w h)) hown hK hP 3 rfl rfl 1 (by decide) (hts _ (List.mem_cons_of_mem _ wd_159)) (fun _ h9 => h9) rfl d_Nt_wayToGhost_29 ?_
      refine lv_icmp_eq (tgt := 47) hx hb d_Nt_wayToGhost_32 (by decide) (fun c_3 => ?_) (fun c_3 => ?_)
      · rw [if_pos c_3] at hf
        refine lv_iload_n hx hb d_Nt_wayToGhost_47 rfl (lv_at hl 1 rfl) ?_
        cases hf
        exact hret _ _ _ _ _ _ ⟨rfl, rfl⟩ hP hD hS d_Nt_wayToGhost_48
      · rw [if_neg c_3] at hf
        refine lv_aload_n hx hb d_Nt_wayToGhost_35 rfl (lv_at hl 0 rfl) ?_
        refine lv_iload_n hx hb d_Nt_wayToGhost_36 rfl (lv_at hl 1 rfl) ?_
        obtain ⟨q_4, hq_4, hf⟩ := bd_some hf
        refine kc_i (va_runV (As := [.int x2]) (rest := []) ⟨hx, hb, hml, hown, hts⟩ (c_Nt_leftOf l D cA cP ob ad x2  q_2.2 hq_4 H.size) ⟨callB_of 1 hts (gd_Nt_leftOf) rfl rfl rfl (hts _ (List.mem_cons_of_mem _ wd_69)) (hts _ (List.mem_cons_of_mem _ wd_384)) dd_Nt_leftOf ⟨Nat.le_of_ble_eq_true rfl, Nat.le_of_ble_eq_true rfl⟩, (hts _ (List.mem_cons_of_mem _ wd_386)), (hts _ (List.mem_cons_of_mem _ wd_9))⟩ (kpV hK hP hD hN hZ hS 3 3 rfl rfl) rfl rfl hl.1 rfl (lv_room (Nat.le_of_ble_eq_true rfl)) d_Nt_wayToGhost_37 ⟨Nat.le_of_ble_eq_true rfl, Nat.le_of_ble_eq_true rfl⟩) hP hD hS hA (fun r w H locs hw hP hD hS => ?_)
        obtain ⟨rfl, rfl⟩ := hw
        refine lv_istore_n (lv' := [(2, .int q_4.1), (0, .ref (ob 3)), (3, .int x3)]) hx hb d_Nt_wayToGhost_40 rfl hl (by decide) rfl (fun ls hl => ?_)
        obtain ⟨x3_5, ex3_5, hf⟩ := bn_some hf
        refine lv_iinc (v := x3_5) (lv' := [(3, .int x3_5), (2, .int q_4.1), (0, .ref (ob 3))]) hx hb d_Nt_wayToGhost_41 hl (k := 2) rfl (by rw [ex3_5]; rfl) (by decide) rfl (fun ls hl => ?_)
        refine lv_goto (tgt := 15) hx hb d_Nt_wayToGhost_44 (by decide) ?_
        exact ih q_4.1 x3_5 q_4.2 H locs ls hP hD hS (lv_sub hl [2, 1, 0] rfl) hf
def f_Nt_wayToGhost_0   (x1 : Int32) (S : St) : Option (Int32 × St) :=
  bd (f_Nt_placeOf x1 S) (fun q_1 => bd (f_Rw_get 10 q_1.1 q_1.2) (fun q_2 => f_Nt_wayToGhost_15   FU q_2.1 0 q_2.2))
set_option maxHeartbeats 4000000 in
set_option maxRecDepth 100000 in
theorem w_Nt_wayToGhost_0 (C0 : CX p s m args c b_Nt_wayToGhost 4 R_Nt w_Nt_wayToGhost D clC cA cP A) {res : (Int32 × St)} (hret : RTi p l e rm_Nt_wayToGhost s m args below meth c Q D clC A b_Nt_wayToGhost 0 0 (fun r w => r = res.1 ∧ w = cw cA cP ob ad res.2))    : ∀ (x1 : Int32) (S : St) (H : Heap) (locs : List Loc) (ls : Array Slot), va_P D clC (cw cA cP ob ad S) H → va_D A (cw cA cP ob ad S) → va_S A s.heap H locs → lv_has ls 4 [(0, .ref (ob 3)), (1, .int x1)] → f_Nt_wayToGhost_0   x1 S = some res → W p l e rm_Nt_wayToGhost s m args below meth c H locs 0 0 Q (F0 m 0 ls []) := by
  obtain ⟨hx, hb, hml, hown, hts, hK, hA, hN, hZ⟩ := id C0
  intro x1 S H locs ls hP hD hS hl hf
  rw [f_Nt_wayToGhost_0] at hf
  refine lv_aload_n hx hb d_Nt_wayToGhost_0 rfl (lv_at hl 0 rfl) ?_
  refine va_get (D := D) (ci := 3) (v := .ref (ob 10)) (C := R_Nt) (T := F_Nt) (N := 13) hx hb hts (fun w h => List.mem_cons_of_mem _ (in_Nt w h)) hown hK hP 3 rfl rfl 4 (by decide) (hts _ (List.mem_cons_of_mem _ wd_162)) (fun _ h9 => h9) rfl d_Nt_wayToGhost_1 ?_
  refine lv_aload_n hx hb d_Nt_wayToGhost_4 rfl (lv_at hl 0 rfl) ?_
  refine lv_iload_n hx hb d_Nt_wayToGhost_5 rfl (lv_at hl 1 rfl) ?_
  obtain ⟨q_1, hq_1, hf⟩ := bd_some hf
  refine kc_i (va_runV (As := [.int x1]) (rest := [.ref (ob 10)]) ⟨hx, hb, hml, hown, hts⟩ (c_Nt_placeOf l D cA cP ob ad x1  S hq_1 H.size) ⟨callB_of 1 hts (gd_Nt_placeOf) rfl rfl rfl (hts _ (List.mem_cons_of_mem _ wd_69)) (hts _ (List.mem_cons_of_mem _ wd_372)) dd_Nt_placeOf ⟨Nat.le_of_ble_eq_true rfl, Nat.le_of_ble_eq_true rfl⟩, (hts _ (List.mem_cons_of_mem _ wd_374)), (hts _ (List.mem_cons_of_mem _ wd_8))⟩ (kpV hK hP hD hN hZ hS 3 3 rfl rfl) rfl rfl hl.1 rfl (lv_room (Nat.le_of_ble_eq_true rfl)) d_Nt_wayToGhost_6 ⟨Nat.le_of_ble_eq_true rfl, Nat.le_of_ble_eq_true rfl⟩) hP hD hS hA (fun r w H locs hw hP hD hS => ?_)
  obtain ⟨rfl, rfl⟩ := hw
  obtain ⟨q_2, hq_2, hf⟩ := bd_some hf
  refine kc_i (va_runV (As := [.int q_1.1]) (rest := []) ⟨hx, hb, hml, hown, hts⟩ (c_Rw_get l D cA cP ob ad 10 q_1.1 (by decide) q_1.2 hq_2 H.size) ⟨callB_of 1 hts (gd_Rw_get) rfl rfl rfl (hts _ (List.mem_cons_of_mem _ wd_67)) (hts _ (List.mem_cons_of_mem _ wd_376)) dd_Rw_get ⟨Nat.le_of_ble_eq_true rfl, Nat.le_of_ble_eq_true rfl⟩, (hts _ (List.mem_cons_of_mem _ wd_340)), (hts _ (List.mem_cons_of_mem _ wd_341))⟩ (kpV hK hP hD hN hZ hS 6 10 rfl rfl) rfl rfl hl.1 rfl (lv_room (Nat.le_of_ble_eq_true rfl)) d_Nt_wayToGhost_9 ⟨Nat.le_of_ble_eq_true rfl, Nat.le_of_ble_eq_true rfl⟩) hP hD hS hA (fun r w H locs hw hP hD hS => ?_)
  obtain ⟨rfl, rfl⟩ := hw
  refine lv_istore_n (lv' := [(2, .int q_2.1), (0, .ref (ob 3)), (1, .int x1)]) hx hb d_Nt_wayToGhost_12 rfl hl (by decide) rfl (fun ls hl => ?_)
  refine lv_iconst (v := 0) hx hb d_Nt_wayToGhost_13 (by decide) ?_
  refine lv_istore_n (lv' := [(3, .int 0), (2, .int q_2.1), (0, .ref (ob 3)), (1, .int x1)]) hx hb d_Nt_wayToGhost_14 rfl hl (by decide) rfl (fun ls hl => ?_)
  exact w_Nt_wayToGhost_15 C0 hret    FU q_2.1 0 q_2.2 H locs ls hP hD hS (lv_sub hl [2, 1, 0] rfl) hf
def f_Nt_wayToGhost (x1 : Int32) (S : St) : Option (Int32 × St) := f_Nt_wayToGhost_0  x1 S
theorem c_Nt_wayToGhost (l : Launch) (D : va_G) (cA cP : ClassId) (ob : Nat → Nat) (ad : Nat → Nat → Nat) (x1 : Int32)  (S : St) {res : (Int32 × St)} (hf : f_Nt_wayToGhost x1 S = some res) : CTi l y_Nt_wayToGhost w_Nt_wayToGhost rm_Nt_wayToGhost 0 0 D clC (TY cA cP) [.ref (ob 3), .int x1] (cw cA cP ob ad S) (fun r w => r = res.1 ∧ w = cw cA cP ob ad res.2) :=
  mk_i (cc := b_Nt_wayToGhost) (maxL := 4) (own := R_Nt) (by decide) rfl rfl (Nat.le_of_ble_eq_true rfl) (fun p e s m below meth c A Q C0 hret ls hl hP hD hS => w_Nt_wayToGhost_0 C0 hret   x1 S _ _ ls hP hD hS (lv_sub hl [0, 1] rfl) hf)
def f_Nt_nextWayToGhost_0   (x1 : Int32) (S : St) : Option (Int32 × St) :=
  bd (f_Nt_ahead x1 1 S) (fun q_1 => bd (f_Rw_get 9 q_1.1 q_1.2) (fun q_2 => some (q_2.1, q_2.2)))
set_option maxHeartbeats 4000000 in
set_option maxRecDepth 100000 in
theorem w_Nt_nextWayToGhost_0 (C0 : CX p s m args c b_Nt_nextWayToGhost 2 R_Nt w_Nt_nextWayToGhost D clC cA cP A) {res : (Int32 × St)} (hret : RTi p l e rm_Nt_nextWayToGhost s m args below meth c Q D clC A b_Nt_nextWayToGhost 0 0 (fun r w => r = res.1 ∧ w = cw cA cP ob ad res.2))    : ∀ (x1 : Int32) (S : St) (H : Heap) (locs : List Loc) (ls : Array Slot), va_P D clC (cw cA cP ob ad S) H → va_D A (cw cA cP ob ad S) → va_S A s.heap H locs → lv_has ls 2 [(0, .ref (ob 3)), (1, .int x1)] → f_Nt_nextWayToGhost_0   x1 S = some res → W p l e rm_Nt_nextWayToGhost s m args below meth c H locs 0 0 Q (F0 m 0 ls []) := by
  obtain ⟨hx, hb, hml, hown, hts, hK, hA, hN, hZ⟩ := id C0
  intro x1 S H locs ls hP hD hS hl hf
  rw [f_Nt_nextWayToGhost_0] at hf
  refine lv_aload_n hx hb d_Nt_nextWayToGhost_0 rfl (lv_at hl 0 rfl) ?_
  refine va_get (D := D) (ci := 3) (v := .ref (ob 9)) (C := R_Nt) (T := F_Nt) (N := 13) hx hb hts (fun w h => List.mem_cons_of_mem _ (in_Nt w h)) hown hK hP 3 rfl rfl 3 (by decide) (hts _ (List.mem_cons_of_mem _ wd_161)) (fun _ h9 => h9) rfl d_Nt_nextWayToGhost_1 ?_
  refine lv_iload_n hx hb d_Nt_nextWayToGhost_4 rfl (lv_at hl 1 rfl) ?_
  refine lv_iconst (v := 1) hx hb d_Nt_nextWayToGhost_5 (by decide) ?_
  obtain ⟨q_1, hq_1, hf⟩ := bd_some hf
  refine kc_i (va_runS (As := [.int x1, .int 1]) (rest := [.ref (ob 9)]) ⟨hx, hb, hml, hown, hts⟩ (c_Nt_ahead l D cA cP ob ad x1 1  S hq_1 H.size) ⟨callB_of 2 hts (gd_Nt_ahead) rfl rfl rfl (hts _ (List.mem_cons_of_mem _ wd_69)) (hts _ (List.mem_cons_of_mem _ wd_381)) dd_Nt_ahead ⟨Nat.le_of_ble_eq_true rfl, Nat.le_of_ble_eq_true rfl⟩, (hts _ (List.mem_cons_of_mem _ wd_382))⟩ (kpS hK hP hD hN hZ hS) rfl rfl hl.1 rfl (lv_room (Nat.le_of_ble_eq_true rfl)) d_Nt_nextWayToGhost_6 ⟨Nat.le_of_ble_eq_true rfl, Nat.le_of_ble_eq_true rfl⟩) hP hD hS hA (fun r w H locs hw hP hD hS => ?_)
  obtain ⟨rfl, rfl⟩ := hw
  obtain ⟨q_2, hq_2, hf⟩ := bd_some hf
  refine kc_i (va_runV (As := [.int q_1.1]) (rest := []) ⟨hx, hb, hml, hown, hts⟩ (c_Rw_get l D cA cP ob ad 9 q_1.1 (by decide) q_1.2 hq_2 H.size) ⟨callB_of 1 hts (gd_Rw_get) rfl rfl rfl (hts _ (List.mem_cons_of_mem _ wd_67)) (hts _ (List.mem_cons_of_mem _ wd_376)) dd_Rw_get ⟨Nat.le_of_ble_eq_true rfl, Nat.le_of_ble_eq_true rfl⟩, (hts _ (List.mem_cons_of_mem _ wd_340)), (hts _ (List.mem_cons_of_mem _ wd_341))⟩ (kpV hK hP hD hN hZ hS 6 9 rfl rfl) rfl rfl hl.1 rfl (lv_room (Nat.le_of_ble_eq_true rfl)) d_Nt_nextWayToGhost_9 ⟨Nat.le_of_ble_eq_true rfl, Nat.le_of_ble_eq_true rfl⟩) hP hD hS hA (fun r w H locs hw hP hD hS => ?_)
  obtain ⟨rfl, rfl⟩ := hw
  cases hf
  exact hret _ _ _ _ _ _ ⟨rfl, rfl⟩ hP hD hS d_Nt_nextWayToGhost_12
def f_Nt_nextWayToGhost (x1 : Int32) (S : St) : Option (Int32 × St) := f_Nt_nextWayToGhost_0  x1 S
theorem c_Nt_nextWayToGhost (l : Launch) (D : va_G) (cA cP : ClassId) (ob : Nat → Nat) (ad : Nat → Nat → Nat) (x1 : Int32)  (S : St) {res : (Int32 × St)} (hf : f_Nt_nextWayToGhost x1 S = some res) : CTi l y_Nt_nextWayToGhost w_Nt_nextWayToGhost rm_Nt_nextWayToGhost 0 0 D clC (TY cA cP) [.ref (ob 3), .int x1] (cw cA cP ob ad S) (fun r w => r = res.1 ∧ w = cw cA cP ob ad res.2) :=
  mk_i (cc := b_Nt_nextWayToGhost) (maxL := 2) (own := R_Nt) (by decide) rfl rfl (Nat.le_of_ble_eq_true rfl) (fun p e s m below meth c A Q C0 hret ls hl hP hD hS => w_Nt_nextWayToGhost_0 C0 hret   x1 S _ _ ls hP hD hS (lv_sub hl [0, 1] rfl) hf)
def f_Ol_isCorner_0   (x1 : Int32) (x2 : Int32) (x3 : Int32) (S : St) : Option (Int32 × St) :=
  bd (f_Pt_x x3 S) (fun q_1 => bd (f_Pt_y x3 q_1.2) (fun q_2 => bd (f_Pt_turn x1 x2 q_1.1 q_2.1 q_2.2) (fun q_3 => (if (lg_cmp q_3.1 0) = 0 then
    some (0, q_3.2)
    else
    some (1, q_3.2)))))
set_option maxHeartbeats 4000000 in
set_option maxRecDepth 100000 in
theorem w_Ol_isCorner_0 (C0 : CX p s m args c b_Ol_isCorner 4 R_Ol w_Ol_isCorner D clC cA cP A) {res : (Int32 × St)} (hret : RTz p l e rm_Ol_isCorner s m args below meth c Q D clC A b_Ol_isCorner 0 0 (fun r w => r = res.1 ∧ w = cw cA cP ob ad res.2))    : ∀ (x1 : Int32) (x2 : Int32) (x3 : Int32) (S : St) (H : Heap) (locs : List Loc) (ls : Array Slot), va_P D clC (cw cA cP ob ad S) H → va_D A (cw cA cP ob ad S) → va_S A s.heap H locs → lv_has ls 4 [(0, .ref (ob 5)), (1, .int x1), (2, .int x2), (3, .int x3)] → f_Ol_isCorner_0   x1 x2 x3 S = some res → W p l e rm_Ol_isCorner s m args below meth c H locs 0 0 Q (F0 m 0 ls []) := by
  obtain ⟨hx, hb, hml, hown, hts, hK, hA, hN, hZ⟩ := id C0
  intro x1 x2 x3 S H locs ls hP hD hS hl hf
  rw [f_Ol_isCorner_0] at hf
  refine lv_aload_n hx hb d_Ol_isCorner_0 rfl (lv_at hl 0 rfl) ?_
  refine va_get (D := D) (ci := 5) (v := .ref (ob 1)) (C := R_Ol) (T := F_Ol) (N := 5) hx hb hts (fun w h => List.mem_cons_of_mem _ (in_Ol w h)) hown hK hP 5 rfl rfl 0 (by decide) (hts _ (List.mem_cons_of_mem _ wd_233)) (fun _ h9 => h9) rfl d_Ol_isCorner_1 ?_
  refine lv_iload_n hx hb d_Ol_isCorner_4 rfl (lv_at hl 1 rfl) ?_
  refine lv_iload_n hx hb d_Ol_isCorner_5 rfl (lv_at hl 2 rfl) ?_
  refine lv_aload_n hx hb d_Ol_isCorner_6 rfl (lv_at hl 0 rfl) ?_
  refine va_get (D := D) (ci := 5) (v := .ref (ob 1)) (C := R_Ol) (T := F_Ol) (N := 5) hx hb hts (fun w h => List.mem_cons_of_mem _ (in_Ol w h)) hown hK hP 5 rfl rfl 0 (by decide) (hts _ (List.mem_cons_of_mem _ wd_233)) (fun _ h9 => h9) rfl d_Ol_isCorner_7 ?_
  refine lv_iload_n hx hb d_Ol_isCorner_10 rfl (lv_at hl 3 rfl) ?_
  obtain ⟨q_1, hq_1, hf⟩ := bd_some hf
  refine kc_i (va_runV (As := [.int x3]) (rest := [.int x2, .int x1, .ref (ob 1)]) ⟨hx, hb, hml, hown, hts⟩ (c_Pt_x l D cA cP ob ad x3  S hq_1 H.size) ⟨callB_of 1 hts (gd_Pt_x) rfl rfl rfl (hts _ (List.mem_cons_of_mem _ wd_65)) (hts _ (List.mem_cons_of_mem _ wd_400)) dd_Pt_x ⟨Nat.le_of_ble_eq_true rfl, Nat.le_of_ble_eq_true rfl⟩, (hts _ (List.mem_cons_of_mem _ wd_401)), (hts _ (List.mem_cons_of_mem _ wd_402))⟩ (kpV hK hP hD hN hZ hS 1 1 rfl rfl) rfl rfl hl.1 rfl (lv_room (Nat.le_of_ble_eq_true rfl)) d_Ol_isCorner_11 ⟨Nat.le_of_ble_eq_true rfl, Nat.le_of_ble_eq_true rfl⟩) hP hD hS hA (fun r w H locs hw hP hD hS => ?_)
  obtain ⟨rfl, rfl⟩ := hw
  refine lv_aload_n hx hb d_Ol_isCorner_14 rfl (lv_at hl 0 rfl) ?_
  refine va_get (D := D) (ci := 5) (v := .ref (ob 1)) (C := R_Ol) (T := F_Ol) (N := 5) hx hb hts (fun w h => List.mem_cons_of_mem _ (in_Ol w h)) hown hK hP 5 rfl rfl 0 (by decide) (hts _ (List.mem_cons_of_mem _ wd_233)) (fun _ h9 => h9) rfl d_Ol_isCorner_15 ?_
  refine lv_iload_n hx hb d_Ol_isCorner_18 rfl (lv_at hl 3 rfl) ?_
  obtain ⟨q_2, hq_2, hf⟩ := bd_some hf
  refine kc_i (va_runV (As := [.int x3]) (rest := [.int q_1.1, .int x2, .int x1, .ref (ob 1)]) ⟨hx, hb, hml, hown, hts⟩ (c_Pt_y l D cA cP ob ad x3  q_1.2 hq_2 H.size) ⟨callB_of 1 hts (gd_Pt_y) rfl rfl rfl (hts _ (List.mem_cons_of_mem _ wd_65)) (hts _ (List.mem_cons_of_mem _ wd_404)) dd_Pt_y ⟨Nat.le_of_ble_eq_true rfl, Nat.le_of_ble_eq_true rfl⟩, (hts _ (List.mem_cons_of_mem _ wd_405)), (hts _ (List.mem_cons_of_mem _ wd_406))⟩ (kpV hK hP hD hN hZ hS 1 1 rfl rfl) rfl rfl hl.1 rfl (lv_room (Nat.le_of_ble_eq_true rfl)) d_Ol_isCorner_19 ⟨Nat.le_of_ble_eq_true rfl, Nat.le_of_ble_eq_true rfl⟩) hP hD hS hA (fun r w H locs hw hP hD hS => ?_)
  obtain ⟨rfl, rfl⟩ := hw
  obtain ⟨q_3, hq_3, hf⟩ := bd_some hf
  refine kc_l (va_runV (As := [.int x1, .int x2, .int q_1.1, .int q_2.1]) (rest := []) ⟨hx, hb, hml, hown, hts⟩ (c_Pt_turn l D cA cP ob ad x1 x2 q_1.1 q_2.1  q_2.2 hq_3 H.size) ⟨callB_of 4 hts (gd_Pt_turn) rfl rfl rfl (hts _ (List.mem_cons_of_mem _ wd_65)) (hts _ (List.mem_cons_of_mem _ wd_408)) dd_Pt_turn ⟨Nat.le_of_ble_eq_true rfl, Nat.le_of_ble_eq_true rfl⟩, (hts _ (List.mem_cons_of_mem _ wd_409)), (hts _ (List.mem_cons_of_mem _ wd_410))⟩ (kpV hK hP hD hN hZ hS 1 1 rfl rfl) rfl rfl hl.1 rfl (lv_room (Nat.le_of_ble_eq_true rfl)) d_Ol_isCorner_22 ⟨Nat.le_of_ble_eq_true rfl, Nat.le_of_ble_eq_true rfl⟩) hP hD hS hA (fun r w H locs hw hP hD hS => ?_)
  obtain ⟨rfl, rfl⟩ := hw
  refine lv_lconst (v := 0) hx hb d_Ol_isCorner_25 (by decide) ?_
  refine W.lcmp hx hb d_Ol_isCorner_26 ?_
  refine lv_if_eq (tgt := 34) hx hb d_Ol_isCorner_27 (by decide) (fun c_4 => ?_) (fun c_4 => ?_)
  · rw [if_pos c_4] at hf
    refine lv_iconst (v := 0) hx hb d_Ol_isCorner_34 (by decide) ?_
    cases hf
    exact hret _ _ _ _ _ _ ⟨rfl, rfl⟩ rfl hP hD hS d_Ol_isCorner_35
  · rw [if_neg c_4] at hf
    refine lv_iconst (v := 1) hx hb d_Ol_isCorner_30 (by decide) ?_
    refine lv_goto (tgt := 35) hx hb d_Ol_isCorner_31 (by decide) ?_
    cases hf
    exact hret _ _ _ _ _ _ ⟨rfl, rfl⟩ rfl hP hD hS d_Ol_isCorner_35
def f_Ol_isCorner (x1 : Int32) (x2 : Int32) (x3 : Int32) (S : St) : Option (Int32 × St) := f_Ol_isCorner_0  x1 x2 x3 S
theorem c_Ol_isCorner (l : Launch) (D : va_G) (cA cP : ClassId) (ob : Nat → Nat) (ad : Nat → Nat → Nat) (x1 : Int32) (x2 : Int32) (x3 : Int32)  (S : St) {res : (Int32 × St)} (hf : f_Ol_isCorner x1 x2 x3 S = some res) : CTi l y_Ol_isCorner w_Ol_isCorner rm_Ol_isCorner 0 0 D clC (TY cA cP) [.ref (ob 5), .int x1, .int x2, .int x3] (cw cA cP ob ad S) (fun r w => r = res.1 ∧ w = cw cA cP ob ad res.2) :=
  mk_z (cc := b_Ol_isCorner) (maxL := 4) (own := R_Ol) (by decide) rfl rfl (Nat.le_of_ble_eq_true rfl) (fun p e s m below meth c A Q C0 hret ls hl hP hD hS => w_Ol_isCorner_0 C0 hret   x1 x2 x3 S _ _ ls hP hD hS (lv_sub hl [0, 1, 2, 3] rfl) hf)
def f_Ol_drawRound_87  (k25 : Int32 → Int32 → Int32 → Int32 → St → Option St) (x1 : Int32) (x4 : Int32) (x5 : Int32) (x6 : Int32) (S : St) : Option St :=
  (if x5 = x1 then
    some S
    else
    bn (x4 + 1) (fun x4_2 => k25 x1 x5 x6 x4_2 S))
set_option maxHeartbeats 4000000 in
set_option maxRecDepth 100000 in
theorem w_Ol_drawRound_87 (C0 : CX p s m args c b_Ol_drawRound 7 R_Ol w_Ol_drawRound D clC cA cP A) {res : St} (hret : RTv p l e rm_Ol_drawRound s m args below meth c Q D clC A b_Ol_drawRound 0 0 (fun w => w = cw cA cP ob ad res))   (k25 : Int32 → Int32 → Int32 → Int32 → St → Option St) (hk25 : ∀ (x1 : Int32) (x2 : Int32) (x3 : Int32) (x4 : Int32) (S : St) (H : Heap) (locs : List Loc) (ls : Array Slot), va_P D clC (cw cA cP ob ad S) H → va_D A (cw cA cP ob ad S) → va_S A s.heap H locs → lv_has ls 7 [(0, .ref (ob 5)), (1, .int x1), (2, .int x2), (3, .int x3), (4, .int x4)] → k25 x1 x2 x3 x4 S = some res → W p l e rm_Ol_drawRound s m args below meth c H locs 0 0 Q (F0 m 25 ls [])) : ∀ (x1 : Int32) (x4 : Int32) (x5 : Int32) (x6 : Int32) (S : St) (H : Heap) (locs : List Loc) (ls : Array Slot), va_P D clC (cw cA cP ob ad S) H → va_D A (cw cA cP ob ad S) → va_S A s.heap H locs → lv_has ls 7 [(0, .ref (ob 5)), (1, .int x1), (4, .int x4), (5, .int x5), (6, .int x6)] → f_Ol_drawRound_87  k25 x1 x4 x5 x6 S = some res → W p l e rm_Ol_drawRound s m args below meth c H locs 0 0 Q (F0 m 87 ls []) := by
  obtain ⟨hx, hb, hml, hown, hts, hK, hA, hN, hZ⟩ := id C0
  intro x1 x4 x5 x6 S H locs ls hP hD hS hl hf
  rw [f_Ol_drawRound_87] at hf
  refine lv_iload hx hb d_Ol_drawRound_87 (lv_at hl 4 rfl) ?_
  refine lv_istore_n (lv' := [(3, .int x6), (0, .ref (ob 5)), (1, .int x1), (4, .int x4), (5, .int x5), (6, .int x6)]) hx hb d_Ol_drawRound_89 rfl hl (by decide) rfl (fun ls hl => ?_)
  refine lv_iload hx hb d_Ol_drawRound_90 (lv_at hl 4 rfl) ?_
  refine lv_istore_n (lv' := [(2, .int x5), (3, .int x6), (0, .ref (ob 5)), (1, .int x1), (4, .int x4), (5, .int x5), (6, .int x6)]) hx hb d_Ol_drawRound_92 rfl hl (by decide) rfl (fun ls hl => ?_)
  refine lv_iload_n hx hb d_Ol_drawRound_93 rfl (lv_at hl 0 rfl) ?_
  refine lv_iload_n hx hb d_Ol_drawRound_94 rfl (lv_at hl 3 rfl) ?_
  refine lv_icmp_ne (tgt := 101) hx hb d_Ol_drawRound_95 (by decide) (fun c_1 => ?_) (fun c_1 => ?_)
  · rw [if_neg c_1] at hf
    obtain ⟨x4_2, ex4_2, hf⟩ := bn_some hf
    refine lv_iinc (v := x4_2) (lv' := [(4, .int x4_2), (2, .int x5), (3, .int x6), (0, .ref (ob 5)), (1, .int x1), (5, .int x5), (6, .int x6)]) hx hb d_Ol_drawRound_101 hl (k := 4) rfl (by rw [ex4_2]; rfl) (by decide) rfl (fun ls hl => ?_)
    refine lv_goto (tgt := 25) hx hb d_Ol_drawRound_104 (by decide) ?_
    exact hk25 x1 x5 x6 x4_2 S H locs ls hP hD hS (lv_sub hl [3, 4, 1, 2, 0] rfl) hf
  · rw [if_pos c_1] at hf
    refine lv_goto (tgt := 107) hx hb d_Ol_drawRound_98 (by decide) ?_
    cases hf
    exact hret _ _ _ _ _ rfl hP hD hS d_Ol_drawRound_107
def f_Ol_drawRound_81  (k25 : Int32 → Int32 → Int32 → Int32 → St → Option St) (x1 : Int32) (x4 : Int32) (x5 : Int32) (x6 : Int32) (S : St) : Option St :=
  bd (f_Ol_put x6 S) (fun q_1 => f_Ol_drawRound_87  k25 x1 x4 x5 x6 q_1)
set_option maxHeartbeats 4000000 in
set_option maxRecDepth 100000 in
theorem w_Ol_drawRound_81 (C0 : CX p s m args c b_Ol_drawRound 7 R_Ol w_Ol_drawRound D clC cA cP A) {res : St} (hret : RTv p l e rm_Ol_drawRound s m args below meth c Q D clC A b_Ol_drawRound 0 0 (fun w => w = cw cA cP ob ad res))   (k25 : Int32 → Int32 → Int32 → Int32 → St → Option St) (hk25 : ∀ (x1 : Int32) (x2 : Int32) (x3 : Int32) (x4 : Int32) (S : St) (H : Heap) (locs : List Loc) (ls : Array Slot), va_P D clC (cw cA cP ob ad S) H → va_D A (cw cA cP ob ad S) → va_S A s.heap H locs → lv_has ls 7 [(0, .ref (ob 5)), (1, .int x1), (2, .int x2), (3, .int x3), (4, .int x4)] → k25 x1 x2 x3 x4 S = some res → W p l e rm_Ol_drawRound s m args below meth c H locs 0 0 Q (F0 m 25 ls [])) : ∀ (x1 : Int32) (x4 : Int32) (x5 : Int32) (x6 : Int32) (S : St) (H : Heap) (locs : List Loc) (ls : Array Slot), va_P D clC (cw cA cP ob ad S) H → va_D A (cw cA cP ob ad S) → va_S A s.heap H locs → lv_has ls 7 [(0, .ref (ob 5)), (1, .int x1), (4, .int x4), (5, .int x5), (6, .int x6)] → f_Ol_drawRound_81  k25 x1 x4 x5 x6 S = some res → W p l e rm_Ol_drawRound s m args below meth c H locs 0 0 Q (F0 m 81 ls []) := by
  obtain ⟨hx, hb, hml, hown, hts, hK, hA, hN, hZ⟩ := id C0
  intro x1 x4 x5 x6 S H locs ls hP hD hS hl hf
  rw [f_Ol_drawRound_81] at hf
  refine lv_aload_n hx hb d_Ol_drawRound_81 rfl (lv_at hl 0 rfl) ?_
  refine lv_iload hx hb d_Ol_drawRound_82 (lv_at hl 4 rfl) ?_
  obtain ⟨q_1, hq_1, hf⟩ := bd_some hf
  refine kc_v (va_runV (As := [.int x6]) (rest := []) ⟨hx, hb, hml, hown, hts⟩ (c_Ol_put l D cA cP ob ad x6  S hq_1 H.size) ⟨callB_of 1 hts (gd_Ol_put) rfl rfl rfl (hts _ (List.mem_cons_of_mem _ wd_71)) (hts _ (List.mem_cons_of_mem _ wd_356)) dd_Ol_put ⟨Nat.le_of_ble_eq_true rfl, Nat.le_of_ble_eq_true rfl⟩, (hts _ (List.mem_cons_of_mem _ wd_358)), (hts _ (List.mem_cons_of_mem _ wd_6))⟩ (kpV hK hP hD hN hZ hS 5 5 rfl rfl) rfl rfl hl.1 rfl (lv_room (Nat.le_of_ble_eq_true rfl)) d_Ol_drawRound_84 ⟨Nat.le_of_ble_eq_true rfl, Nat.le_of_ble_eq_true rfl⟩) hP hD hS hA (fun w H locs hw hP hD hS => ?_)
  obtain rfl := hw
  exact w_Ol_drawRound_87 C0 hret   k25 hk25 x1 x4 x5 x6 q_1 H locs ls hP hD hS (lv_sub hl [0, 1, 2, 3, 4] rfl) hf
def f_Ol_drawRound_25   : Nat → Int32 → Int32 → Int32 → Int32 → St → Option St
  | 0 => fun _ _ _ _ _ => none
  | n + 1 => fun x1 x2 x3 x4 S => (if (gi S 3) ≤ x4 then
      some S
      else
      bd (f_Nt_nextWayToGhost x2 S) (fun q_2 => bd (f_Nt_startOf x2 q_2.2) (fun q_3 => (if x3 = (-1) then
        f_Ol_drawRound_81  (f_Ol_drawRound_25  n) x1 x4 q_2.1 q_3.1 q_3.2
        else
        bd (f_Nt_startOf q_2.1 q_3.2) (fun q_5 => bd (f_Ol_isCorner x3 q_3.1 q_5.1 q_5.2) (fun q_6 => (if q_6.1 = 0 then
          f_Ol_drawRound_87  (f_Ol_drawRound_25  n) x1 x4 q_2.1 q_3.1 q_6.2
          else
          f_Ol_drawRound_81  (f_Ol_drawRound_25  n) x1 x4 q_2.1 q_3.1 q_6.2)))))))
set_option maxHeartbeats 4000000 in
set_option maxRecDepth 100000 in
theorem w_Ol_drawRound_25 (C0 : CX p s m args c b_Ol_drawRound 7 R_Ol w_Ol_drawRound D clC cA cP A) {res : St} (hret : RTv p l e rm_Ol_drawRound s m args below meth c Q D clC A b_Ol_drawRound 0 0 (fun w => w = cw cA cP ob ad res))    : ∀ (n : Nat) (x1 : Int32) (x2 : Int32) (x3 : Int32) (x4 : Int32) (S : St) (H : Heap) (locs : List Loc) (ls : Array Slot), va_P D clC (cw cA cP ob ad S) H → va_D A (cw cA cP ob ad S) → va_S A s.heap H locs → lv_has ls 7 [(0, .ref (ob 5)), (1, .int x1), (2, .int x2), (3, .int x3), (4, .int x4)] → f_Ol_drawRound_25   n x1 x2 x3 x4 S = some res → W p l e rm_Ol_drawRound s m args below meth c H locs 0 0 Q (F0 m 25 ls []) := by
  obtain ⟨hx, hb, hml, hown, hts, hK, hA, hN, hZ⟩ := id C0
  intro n
  induction n with
  | zero =>
    intro x1 x2 x3 x4 S H locs ls hP hD hS hl hf
    cases hf
  | succ n ih =>
    intro x1 x2 x3 x4 S H locs ls hP hD hS hl hf
    rw [f_Ol_drawRound_25] at hf
    try dsimp only at hf
    refine lv_iload hx hb d_Ol_drawRound_25 (lv_at hl 4 rfl) ?_
    refine lv_aload_n hx hb d_Ol_drawRound_27 rfl (lv_at hl 0 rfl) ?_
    refine va_get (D := D) (ci := 5) (v := .ref (ob 1)) (C := R_Ol) (T := F_Ol) (N := 5) hx hb hts (fun w h => List.mem_cons_of_mem _ (in_Ol w h)) hown hK hP 5 rfl rfl 0 (by decide) (hts _ (List.mem_cons_of_mem _ wd_233)) (fun _ h9 => h9) rfl d_Ol_drawRound_28 ?_
    refine va_get (D := D) (ci := 1) (v := .int (gi S 3)) (C := R_Pt) (T := F_Pt) (N := 5) hx hb hts (fun w h => List.mem_cons_of_mem _ (in_Pt w h)) hown hK hP 1 rfl rfl 1 (by decide) (hts _ (List.mem_cons_of_mem _ wd_135)) (fun _ h9 => h9) rfl d_Ol_drawRound_31 ?_
    refine lv_icmp_ge (tgt := 107) hx hb d_Ol_drawRound_34 (by decide) (fun c_1 => ?_) (fun c_1 => ?_)
    · rw [if_pos c_1] at hf
      cases hf
      exact hret _ _ _ _ _ rfl hP hD hS d_Ol_drawRound_107
    · rw [if_neg c_1] at hf
      refine lv_aload_n hx hb d_Ol_drawRound_37 rfl (lv_at hl 0 rfl) ?_
      refine va_get (D := D) (ci := 5) (v := .ref (ob 3)) (C := R_Ol) (T := F_Ol) (N := 5) hx hb hts (fun w h => List.mem_cons_of_mem _ (in_Ol w h)) hown hK hP 5 rfl rfl 1 (by decide) (hts _ (List.mem_cons_of_mem _ wd_234)) (fun _ h9 => h9) rfl d_Ol_drawRound_38 ?_
      refine lv_iload_n hx hb d_Ol_drawRound_41 rfl (lv_at hl 2 rfl) ?_
      obtain ⟨q_2, hq_2, hf⟩ := bd_some hf
      refine kc_i (va_runV (As := [.int x2]) (rest := []) ⟨hx, hb, hml, hown, hts⟩ (c_Nt_nextWayToGhost l D cA cP ob ad x2  S hq_2 H.size) ⟨callB_of 1 hts (gd_Nt_nextWayToGhost) rfl rfl rfl (hts _ (List.mem_cons_of_mem _ wd_69)) (hts _ (List.mem_cons_of_mem _ wd_388)) dd_Nt_nextWayToGhost ⟨Nat.le_of_ble_eq_true rfl, Nat.le_of_ble_eq_true rfl⟩, (hts _ (List.mem_cons_of_mem _ wd_389)), (hts _ (List.mem_cons_of_mem _ wd_390))⟩ (kpV hK hP hD hN hZ hS 3 3 rfl rfl) rfl rfl hl.1 rfl (lv_room (Nat.le_of_ble_eq_true rfl)) d_Ol_drawRound_42 ⟨Nat.le_of_ble_eq_true rfl, Nat.le_of_ble_eq_true rfl⟩) hP hD hS hA (fun r w H locs hw hP hD hS => ?_)
      obtain ⟨rfl, rfl⟩ := hw
      refine lv_istore (lv' := [(5, .int q_2.1), (0, .ref (ob 5)), (1, .int x1), (2, .int x2), (3, .int x3), (4, .int x4)]) hx hb d_Ol_drawRound_45 hl (by decide) rfl (fun ls hl => ?_)
      refine lv_aload_n hx hb d_Ol_drawRound_47 rfl (lv_at hl 1 rfl) ?_
      refine va_get (D := D) (ci := 5) (v := .ref (ob 3)) (C := R_Ol) (T := F_Ol) (N := 5) hx hb hts (fun w h => List.mem_cons_of_mem _ (in_Ol w h)) hown hK hP 5 rfl rfl 1 (by decide) (hts _ (List.mem_cons_of_mem _ wd_234)) (fun _ h9 => h9) rfl d_Ol_drawRound_48 ?_
      refine lv_iload_n hx hb d_Ol_drawRound_51 rfl (lv_at hl 3 rfl) ?_
      obtain ⟨q_3, hq_3, hf⟩ := bd_some hf
      refine kc_i (va_runV (As := [.int x2]) (rest := []) ⟨hx, hb, hml, hown, hts⟩ (c_Nt_startOf l D cA cP ob ad x2  q_2.2 hq_3 H.size) ⟨callB_of 1 hts (gd_Nt_startOf) rfl rfl rfl (hts _ (List.mem_cons_of_mem _ wd_69)) (hts _ (List.mem_cons_of_mem _ wd_392)) dd_Nt_startOf ⟨Nat.le_of_ble_eq_true rfl, Nat.le_of_ble_eq_true rfl⟩, (hts _ (List.mem_cons_of_mem _ wd_393)), (hts _ (List.mem_cons_of_mem _ wd_394))⟩ (kpV hK hP hD hN hZ hS 3 3 rfl rfl) rfl rfl hl.1 rfl (lv_room (Nat.le_of_ble_eq_true rfl)) d_Ol_drawRound_52 ⟨Nat.le_of_ble_eq_true rfl, Nat.le_of_ble_eq_true rfl⟩) hP hD hS hA (fun r w H locs hw hP hD hS => ?_)
      obtain ⟨rfl, rfl⟩ := hw
      refine lv_istore (lv' := [(6, .int q_3.1), (5, .int q_2.1), (0, .ref (ob 5)), (1, .int x1), (2, .int x2), (3, .int x3), (4, .int x4)]) hx hb d_Ol_drawRound_55 hl (by decide) rfl (fun ls hl => ?_)
      refine lv_iload_n hx hb d_Ol_drawRound_57 rfl (lv_at hl 5 rfl) ?_
      refine lv_iconst (v := (-1)) hx hb d_Ol_drawRound_58 (by decide) ?_
      refine lv_icmp_eq (tgt := 81) hx hb d_Ol_drawRound_59 (by decide) (fun c_4 => ?_) (fun c_4 => ?_)
      · rw [if_pos c_4] at hf
        exact w_Ol_drawRound_81 C0 hret   (f_Ol_drawRound_25  n) ih x1 x4 q_2.1 q_3.1 q_3.2 H locs ls hP hD hS (lv_sub hl [2, 3, 6, 1, 0] rfl) hf
      · rw [if_neg c_4] at hf
        refine lv_aload_n hx hb d_Ol_drawRound_62 rfl (lv_at hl 2 rfl) ?_
        refine lv_iload_n hx hb d_Ol_drawRound_63 rfl (lv_at hl 5 rfl) ?_
        refine lv_iload hx hb d_Ol_drawRound_64 (lv_at hl 0 rfl) ?_
        refine lv_aload_n hx hb d_Ol_drawRound_66 rfl (lv_at hl 2 rfl) ?_
        refine va_get (D := D) (ci := 5) (v := .ref (ob 3)) (C := R_Ol) (T := F_Ol) (N := 5) hx hb hts (fun w h => List.mem_cons_of_mem _ (in_Ol w h)) hown hK hP 5 rfl rfl 1 (by decide) (hts _ (List.mem_cons_of_mem _ wd_234)) (fun _ h9 => h9) rfl d_Ol_drawRound_67 ?_
        refine lv_iload hx hb d_Ol_drawRound_70 (lv_at hl 1 rfl) ?_
        obtain ⟨q_5, hq_5, hf⟩ := bd_some hf
        refine kc_i (va_runV (As := [.int q_2.1]) (rest := [.int q_3.1, .int x3, .ref (ob 5)]) ⟨hx, hb, hml, hown, hts⟩ (c_Nt_startOf l D cA cP ob ad q_2.1  q_3.2 hq_5 H.size) ⟨callB_of 1 hts (gd_Nt_startOf) rfl rfl rfl (hts _ (List.mem_cons_of_mem _ wd_69)) (hts _ (List.mem_cons_of_mem _ wd_392)) dd_Nt_startOf ⟨Nat.le_of_ble_eq_true rfl, Nat.le_of_ble_eq_true rfl⟩, (hts _ (List.mem_cons_of_mem _ wd_393)), (hts _ (List.mem_cons_of_mem _ wd_394))⟩ (kpV hK hP hD hN hZ hS 3 3 rfl rfl) rfl rfl hl.1 rfl (lv_room (Nat.le_of_ble_eq_true rfl)) d_Ol_drawRound_72 ⟨Nat.le_of_ble_eq_true rfl, Nat.le_of_ble_eq_true rfl⟩) hP hD hS hA (fun r w H locs hw hP hD hS => ?_)
        obtain ⟨rfl, rfl⟩ := hw
        obtain ⟨q_6, hq_6, hf⟩ := bd_some hf
        refine kc_i (va_runV (As := [.int x3, .int q_3.1, .int q_5.1]) (rest := []) ⟨hx, hb, hml, hown, hts⟩ (c_Ol_isCorner l D cA cP ob ad x3 q_3.1 q_5.1  q_5.2 hq_6 H.size) ⟨callB_of 3 hts (gd_Ol_isCorner) rfl rfl rfl (hts _ (List.mem_cons_of_mem _ wd_71)) (hts _ (List.mem_cons_of_mem _ wd_396)) dd_Ol_isCorner ⟨Nat.le_of_ble_eq_true rfl, Nat.le_of_ble_eq_true rfl⟩, (hts _ (List.mem_cons_of_mem _ wd_398)), (hts _ (List.mem_cons_of_mem _ wd_10))⟩ (kpV hK hP hD hN hZ hS 5 5 rfl rfl) rfl rfl hl.1 rfl (lv_room (Nat.le_of_ble_eq_true rfl)) d_Ol_drawRound_75 ⟨Nat.le_of_ble_eq_true rfl, Nat.le_of_ble_eq_true rfl⟩) hP hD hS hA (fun r w H locs hw hP hD hS => ?_)
        obtain ⟨rfl, rfl⟩ := hw
        refine lv_if_eq (tgt := 87) hx hb d_Ol_drawRound_78 (by decide) (fun c_7 => ?_) (fun c_7 => ?_)
        · rw [if_pos c_7] at hf
          exact w_Ol_drawRound_87 C0 hret   (f_Ol_drawRound_25  n) ih x1 x4 q_2.1 q_3.1 q_6.2 H locs ls hP hD hS (lv_sub hl [2, 3, 6, 1, 0] rfl) hf
        · rw [if_neg c_7] at hf
          exact w_Ol_drawRound_81 C0 hret   (f_Ol_drawRound_25  n) ih x1 x4 q_2.1 q_3.1 q_6.2 H locs ls hP hD hS (lv_sub hl [2, 3, 6, 1, 0] rfl) hf
def f_Ol_drawRound_0    (S : St) : Option St :=
  bd (f_Pt_leastAbove (-1000000001) 0 S) (fun q_1 => bd (f_Nt_wayToGhost q_1.1 q_1.2) (fun q_2 => f_Ol_drawRound_25   FU q_2.1 q_2.1 (-1) 0 q_2.2))
set_option maxHeartbeats 4000000 in
set_option maxRecDepth 100000 in
theorem w_Ol_drawRound_0 (C0 : CX p s m args c b_Ol_drawRound 7 R_Ol w_Ol_drawRound D clC cA cP A) {res : St} (hret : RTv p l e rm_Ol_drawRound s m args below meth c Q D clC A b_Ol_drawRound 0 0 (fun w => w = cw cA cP ob ad res))    : ∀  (S : St) (H : Heap) (locs : List Loc) (ls : Array Slot), va_P D clC (cw cA cP ob ad S) H → va_D A (cw cA cP ob ad S) → va_S A s.heap H locs → lv_has ls 7 [(0, .ref (ob 5))] → f_Ol_drawRound_0    S = some res → W p l e rm_Ol_drawRound s m args below meth c H locs 0 0 Q (F0 m 0 ls []) := by
  obtain ⟨hx, hb, hml, hown, hts, hK, hA, hN, hZ⟩ := id C0
  intro  S H locs ls hP hD hS hl hf
  rw [f_Ol_drawRound_0] at hf
  refine lv_aload_n hx hb d_Ol_drawRound_0 rfl (lv_at hl 0 rfl) ?_
  refine va_get (D := D) (ci := 5) (v := .ref (ob 3)) (C := R_Ol) (T := F_Ol) (N := 5) hx hb hts (fun w h => List.mem_cons_of_mem _ (in_Ol w h)) hown hK hP 5 rfl rfl 1 (by decide) (hts _ (List.mem_cons_of_mem _ wd_234)) (fun _ h9 => h9) rfl d_Ol_drawRound_1 ?_
  refine lv_aload_n hx hb d_Ol_drawRound_4 rfl (lv_at hl 0 rfl) ?_
  refine va_get (D := D) (ci := 5) (v := .ref (ob 1)) (C := R_Ol) (T := F_Ol) (N := 5) hx hb hts (fun w h => List.mem_cons_of_mem _ (in_Ol w h)) hown hK hP 5 rfl rfl 0 (by decide) (hts _ (List.mem_cons_of_mem _ wd_233)) (fun _ h9 => h9) rfl d_Ol_drawRound_5 ?_
  refine lv_ldc (v := (-1000000001)) hx hb hown (hts _ (List.mem_cons_of_mem _ wd_330)) d_Ol_drawRound_8 ?_
  refine lv_iconst (v := 0) hx hb d_Ol_drawRound_10 (by decide) ?_
  obtain ⟨q_1, hq_1, hf⟩ := bd_some hf
  refine kc_i (va_runV (As := [.int (-1000000001), .int 0]) (rest := [.ref (ob 3)]) ⟨hx, hb, hml, hown, hts⟩ (c_Pt_leastAbove l D cA cP ob ad (-1000000001) 0  S hq_1 H.size) ⟨callB_of 2 hts (gd_Pt_leastAbove) rfl rfl rfl (hts _ (List.mem_cons_of_mem _ wd_65)) (hts _ (List.mem_cons_of_mem _ wd_331)) dd_Pt_leastAbove ⟨Nat.le_of_ble_eq_true rfl, Nat.le_of_ble_eq_true rfl⟩, (hts _ (List.mem_cons_of_mem _ wd_332)), (hts _ (List.mem_cons_of_mem _ wd_333))⟩ (kpV hK hP hD hN hZ hS 1 1 rfl rfl) rfl rfl hl.1 rfl (lv_room (Nat.le_of_ble_eq_true rfl)) d_Ol_drawRound_11 ⟨Nat.le_of_ble_eq_true rfl, Nat.le_of_ble_eq_true rfl⟩) hP hD hS hA (fun r w H locs hw hP hD hS => ?_)
  obtain ⟨rfl, rfl⟩ := hw
  obtain ⟨q_2, hq_2, hf⟩ := bd_some hf
  refine kc_i (va_runV (As := [.int q_1.1]) (rest := []) ⟨hx, hb, hml, hown, hts⟩ (c_Nt_wayToGhost l D cA cP ob ad q_1.1  q_1.2 hq_2 H.size) ⟨callB_of 1 hts (gd_Nt_wayToGhost) rfl rfl rfl (hts _ (List.mem_cons_of_mem _ wd_69)) (hts _ (List.mem_cons_of_mem _ wd_368)) dd_Nt_wayToGhost ⟨Nat.le_of_ble_eq_true rfl, Nat.le_of_ble_eq_true rfl⟩, (hts _ (List.mem_cons_of_mem _ wd_369)), (hts _ (List.mem_cons_of_mem _ wd_370))⟩ (kpV hK hP hD hN hZ hS 3 3 rfl rfl) rfl rfl hl.1 rfl (lv_room (Nat.le_of_ble_eq_true rfl)) d_Ol_drawRound_14 ⟨Nat.le_of_ble_eq_true rfl, Nat.le_of_ble_eq_true rfl⟩) hP hD hS hA (fun r w H locs hw hP hD hS => ?_)
  obtain ⟨rfl, rfl⟩ := hw
  refine lv_istore_n (lv' := [(1, .int q_2.1), (0, .ref (ob 5))]) hx hb d_Ol_drawRound_17 rfl hl (by decide) rfl (fun ls hl => ?_)
  refine lv_iload_n hx hb d_Ol_drawRound_18 rfl (lv_at hl 0 rfl) ?_
  refine lv_istore_n (lv' := [(2, .int q_2.1), (1, .int q_2.1), (0, .ref (ob 5))]) hx hb d_Ol_drawRound_19 rfl hl (by decide) rfl (fun ls hl => ?_)
  refine lv_iconst (v := (-1)) hx hb d_Ol_drawRound_20 (by decide) ?_
  refine lv_istore_n (lv' := [(3, .int (-1)), (2, .int q_2.1), (1, .int q_2.1), (0, .ref (ob 5))]) hx hb d_Ol_drawRound_21 rfl hl (by decide) rfl (fun ls hl => ?_)
  refine lv_iconst (v := 0) hx hb d_Ol_drawRound_22 (by decide) ?_
  refine lv_istore (lv' := [(4, .int 0), (3, .int (-1)), (2, .int q_2.1), (1, .int q_2.1), (0, .ref (ob 5))]) hx hb d_Ol_drawRound_23 hl (by decide) rfl (fun ls hl => ?_)
  exact w_Ol_drawRound_25 C0 hret    FU q_2.1 q_2.1 (-1) 0 q_2.2 H locs ls hP hD hS (lv_sub hl [4, 3, 2, 1, 0] rfl) hf
def f_Ol_drawRound  (S : St) : Option St := f_Ol_drawRound_0   S
theorem c_Ol_drawRound (l : Launch) (D : va_G) (cA cP : ClassId) (ob : Nat → Nat) (ad : Nat → Nat → Nat)   (S : St) {res : St} (hf : f_Ol_drawRound  S = some res) : CTv l y_Ol_drawRound w_Ol_drawRound rm_Ol_drawRound 0 0 D clC (TY cA cP) [.ref (ob 5)] (cw cA cP ob ad S) (fun w => w = cw cA cP ob ad res) :=
  mk_v (cc := b_Ol_drawRound) (maxL := 7) (own := R_Ol) (by decide) rfl rfl (Nat.le_of_ble_eq_true rfl) (fun p e s m below meth c A Q C0 hret ls hl hP hD hS => w_Ol_drawRound_0 C0 hret    S _ _ ls hP hD hS (lv_sub hl [0] rfl) hf)
end
