section
variable {p : Program} {l : Launch} {e : Env} {s : State} {m : MethodId} {args : Array Value} {below : List Frame} {meth : Method} {c : Code} {Q : State → Prop} {D : va_G} {cA : ClassId} {ob ad : Nat → Nat} {A : Nat → Prop}
def f_Nt_isOuter_46    (S : St) : Option (Int32 × St) :=
  some (1, S)
set_option maxHeartbeats 4000000 in
set_option maxRecDepth 100000 in
theorem w_Nt_isOuter_46 (C0 : CX p s m args c b_Nt_isOuter 3 R_Nt w_Nt_isOuter D clC cA A) {res : (Int32 × St)} (hret : RTz p l e rm_Nt_isOuter s m args below meth c Q D clC A b_Nt_isOuter 0 0 (fun r w => r = res.1 ∧ w = cw cA ob ad res.2))    : ∀  (S : St) (H : Heap) (locs : List Loc) (ls : Array Slot), va_P D clC (cw cA ob ad S) H → va_D A (cw cA ob ad S) → va_S A s.heap H locs → lv_has ls 3 [] → f_Nt_isOuter_46    S = some res → W p l e rm_Nt_isOuter s m args below meth c H locs 0 0 Q (F0 m 46 ls []) := by
  obtain ⟨hx, hb, hml, hown, hts, hK, hA, hN⟩ := id C0
  intro  S H locs ls hP hD hS hl hf
  rw [f_Nt_isOuter_46] at hf
  refine lv_iconst (v := 1) hx hb d_Nt_isOuter_46 (by decide) ?_
  refine lv_goto (tgt := 51) hx hb d_Nt_isOuter_47 (by decide) ?_
  cases hf
  exact hret _ _ _ _ _ _ ⟨rfl, rfl⟩ rfl hP hD hS d_Nt_isOuter_51
def f_Nt_isOuter_0   (x1 : Int32) (S : St) : Option (Int32 × St) :=
  bn (x1 - (x1 - x1 / 3 * 3)) (fun x2_1 => bd (f_Nt_startOf x2_1 S) (fun q_2 => (if q_2.1 = (gi q_2.2 4) then
    f_Nt_isOuter_46    q_2.2
    else
    bd (f_Nt_startOf (x2_1 + 1) q_2.2) (fun q_4 => (if q_4.1 = (gi q_4.2 4) then
      f_Nt_isOuter_46    q_4.2
      else
      bd (f_Nt_startOf (x2_1 + 2) q_4.2) (fun q_6 => (if q_6.1 = (gi q_6.2 4) then
        f_Nt_isOuter_46    q_6.2
        else
        some (0, q_6.2))))))))
set_option maxHeartbeats 4000000 in
set_option maxRecDepth 100000 in
theorem w_Nt_isOuter_0 (C0 : CX p s m args c b_Nt_isOuter 3 R_Nt w_Nt_isOuter D clC cA A) {res : (Int32 × St)} (hret : RTz p l e rm_Nt_isOuter s m args below meth c Q D clC A b_Nt_isOuter 0 0 (fun r w => r = res.1 ∧ w = cw cA ob ad res.2))    : ∀ (x1 : Int32) (S : St) (H : Heap) (locs : List Loc) (ls : Array Slot), va_P D clC (cw cA ob ad S) H → va_D A (cw cA ob ad S) → va_S A s.heap H locs → lv_has ls 3 [(0, .ref (ob 3)), (1, .int x1)] → f_Nt_isOuter_0   x1 S = some res → W p l e rm_Nt_isOuter s m args below meth c H locs 0 0 Q (F0 m 0 ls []) := by
  obtain ⟨hx, hb, hml, hown, hts, hK, hA, hN⟩ := id C0
  intro x1 S H locs ls hP hD hS hl hf
  rw [f_Nt_isOuter_0] at hf
  refine lv_iload_n hx hb d_Nt_isOuter_0 rfl (lv_at hl 1 rfl) ?_
  refine lv_iload_n hx hb d_Nt_isOuter_1 rfl (lv_at hl 1 rfl) ?_
  refine lv_iconst (v := 3) hx hb d_Nt_isOuter_2 (by decide) ?_
  refine lv_irem hx hb d_Nt_isOuter_3 (by decide) ?_
  refine lv_isub hx hb d_Nt_isOuter_4 ?_
  obtain ⟨x2_1, ex2_1, hf⟩ := bn_some hf
  refine tpi ex2_1 ?_
  refine lv_istore_n (lv' := [(2, .int x2_1), (0, .ref (ob 3)), (1, .int x1)]) hx hb d_Nt_isOuter_5 rfl hl (by decide) rfl (fun ls hl => ?_)
  refine lv_aload_n hx hb d_Nt_isOuter_6 rfl (lv_at hl 1 rfl) ?_
  refine lv_iload_n hx hb d_Nt_isOuter_7 rfl (lv_at hl 0 rfl) ?_
  obtain ⟨q_2, hq_2, hf⟩ := bd_some hf
  refine kc_i (va_runV (As := [.int x2_1]) (rest := []) ⟨hx, hb, hml, hown, hts⟩ (c_Nt_startOf l D cA ob ad x2_1  S hq_2 H.size) ⟨callB_of 1 hts (gd_Nt_startOf) rfl rfl rfl (hts _ (List.mem_cons_of_mem _ wd_67)) (hts _ (List.mem_cons_of_mem _ wd_362)) dd_Nt_startOf ⟨Nat.le_of_ble_eq_true rfl, Nat.le_of_ble_eq_true rfl⟩, (hts _ (List.mem_cons_of_mem _ wd_363)), (hts _ (List.mem_cons_of_mem _ wd_364))⟩ (kpV hK hP hD hN 3 3 rfl rfl) rfl rfl hl.1 rfl (lv_room (Nat.le_of_ble_eq_true rfl)) d_Nt_isOuter_8 ⟨Nat.le_of_ble_eq_true rfl, Nat.le_of_ble_eq_true rfl⟩) hP hD hS hA (fun r w H locs hw hP hD hS => ?_)
  obtain ⟨rfl, rfl⟩ := hw
  refine lv_aload_n hx hb d_Nt_isOuter_11 rfl (lv_at hl 1 rfl) ?_
  refine va_get (D := D) (ci := 3) (v := .int (gi q_2.2 4)) (C := R_Nt) (T := F_Nt) (N := 13) hx hb hts (fun w h => List.mem_cons_of_mem _ (in_Nt w h)) hown hK hP 3 rfl rfl 1 (by decide) (hts _ (List.mem_cons_of_mem _ wd_141)) (fun _ h9 => h9) rfl d_Nt_isOuter_12 ?_
  refine lv_icmp_eq (tgt := 46) hx hb d_Nt_isOuter_15 (by decide) (fun c_3 => ?_) (fun c_3 => ?_)
  · rw [if_pos c_3] at hf
    exact w_Nt_isOuter_46 C0 hret     q_2.2 H locs ls hP hD hS (lv_sub hl [] rfl) hf
  · rw [if_neg c_3] at hf
    refine lv_aload_n hx hb d_Nt_isOuter_18 rfl (lv_at hl 1 rfl) ?_
    refine lv_iload_n hx hb d_Nt_isOuter_19 rfl (lv_at hl 0 rfl) ?_
    refine lv_iconst (v := 1) hx hb d_Nt_isOuter_20 (by decide) ?_
    refine lv_iadd hx hb d_Nt_isOuter_21 ?_
    obtain ⟨q_4, hq_4, hf⟩ := bd_some hf
    refine kc_i (va_runV (As := [.int (x2_1 + 1)]) (rest := []) ⟨hx, hb, hml, hown, hts⟩ (c_Nt_startOf l D cA ob ad (x2_1 + 1)  q_2.2 hq_4 H.size) ⟨callB_of 1 hts (gd_Nt_startOf) rfl rfl rfl (hts _ (List.mem_cons_of_mem _ wd_67)) (hts _ (List.mem_cons_of_mem _ wd_362)) dd_Nt_startOf ⟨Nat.le_of_ble_eq_true rfl, Nat.le_of_ble_eq_true rfl⟩, (hts _ (List.mem_cons_of_mem _ wd_363)), (hts _ (List.mem_cons_of_mem _ wd_364))⟩ (kpV hK hP hD hN 3 3 rfl rfl) rfl rfl hl.1 rfl (lv_room (Nat.le_of_ble_eq_true rfl)) d_Nt_isOuter_22 ⟨Nat.le_of_ble_eq_true rfl, Nat.le_of_ble_eq_true rfl⟩) hP hD hS hA (fun r w H locs hw hP hD hS => ?_)
    obtain ⟨rfl, rfl⟩ := hw
    refine lv_aload_n hx hb d_Nt_isOuter_25 rfl (lv_at hl 1 rfl) ?_
    refine va_get (D := D) (ci := 3) (v := .int (gi q_4.2 4)) (C := R_Nt) (T := F_Nt) (N := 13) hx hb hts (fun w h => List.mem_cons_of_mem _ (in_Nt w h)) hown hK hP 3 rfl rfl 1 (by decide) (hts _ (List.mem_cons_of_mem _ wd_141)) (fun _ h9 => h9) rfl d_Nt_isOuter_26 ?_
    refine lv_icmp_eq (tgt := 46) hx hb d_Nt_isOuter_29 (by decide) (fun c_5 => ?_) (fun c_5 => ?_)
    · rw [if_pos c_5] at hf
      exact w_Nt_isOuter_46 C0 hret     q_4.2 H locs ls hP hD hS (lv_sub hl [] rfl) hf
    · rw [if_neg c_5] at hf
      refine lv_aload_n hx hb d_Nt_isOuter_32 rfl (lv_at hl 1 rfl) ?_
      refine lv_iload_n hx hb d_Nt_isOuter_33 rfl (lv_at hl 0 rfl) ?_
      refine lv_iconst (v := 2) hx hb d_Nt_isOuter_34 (by decide) ?_
      refine lv_iadd hx hb d_Nt_isOuter_35 ?_
      obtain ⟨q_6, hq_6, hf⟩ := bd_some hf
      refine kc_i (va_runV (As := [.int (x2_1 + 2)]) (rest := []) ⟨hx, hb, hml, hown, hts⟩ (c_Nt_startOf l D cA ob ad (x2_1 + 2)  q_4.2 hq_6 H.size) ⟨callB_of 1 hts (gd_Nt_startOf) rfl rfl rfl (hts _ (List.mem_cons_of_mem _ wd_67)) (hts _ (List.mem_cons_of_mem _ wd_362)) dd_Nt_startOf ⟨Nat.le_of_ble_eq_true rfl, Nat.le_of_ble_eq_true rfl⟩, (hts _ (List.mem_cons_of_mem _ wd_363)), (hts _ (List.mem_cons_of_mem _ wd_364))⟩ (kpV hK hP hD hN 3 3 rfl rfl) rfl rfl hl.1 rfl (lv_room (Nat.le_of_ble_eq_true rfl)) d_Nt_isOuter_36 ⟨Nat.le_of_ble_eq_true rfl, Nat.le_of_ble_eq_true rfl⟩) hP hD hS hA (fun r w H locs hw hP hD hS => ?_)
      obtain ⟨rfl, rfl⟩ := hw
      refine lv_aload_n hx hb d_Nt_isOuter_39 rfl (lv_at hl 1 rfl) ?_
      refine va_get (D := D) (ci := 3) (v := .int (gi q_6.2 4)) (C := R_Nt) (T := F_Nt) (N := 13) hx hb hts (fun w h => List.mem_cons_of_mem _ (in_Nt w h)) hown hK hP 3 rfl rfl 1 (by decide) (hts _ (List.mem_cons_of_mem _ wd_141)) (fun _ h9 => h9) rfl d_Nt_isOuter_40 ?_
      refine lv_icmp_ne (tgt := 50) hx hb d_Nt_isOuter_43 (by decide) (fun c_7 => ?_) (fun c_7 => ?_)
      · rw [if_neg c_7] at hf
        refine lv_iconst (v := 0) hx hb d_Nt_isOuter_50 (by decide) ?_
        cases hf
        exact hret _ _ _ _ _ _ ⟨rfl, rfl⟩ rfl hP hD hS d_Nt_isOuter_51
      · rw [if_pos c_7] at hf
        exact w_Nt_isOuter_46 C0 hret     q_6.2 H locs ls hP hD hS (lv_sub hl [] rfl) hf
def f_Nt_isOuter (x1 : Int32) (S : St) : Option (Int32 × St) := f_Nt_isOuter_0  x1 S
theorem c_Nt_isOuter (l : Launch) (D : va_G) (cA : ClassId) (ob ad : Nat → Nat) (x1 : Int32)  (S : St) {res : (Int32 × St)} (hf : f_Nt_isOuter x1 S = some res) : CTi l y_Nt_isOuter w_Nt_isOuter rm_Nt_isOuter 0 0 D clC [(cA, .int)] [.ref (ob 3), .int x1] (cw cA ob ad S) (fun r w => r = res.1 ∧ w = cw cA ob ad res.2) :=
  mk_z (cc := b_Nt_isOuter) (maxL := 3) (own := R_Nt) (by decide) rfl rfl (Nat.le_of_ble_eq_true rfl) (fun p e s m below meth c A Q C0 hret ls hl hP hD hS => w_Nt_isOuter_0 C0 hret   x1 S _ _ ls hP hD hS (lv_sub hl [0, 1] rfl) hf)
def f_Nt_ahead_0   (x0 : Int32) (x1 : Int32) (S : St) : Option (Int32 × St) :=
  bn (x0 - (x0 - x0 / 3 * 3)) (fun x2_1 => some ((x2_1 + (((x0 - x2_1) + x1) - ((x0 - x2_1) + x1) / 3 * 3)), S))
set_option maxHeartbeats 4000000 in
set_option maxRecDepth 100000 in
theorem w_Nt_ahead_0 (C0 : CX p s m args c b_Nt_ahead 3 R_Nt w_Nt_ahead D clC cA A) {res : (Int32 × St)} (hret : RTi p l e rm_Nt_ahead s m args below meth c Q D clC A b_Nt_ahead 0 0 (fun r w => r = res.1 ∧ w = cw cA ob ad res.2))    : ∀ (x0 : Int32) (x1 : Int32) (S : St) (H : Heap) (locs : List Loc) (ls : Array Slot), va_P D clC (cw cA ob ad S) H → va_D A (cw cA ob ad S) → va_S A s.heap H locs → lv_has ls 3 [(0, .int x0), (1, .int x1)] → f_Nt_ahead_0   x0 x1 S = some res → W p l e rm_Nt_ahead s m args below meth c H locs 0 0 Q (F0 m 0 ls []) := by
  obtain ⟨hx, hb, hml, hown, hts, hK, hA, hN⟩ := id C0
  intro x0 x1 S H locs ls hP hD hS hl hf
  rw [f_Nt_ahead_0] at hf
  refine lv_iload_n hx hb d_Nt_ahead_0 rfl (lv_at hl 0 rfl) ?_
  refine lv_iload_n hx hb d_Nt_ahead_1 rfl (lv_at hl 0 rfl) ?_
  refine lv_iconst (v := 3) hx hb d_Nt_ahead_2 (by decide) ?_
  refine lv_irem hx hb d_Nt_ahead_3 (by decide) ?_
  refine lv_isub hx hb d_Nt_ahead_4 ?_
  obtain ⟨x2_1, ex2_1, hf⟩ := bn_some hf
  refine tpi ex2_1 ?_
  refine lv_istore_n (lv' := [(2, .int x2_1), (0, .int x0), (1, .int x1)]) hx hb d_Nt_ahead_5 rfl hl (by decide) rfl (fun ls hl => ?_)
  refine lv_iload_n hx hb d_Nt_ahead_6 rfl (lv_at hl 0 rfl) ?_
  refine lv_iload_n hx hb d_Nt_ahead_7 rfl (lv_at hl 1 rfl) ?_
  refine lv_iload_n hx hb d_Nt_ahead_8 rfl (lv_at hl 0 rfl) ?_
  refine lv_isub hx hb d_Nt_ahead_9 ?_
  refine lv_iload_n hx hb d_Nt_ahead_10 rfl (lv_at hl 2 rfl) ?_
  refine lv_iadd hx hb d_Nt_ahead_11 ?_
  refine lv_iconst (v := 3) hx hb d_Nt_ahead_12 (by decide) ?_
  refine lv_irem hx hb d_Nt_ahead_13 (by decide) ?_
  refine lv_iadd hx hb d_Nt_ahead_14 ?_
  cases hf
  exact hret _ _ _ _ _ _ ⟨rfl, rfl⟩ hP hD hS d_Nt_ahead_15
def f_Nt_ahead (x0 : Int32) (x1 : Int32) (S : St) : Option (Int32 × St) := f_Nt_ahead_0  x0 x1 S
theorem c_Nt_ahead (l : Launch) (D : va_G) (cA : ClassId) (ob ad : Nat → Nat) (x0 : Int32) (x1 : Int32)  (S : St) {res : (Int32 × St)} (hf : f_Nt_ahead x0 x1 S = some res) : CTi l y_Nt_ahead w_Nt_ahead rm_Nt_ahead 0 0 D clC [(cA, .int)] [.int x0, .int x1] (cw cA ob ad S) (fun r w => r = res.1 ∧ w = cw cA ob ad res.2) :=
  mk_i (cc := b_Nt_ahead) (maxL := 3) (own := R_Nt) (by decide) rfl rfl (Nat.le_of_ble_eq_true rfl) (fun p e s m below meth c A Q C0 hret ls hl hP hD hS => w_Nt_ahead_0 C0 hret   x0 x1 S _ _ ls hP hD hS (lv_sub hl [0, 1] rfl) hf)
def f_Nt_baseOf_33   (x2 : Int32) (S : St) : Option (Int32 × St) :=
  bd (f_Nt_ahead x2 1 S) (fun q_1 => some (q_1.1, q_1.2))
set_option maxHeartbeats 4000000 in
set_option maxRecDepth 100000 in
theorem w_Nt_baseOf_33 (C0 : CX p s m args c b_Nt_baseOf 4 R_Nt w_Nt_baseOf D clC cA A) {res : (Int32 × St)} (hret : RTi p l e rm_Nt_baseOf s m args below meth c Q D clC A b_Nt_baseOf 0 0 (fun r w => r = res.1 ∧ w = cw cA ob ad res.2))    : ∀ (x2 : Int32) (S : St) (H : Heap) (locs : List Loc) (ls : Array Slot), va_P D clC (cw cA ob ad S) H → va_D A (cw cA ob ad S) → va_S A s.heap H locs → lv_has ls 4 [(2, .int x2)] → f_Nt_baseOf_33   x2 S = some res → W p l e rm_Nt_baseOf s m args below meth c H locs 0 0 Q (F0 m 33 ls []) := by
  obtain ⟨hx, hb, hml, hown, hts, hK, hA, hN⟩ := id C0
  intro x2 S H locs ls hP hD hS hl hf
  rw [f_Nt_baseOf_33] at hf
  refine lv_iload_n hx hb d_Nt_baseOf_33 rfl (lv_at hl 0 rfl) ?_
  refine lv_iconst (v := 1) hx hb d_Nt_baseOf_34 (by decide) ?_
  obtain ⟨q_1, hq_1, hf⟩ := bd_some hf
  refine kc_i (va_runS (As := [.int x2, .int 1]) (rest := []) ⟨hx, hb, hml, hown, hts⟩ (c_Nt_ahead l D cA ob ad x2 1  S hq_1 H.size) ⟨callB_of 2 hts (gd_Nt_ahead) rfl rfl rfl (hts _ (List.mem_cons_of_mem _ wd_67)) (hts _ (List.mem_cons_of_mem _ wd_359)) dd_Nt_ahead ⟨Nat.le_of_ble_eq_true rfl, Nat.le_of_ble_eq_true rfl⟩, (hts _ (List.mem_cons_of_mem _ wd_360))⟩ (kpS hK hP hD hN) rfl rfl hl.1 rfl (lv_room (Nat.le_of_ble_eq_true rfl)) d_Nt_baseOf_35 ⟨Nat.le_of_ble_eq_true rfl, Nat.le_of_ble_eq_true rfl⟩) hP hD hS hA (fun r w H locs hw hP hD hS => ?_)
  obtain ⟨rfl, rfl⟩ := hw
  cases hf
  exact hret _ _ _ _ _ _ ⟨rfl, rfl⟩ hP hD hS d_Nt_baseOf_38
def f_Nt_baseOf_4   : Nat → Int32 → Int32 → St → Option (Int32 × St)
  | 0 => fun _ _ _ => none
  | n + 1 => fun x2 x3 S => (if 2 ≤ x3 then
      f_Nt_baseOf_33   x2 S
      else
      bd (f_Nt_startOf x2 S) (fun q_2 => (if q_2.1 = (gi q_2.2 4) then
        f_Nt_baseOf_33   x2 q_2.2
        else
        bd (f_Nt_ahead x2 1 q_2.2) (fun q_4 => bn (x3 + 1) (fun x3_5 => f_Nt_baseOf_4  n q_4.1 x3_5 q_4.2)))))
set_option maxHeartbeats 4000000 in
set_option maxRecDepth 100000 in
theorem w_Nt_baseOf_4 (C0 : CX p s m args c b_Nt_baseOf 4 R_Nt w_Nt_baseOf D clC cA A) {res : (Int32 × St)} (hret : RTi p l e rm_Nt_baseOf s m args below meth c Q D clC A b_Nt_baseOf 0 0 (fun r w => r = res.1 ∧ w = cw cA ob ad res.2))    : ∀ (n : Nat) (x2 : Int32) (x3 : Int32) (S : St) (H : Heap) (locs : List Loc) (ls : Array Slot), va_P D clC (cw cA ob ad S) H → va_D A (cw cA ob ad S) → va_S A s.heap H locs → lv_has ls 4 [(0, .ref (ob 3)), (2, .int x2), (3, .int x3)] → f_Nt_baseOf_4   n x2 x3 S = some res → W p l e rm_Nt_baseOf s m args below meth c H locs 0 0 Q (F0 m 4 ls []) := by
  obtain ⟨hx, hb, hml, hown, hts, hK, hA, hN⟩ := id C0
  intro n
  induction n with
  | zero =>
    intro x2 x3 S H locs ls hP hD hS hl hf
    cases hf
  | succ n ih =>
    intro x2 x3 S H locs ls hP hD hS hl hf
    rw [f_Nt_baseOf_4] at hf
    try dsimp only at hf
    refine lv_iload_n hx hb d_Nt_baseOf_4 rfl (lv_at hl 2 rfl) ?_
    refine lv_iconst (v := 2) hx hb d_Nt_baseOf_5 (by decide) ?_
    refine lv_icmp_ge (tgt := 33) hx hb d_Nt_baseOf_6 (by decide) (fun c_1 => ?_) (fun c_1 => ?_)
    · rw [if_pos c_1] at hf
      exact w_Nt_baseOf_33 C0 hret    x2 S H locs ls hP hD hS (lv_sub hl [1] rfl) hf
    · rw [if_neg c_1] at hf
      refine lv_aload_n hx hb d_Nt_baseOf_9 rfl (lv_at hl 0 rfl) ?_
      refine lv_iload_n hx hb d_Nt_baseOf_10 rfl (lv_at hl 1 rfl) ?_
      obtain ⟨q_2, hq_2, hf⟩ := bd_some hf
      refine kc_i (va_runV (As := [.int x2]) (rest := []) ⟨hx, hb, hml, hown, hts⟩ (c_Nt_startOf l D cA ob ad x2  S hq_2 H.size) ⟨callB_of 1 hts (gd_Nt_startOf) rfl rfl rfl (hts _ (List.mem_cons_of_mem _ wd_67)) (hts _ (List.mem_cons_of_mem _ wd_362)) dd_Nt_startOf ⟨Nat.le_of_ble_eq_true rfl, Nat.le_of_ble_eq_true rfl⟩, (hts _ (List.mem_cons_of_mem _ wd_363)), (hts _ (List.mem_cons_of_mem _ wd_364))⟩ (kpV hK hP hD hN 3 3 rfl rfl) rfl rfl hl.1 rfl (lv_room (Nat.le_of_ble_eq_true rfl)) d_Nt_baseOf_11 ⟨Nat.le_of_ble_eq_true rfl, Nat.le_of_ble_eq_true rfl⟩) hP hD hS hA (fun r w H locs hw hP hD hS => ?_)
      obtain ⟨rfl, rfl⟩ := hw
      refine lv_aload_n hx hb d_Nt_baseOf_14 rfl (lv_at hl 0 rfl) ?_
      refine va_get (D := D) (ci := 3) (v := .int (gi q_2.2 4)) (C := R_Nt) (T := F_Nt) (N := 13) hx hb hts (fun w h => List.mem_cons_of_mem _ (in_Nt w h)) hown hK hP 3 rfl rfl 1 (by decide) (hts _ (List.mem_cons_of_mem _ wd_141)) (fun _ h9 => h9) rfl d_Nt_baseOf_15 ?_
      refine lv_icmp_eq (tgt := 33) hx hb d_Nt_baseOf_18 (by decide) (fun c_3 => ?_) (fun c_3 => ?_)
      · rw [if_pos c_3] at hf
        exact w_Nt_baseOf_33 C0 hret    x2 q_2.2 H locs ls hP hD hS (lv_sub hl [1] rfl) hf
      · rw [if_neg c_3] at hf
        refine lv_iload_n hx hb d_Nt_baseOf_21 rfl (lv_at hl 1 rfl) ?_
        refine lv_iconst (v := 1) hx hb d_Nt_baseOf_22 (by decide) ?_
        obtain ⟨q_4, hq_4, hf⟩ := bd_some hf
        refine kc_i (va_runS (As := [.int x2, .int 1]) (rest := []) ⟨hx, hb, hml, hown, hts⟩ (c_Nt_ahead l D cA ob ad x2 1  q_2.2 hq_4 H.size) ⟨callB_of 2 hts (gd_Nt_ahead) rfl rfl rfl (hts _ (List.mem_cons_of_mem _ wd_67)) (hts _ (List.mem_cons_of_mem _ wd_359)) dd_Nt_ahead ⟨Nat.le_of_ble_eq_true rfl, Nat.le_of_ble_eq_true rfl⟩, (hts _ (List.mem_cons_of_mem _ wd_360))⟩ (kpS hK hP hD hN) rfl rfl hl.1 rfl (lv_room (Nat.le_of_ble_eq_true rfl)) d_Nt_baseOf_23 ⟨Nat.le_of_ble_eq_true rfl, Nat.le_of_ble_eq_true rfl⟩) hP hD hS hA (fun r w H locs hw hP hD hS => ?_)
        obtain ⟨rfl, rfl⟩ := hw
        refine lv_istore_n (lv' := [(2, .int q_4.1), (0, .ref (ob 3)), (3, .int x3)]) hx hb d_Nt_baseOf_26 rfl hl (by decide) rfl (fun ls hl => ?_)
        obtain ⟨x3_5, ex3_5, hf⟩ := bn_some hf
        refine lv_iinc (v := x3_5) (lv' := [(3, .int x3_5), (2, .int q_4.1), (0, .ref (ob 3))]) hx hb d_Nt_baseOf_27 hl (k := 2) rfl (by rw [ex3_5]; rfl) (by decide) rfl (fun ls hl => ?_)
        refine lv_goto (tgt := 4) hx hb d_Nt_baseOf_30 (by decide) ?_
        exact ih q_4.1 x3_5 q_4.2 H locs ls hP hD hS (lv_sub hl [2, 1, 0] rfl) hf
def f_Nt_baseOf_0   (x1 : Int32) (S : St) : Option (Int32 × St) :=
  f_Nt_baseOf_4   FU x1 0 S
set_option maxHeartbeats 4000000 in
set_option maxRecDepth 100000 in
theorem w_Nt_baseOf_0 (C0 : CX p s m args c b_Nt_baseOf 4 R_Nt w_Nt_baseOf D clC cA A) {res : (Int32 × St)} (hret : RTi p l e rm_Nt_baseOf s m args below meth c Q D clC A b_Nt_baseOf 0 0 (fun r w => r = res.1 ∧ w = cw cA ob ad res.2))    : ∀ (x1 : Int32) (S : St) (H : Heap) (locs : List Loc) (ls : Array Slot), va_P D clC (cw cA ob ad S) H → va_D A (cw cA ob ad S) → va_S A s.heap H locs → lv_has ls 4 [(0, .ref (ob 3)), (1, .int x1)] → f_Nt_baseOf_0   x1 S = some res → W p l e rm_Nt_baseOf s m args below meth c H locs 0 0 Q (F0 m 0 ls []) := by
  obtain ⟨hx, hb, hml, hown, hts, hK, hA, hN⟩ := id C0
  intro x1 S H locs ls hP hD hS hl hf
  rw [f_Nt_baseOf_0] at hf
  refine lv_iload_n hx hb d_Nt_baseOf_0 rfl (lv_at hl 1 rfl) ?_
  refine lv_istore_n (lv' := [(2, .int x1), (0, .ref (ob 3)), (1, .int x1)]) hx hb d_Nt_baseOf_1 rfl hl (by decide) rfl (fun ls hl => ?_)
  refine lv_iconst (v := 0) hx hb d_Nt_baseOf_2 (by decide) ?_
  refine lv_istore_n (lv' := [(3, .int 0), (2, .int x1), (0, .ref (ob 3)), (1, .int x1)]) hx hb d_Nt_baseOf_3 rfl hl (by decide) rfl (fun ls hl => ?_)
  exact w_Nt_baseOf_4 C0 hret    FU x1 0 S H locs ls hP hD hS (lv_sub hl [2, 1, 0] rfl) hf
def f_Nt_baseOf (x1 : Int32) (S : St) : Option (Int32 × St) := f_Nt_baseOf_0  x1 S
theorem c_Nt_baseOf (l : Launch) (D : va_G) (cA : ClassId) (ob ad : Nat → Nat) (x1 : Int32)  (S : St) {res : (Int32 × St)} (hf : f_Nt_baseOf x1 S = some res) : CTi l y_Nt_baseOf w_Nt_baseOf rm_Nt_baseOf 0 0 D clC [(cA, .int)] [.ref (ob 3), .int x1] (cw cA ob ad S) (fun r w => r = res.1 ∧ w = cw cA ob ad res.2) :=
  mk_i (cc := b_Nt_baseOf) (maxL := 4) (own := R_Nt) (by decide) rfl rfl (Nat.le_of_ble_eq_true rfl) (fun p e s m below meth c A Q C0 hret ls hl hP hD hS => w_Nt_baseOf_0 C0 hret   x1 S _ _ ls hP hD hS (lv_sub hl [0, 1] rfl) hf)
def f_Nt_endOf_0   (x1 : Int32) (S : St) : Option (Int32 × St) :=
  bd (f_Nt_ahead x1 1 S) (fun q_1 => bd (f_Nt_startOf q_1.1 q_1.2) (fun q_2 => some (q_2.1, q_2.2)))
set_option maxHeartbeats 4000000 in
set_option maxRecDepth 100000 in
theorem w_Nt_endOf_0 (C0 : CX p s m args c b_Nt_endOf 2 R_Nt w_Nt_endOf D clC cA A) {res : (Int32 × St)} (hret : RTi p l e rm_Nt_endOf s m args below meth c Q D clC A b_Nt_endOf 0 0 (fun r w => r = res.1 ∧ w = cw cA ob ad res.2))    : ∀ (x1 : Int32) (S : St) (H : Heap) (locs : List Loc) (ls : Array Slot), va_P D clC (cw cA ob ad S) H → va_D A (cw cA ob ad S) → va_S A s.heap H locs → lv_has ls 2 [(0, .ref (ob 3)), (1, .int x1)] → f_Nt_endOf_0   x1 S = some res → W p l e rm_Nt_endOf s m args below meth c H locs 0 0 Q (F0 m 0 ls []) := by
  obtain ⟨hx, hb, hml, hown, hts, hK, hA, hN⟩ := id C0
  intro x1 S H locs ls hP hD hS hl hf
  rw [f_Nt_endOf_0] at hf
  refine lv_aload_n hx hb d_Nt_endOf_0 rfl (lv_at hl 0 rfl) ?_
  refine lv_iload_n hx hb d_Nt_endOf_1 rfl (lv_at hl 1 rfl) ?_
  refine lv_iconst (v := 1) hx hb d_Nt_endOf_2 (by decide) ?_
  obtain ⟨q_1, hq_1, hf⟩ := bd_some hf
  refine kc_i (va_runS (As := [.int x1, .int 1]) (rest := [.ref (ob 3)]) ⟨hx, hb, hml, hown, hts⟩ (c_Nt_ahead l D cA ob ad x1 1  S hq_1 H.size) ⟨callB_of 2 hts (gd_Nt_ahead) rfl rfl rfl (hts _ (List.mem_cons_of_mem _ wd_67)) (hts _ (List.mem_cons_of_mem _ wd_359)) dd_Nt_ahead ⟨Nat.le_of_ble_eq_true rfl, Nat.le_of_ble_eq_true rfl⟩, (hts _ (List.mem_cons_of_mem _ wd_360))⟩ (kpS hK hP hD hN) rfl rfl hl.1 rfl (lv_room (Nat.le_of_ble_eq_true rfl)) d_Nt_endOf_3 ⟨Nat.le_of_ble_eq_true rfl, Nat.le_of_ble_eq_true rfl⟩) hP hD hS hA (fun r w H locs hw hP hD hS => ?_)
  obtain ⟨rfl, rfl⟩ := hw
  obtain ⟨q_2, hq_2, hf⟩ := bd_some hf
  refine kc_i (va_runV (As := [.int q_1.1]) (rest := []) ⟨hx, hb, hml, hown, hts⟩ (c_Nt_startOf l D cA ob ad q_1.1  q_1.2 hq_2 H.size) ⟨callB_of 1 hts (gd_Nt_startOf) rfl rfl rfl (hts _ (List.mem_cons_of_mem _ wd_67)) (hts _ (List.mem_cons_of_mem _ wd_362)) dd_Nt_startOf ⟨Nat.le_of_ble_eq_true rfl, Nat.le_of_ble_eq_true rfl⟩, (hts _ (List.mem_cons_of_mem _ wd_363)), (hts _ (List.mem_cons_of_mem _ wd_364))⟩ (kpV hK hP hD hN 3 3 rfl rfl) rfl rfl hl.1 rfl (lv_room (Nat.le_of_ble_eq_true rfl)) d_Nt_endOf_6 ⟨Nat.le_of_ble_eq_true rfl, Nat.le_of_ble_eq_true rfl⟩) hP hD hS hA (fun r w H locs hw hP hD hS => ?_)
  obtain ⟨rfl, rfl⟩ := hw
  cases hf
  exact hret _ _ _ _ _ _ ⟨rfl, rfl⟩ hP hD hS d_Nt_endOf_9
def f_Nt_endOf (x1 : Int32) (S : St) : Option (Int32 × St) := f_Nt_endOf_0  x1 S
theorem c_Nt_endOf (l : Launch) (D : va_G) (cA : ClassId) (ob ad : Nat → Nat) (x1 : Int32)  (S : St) {res : (Int32 × St)} (hf : f_Nt_endOf x1 S = some res) : CTi l y_Nt_endOf w_Nt_endOf rm_Nt_endOf 0 0 D clC [(cA, .int)] [.ref (ob 3), .int x1] (cw cA ob ad S) (fun r w => r = res.1 ∧ w = cw cA ob ad res.2) :=
  mk_i (cc := b_Nt_endOf) (maxL := 2) (own := R_Nt) (by decide) rfl rfl (Nat.le_of_ble_eq_true rfl) (fun p e s m below meth c A Q C0 hret ls hl hP hD hS => w_Nt_endOf_0 C0 hret   x1 S _ _ ls hP hD hS (lv_sub hl [0, 1] rfl) hf)
def f_Nt_wayOut_3   : Nat → Int32 → Int32 → Int32 → Int32 → St → Option (Int32 × St)
  | 0 => fun _ _ _ _ _ => none
  | n + 1 => fun x1 x2 x3 x4 S => (if 3 ≤ x4 then
      some ((-1), S)
      else
      bd (f_Nt_ahead x1 x4 S) (fun q_2 => bd (f_Nt_startOf q_2.1 q_2.2) (fun q_3 => bd (f_Nt_endOf q_2.1 q_3.2) (fun q_4 => bd (f_Pt_turn q_3.1 q_4.1 x2 x3 q_4.2) (fun q_5 => (if 0 ≤ (lg_cmp q_5.1 0) then
        bn (x4 + 1) (fun x4_7 => f_Nt_wayOut_3  n x1 x2 x3 x4_7 q_5.2)
        else
        some (q_2.1, q_5.2)))))))
set_option maxHeartbeats 4000000 in
set_option maxRecDepth 100000 in
theorem w_Nt_wayOut_3 (C0 : CX p s m args c b_Nt_wayOut 6 R_Nt w_Nt_wayOut D clC cA A) {res : (Int32 × St)} (hret : RTi p l e rm_Nt_wayOut s m args below meth c Q D clC A b_Nt_wayOut 0 0 (fun r w => r = res.1 ∧ w = cw cA ob ad res.2))    : ∀ (n : Nat) (x1 : Int32) (x2 : Int32) (x3 : Int32) (x4 : Int32) (S : St) (H : Heap) (locs : List Loc) (ls : Array Slot), va_P D clC (cw cA ob ad S) H → va_D A (cw cA ob ad S) → va_S A s.heap H locs → lv_has ls 6 [(0, .ref (ob 3)), (1, .int x1), (2, .int x2), (3, .int x3), (4, .int x4)] → f_Nt_wayOut_3   n x1 x2 x3 x4 S = some res → W p l e rm_Nt_wayOut s m args below meth c H locs 0 0 Q (F0 m 3 ls []) := by
  obtain ⟨hx, hb, hml, hown, hts, hK, hA, hN⟩ := id C0
  intro n
  induction n with
  | zero =>
    intro x1 x2 x3 x4 S H locs ls hP hD hS hl hf
    cases hf
  | succ n ih =>
    intro x1 x2 x3 x4 S H locs ls hP hD hS hl hf
    rw [f_Nt_wayOut_3] at hf
    try dsimp only at hf
    refine lv_iload hx hb d_Nt_wayOut_3 (lv_at hl 4 rfl) ?_
    refine lv_iconst (v := 3) hx hb d_Nt_wayOut_5 (by decide) ?_
    refine lv_icmp_ge (tgt := 52) hx hb d_Nt_wayOut_6 (by decide) (fun c_1 => ?_) (fun c_1 => ?_)
    · rw [if_pos c_1] at hf
      refine lv_iconst (v := (-1)) hx hb d_Nt_wayOut_52 (by decide) ?_
      cases hf
      exact hret _ _ _ _ _ _ ⟨rfl, rfl⟩ hP hD hS d_Nt_wayOut_53
    · rw [if_neg c_1] at hf
      refine lv_iload_n hx hb d_Nt_wayOut_9 rfl (lv_at hl 1 rfl) ?_
      refine lv_iload hx hb d_Nt_wayOut_10 (lv_at hl 4 rfl) ?_
      obtain ⟨q_2, hq_2, hf⟩ := bd_some hf
      refine kc_i (va_runS (As := [.int x1, .int x4]) (rest := []) ⟨hx, hb, hml, hown, hts⟩ (c_Nt_ahead l D cA ob ad x1 x4  S hq_2 H.size) ⟨callB_of 2 hts (gd_Nt_ahead) rfl rfl rfl (hts _ (List.mem_cons_of_mem _ wd_67)) (hts _ (List.mem_cons_of_mem _ wd_359)) dd_Nt_ahead ⟨Nat.le_of_ble_eq_true rfl, Nat.le_of_ble_eq_true rfl⟩, (hts _ (List.mem_cons_of_mem _ wd_360))⟩ (kpS hK hP hD hN) rfl rfl hl.1 rfl (lv_room (Nat.le_of_ble_eq_true rfl)) d_Nt_wayOut_12 ⟨Nat.le_of_ble_eq_true rfl, Nat.le_of_ble_eq_true rfl⟩) hP hD hS hA (fun r w H locs hw hP hD hS => ?_)
      obtain ⟨rfl, rfl⟩ := hw
      refine lv_istore (lv' := [(5, .int q_2.1), (0, .ref (ob 3)), (1, .int x1), (2, .int x2), (3, .int x3), (4, .int x4)]) hx hb d_Nt_wayOut_15 hl (by decide) rfl (fun ls hl => ?_)
      refine lv_aload_n hx hb d_Nt_wayOut_17 rfl (lv_at hl 1 rfl) ?_
      refine va_get (D := D) (ci := 3) (v := .ref (ob 1)) (C := R_Nt) (T := F_Nt) (N := 13) hx hb hts (fun w h => List.mem_cons_of_mem _ (in_Nt w h)) hown hK hP 3 rfl rfl 0 (by decide) (hts _ (List.mem_cons_of_mem _ wd_140)) (fun _ h9 => h9) rfl d_Nt_wayOut_18 ?_
      refine lv_aload_n hx hb d_Nt_wayOut_21 rfl (lv_at hl 1 rfl) ?_
      refine lv_iload hx hb d_Nt_wayOut_22 (lv_at hl 0 rfl) ?_
      obtain ⟨q_3, hq_3, hf⟩ := bd_some hf
      refine kc_i (va_runV (As := [.int q_2.1]) (rest := [.ref (ob 1)]) ⟨hx, hb, hml, hown, hts⟩ (c_Nt_startOf l D cA ob ad q_2.1  q_2.2 hq_3 H.size) ⟨callB_of 1 hts (gd_Nt_startOf) rfl rfl rfl (hts _ (List.mem_cons_of_mem _ wd_67)) (hts _ (List.mem_cons_of_mem _ wd_362)) dd_Nt_startOf ⟨Nat.le_of_ble_eq_true rfl, Nat.le_of_ble_eq_true rfl⟩, (hts _ (List.mem_cons_of_mem _ wd_363)), (hts _ (List.mem_cons_of_mem _ wd_364))⟩ (kpV hK hP hD hN 3 3 rfl rfl) rfl rfl hl.1 rfl (lv_room (Nat.le_of_ble_eq_true rfl)) d_Nt_wayOut_24 ⟨Nat.le_of_ble_eq_true rfl, Nat.le_of_ble_eq_true rfl⟩) hP hD hS hA (fun r w H locs hw hP hD hS => ?_)
      obtain ⟨rfl, rfl⟩ := hw
      refine lv_aload_n hx hb d_Nt_wayOut_27 rfl (lv_at hl 1 rfl) ?_
      refine lv_iload hx hb d_Nt_wayOut_28 (lv_at hl 0 rfl) ?_
      obtain ⟨q_4, hq_4, hf⟩ := bd_some hf
      refine kc_i (va_runV (As := [.int q_2.1]) (rest := [.int q_3.1, .ref (ob 1)]) ⟨hx, hb, hml, hown, hts⟩ (c_Nt_endOf l D cA ob ad q_2.1  q_3.2 hq_4 H.size) ⟨callB_of 1 hts (gd_Nt_endOf) rfl rfl rfl (hts _ (List.mem_cons_of_mem _ wd_67)) (hts _ (List.mem_cons_of_mem _ wd_355)) dd_Nt_endOf ⟨Nat.le_of_ble_eq_true rfl, Nat.le_of_ble_eq_true rfl⟩, (hts _ (List.mem_cons_of_mem _ wd_356)), (hts _ (List.mem_cons_of_mem _ wd_357))⟩ (kpV hK hP hD hN 3 3 rfl rfl) rfl rfl hl.1 rfl (lv_room (Nat.le_of_ble_eq_true rfl)) d_Nt_wayOut_30 ⟨Nat.le_of_ble_eq_true rfl, Nat.le_of_ble_eq_true rfl⟩) hP hD hS hA (fun r w H locs hw hP hD hS => ?_)
      obtain ⟨rfl, rfl⟩ := hw
      refine lv_iload_n hx hb d_Nt_wayOut_33 rfl (lv_at hl 3 rfl) ?_
      refine lv_iload_n hx hb d_Nt_wayOut_34 rfl (lv_at hl 4 rfl) ?_
      obtain ⟨q_5, hq_5, hf⟩ := bd_some hf
      refine kc_l (va_runV (As := [.int q_3.1, .int q_4.1, .int x2, .int x3]) (rest := []) ⟨hx, hb, hml, hown, hts⟩ (c_Pt_turn l D cA ob ad q_3.1 q_4.1 x2 x3  q_4.2 hq_5 H.size) ⟨callB_of 4 hts (gd_Pt_turn) rfl rfl rfl (hts _ (List.mem_cons_of_mem _ wd_64)) (hts _ (List.mem_cons_of_mem _ wd_558)) dd_Pt_turn ⟨Nat.le_of_ble_eq_true rfl, Nat.le_of_ble_eq_true rfl⟩, (hts _ (List.mem_cons_of_mem _ wd_382)), (hts _ (List.mem_cons_of_mem _ wd_383))⟩ (kpV hK hP hD hN 1 1 rfl rfl) rfl rfl hl.1 rfl (lv_room (Nat.le_of_ble_eq_true rfl)) d_Nt_wayOut_35 ⟨Nat.le_of_ble_eq_true rfl, Nat.le_of_ble_eq_true rfl⟩) hP hD hS hA (fun r w H locs hw hP hD hS => ?_)
      obtain ⟨rfl, rfl⟩ := hw
      refine lv_lconst (v := 0) hx hb d_Nt_wayOut_38 (by decide) ?_
      refine W.lcmp hx hb d_Nt_wayOut_39 ?_
      refine lv_if_ge (tgt := 46) hx hb d_Nt_wayOut_40 (by decide) (fun c_6 => ?_) (fun c_6 => ?_)
      · rw [if_pos c_6] at hf
        obtain ⟨x4_7, ex4_7, hf⟩ := bn_some hf
        refine lv_iinc (v := x4_7) (lv' := [(4, .int x4_7), (5, .int q_2.1), (0, .ref (ob 3)), (1, .int x1), (2, .int x2), (3, .int x3)]) hx hb d_Nt_wayOut_46 hl (k := 5) rfl (by rw [ex4_7]; rfl) (by decide) rfl (fun ls hl => ?_)
        refine lv_goto (tgt := 3) hx hb d_Nt_wayOut_49 (by decide) ?_
        exact ih x1 x2 x3 x4_7 q_5.2 H locs ls hP hD hS (lv_sub hl [2, 3, 4, 5, 0] rfl) hf
      · rw [if_neg c_6] at hf
        refine lv_iload hx hb d_Nt_wayOut_43 (lv_at hl 0 rfl) ?_
        cases hf
        exact hret _ _ _ _ _ _ ⟨rfl, rfl⟩ hP hD hS d_Nt_wayOut_45
def f_Nt_wayOut_0   (x1 : Int32) (x2 : Int32) (x3 : Int32) (S : St) : Option (Int32 × St) :=
  f_Nt_wayOut_3   FU x1 x2 x3 0 S
set_option maxHeartbeats 4000000 in
set_option maxRecDepth 100000 in
theorem w_Nt_wayOut_0 (C0 : CX p s m args c b_Nt_wayOut 6 R_Nt w_Nt_wayOut D clC cA A) {res : (Int32 × St)} (hret : RTi p l e rm_Nt_wayOut s m args below meth c Q D clC A b_Nt_wayOut 0 0 (fun r w => r = res.1 ∧ w = cw cA ob ad res.2))    : ∀ (x1 : Int32) (x2 : Int32) (x3 : Int32) (S : St) (H : Heap) (locs : List Loc) (ls : Array Slot), va_P D clC (cw cA ob ad S) H → va_D A (cw cA ob ad S) → va_S A s.heap H locs → lv_has ls 6 [(0, .ref (ob 3)), (1, .int x1), (2, .int x2), (3, .int x3)] → f_Nt_wayOut_0   x1 x2 x3 S = some res → W p l e rm_Nt_wayOut s m args below meth c H locs 0 0 Q (F0 m 0 ls []) := by
  obtain ⟨hx, hb, hml, hown, hts, hK, hA, hN⟩ := id C0
  intro x1 x2 x3 S H locs ls hP hD hS hl hf
  rw [f_Nt_wayOut_0] at hf
  refine lv_iconst (v := 0) hx hb d_Nt_wayOut_0 (by decide) ?_
  refine lv_istore (lv' := [(4, .int 0), (0, .ref (ob 3)), (1, .int x1), (2, .int x2), (3, .int x3)]) hx hb d_Nt_wayOut_1 hl (by decide) rfl (fun ls hl => ?_)
  exact w_Nt_wayOut_3 C0 hret    FU x1 x2 x3 0 S H locs ls hP hD hS (lv_sub hl [1, 2, 3, 4, 0] rfl) hf
def f_Nt_wayOut (x1 : Int32) (x2 : Int32) (x3 : Int32) (S : St) : Option (Int32 × St) := f_Nt_wayOut_0  x1 x2 x3 S
theorem c_Nt_wayOut (l : Launch) (D : va_G) (cA : ClassId) (ob ad : Nat → Nat) (x1 : Int32) (x2 : Int32) (x3 : Int32)  (S : St) {res : (Int32 × St)} (hf : f_Nt_wayOut x1 x2 x3 S = some res) : CTi l y_Nt_wayOut w_Nt_wayOut rm_Nt_wayOut 0 0 D clC [(cA, .int)] [.ref (ob 3), .int x1, .int x2, .int x3] (cw cA ob ad S) (fun r w => r = res.1 ∧ w = cw cA ob ad res.2) :=
  mk_i (cc := b_Nt_wayOut) (maxL := 6) (own := R_Nt) (by decide) rfl rfl (Nat.le_of_ble_eq_true rfl) (fun p e s m below meth c A Q C0 hret ls hl hP hD hS => w_Nt_wayOut_0 C0 hret   x1 x2 x3 S _ _ ls hP hD hS (lv_sub hl [0, 1, 2, 3] rfl) hf)
def f_Nt_holder_37   : Nat → Int32 → Int32 → Int32 → Int32 → St → Option (Int32 × St)
  | 0 => fun _ _ _ _ _ => none
  | n + 1 => fun x2 x3 x4 x5 S => (if (gi S 6) ≤ x5 then
      some (x4, S)
      else
      bd (f_Nt_isOuter x4 S) (fun q_2 => (if q_2.1 = 0 then
        bd (f_Nt_wayOut x4 x2 x3 q_2.2) (fun q_4 => (if q_4.1 = (-1) then
          some (x4, q_4.2)
          else
          bd (f_Pn_read 10 q_4.1 q_4.2) (fun q_6 => bn (x5 + 1) (fun x5_7 => f_Nt_holder_37  n x2 x3 q_6.1 x5_7 q_6.2))))
        else
        some (x4, q_2.2))))
set_option maxHeartbeats 4000000 in
set_option maxRecDepth 100000 in
theorem w_Nt_holder_37 (C0 : CX p s m args c b_Nt_holder 7 R_Nt w_Nt_holder D clC cA A) {res : (Int32 × St)} (hret : RTi p l e rm_Nt_holder s m args below meth c Q D clC A b_Nt_holder 0 0 (fun r w => r = res.1 ∧ w = cw cA ob ad res.2))    : ∀ (n : Nat) (x2 : Int32) (x3 : Int32) (x4 : Int32) (x5 : Int32) (S : St) (H : Heap) (locs : List Loc) (ls : Array Slot), va_P D clC (cw cA ob ad S) H → va_D A (cw cA ob ad S) → va_S A s.heap H locs → lv_has ls 7 [(0, .ref (ob 3)), (2, .int x2), (3, .int x3), (4, .int x4), (5, .int x5)] → f_Nt_holder_37   n x2 x3 x4 x5 S = some res → W p l e rm_Nt_holder s m args below meth c H locs 0 0 Q (F0 m 37 ls []) := by
  obtain ⟨hx, hb, hml, hown, hts, hK, hA, hN⟩ := id C0
  intro n
  induction n with
  | zero =>
    intro x2 x3 x4 x5 S H locs ls hP hD hS hl hf
    cases hf
  | succ n ih =>
    intro x2 x3 x4 x5 S H locs ls hP hD hS hl hf
    rw [f_Nt_holder_37] at hf
    try dsimp only at hf
    refine lv_iload hx hb d_Nt_holder_37 (lv_at hl 4 rfl) ?_
    refine lv_aload_n hx hb d_Nt_holder_39 rfl (lv_at hl 0 rfl) ?_
    refine va_get (D := D) (ci := 3) (v := .int (gi S 6)) (C := R_Nt) (T := F_Nt) (N := 13) hx hb hts (fun w h => List.mem_cons_of_mem _ (in_Nt w h)) hown hK hP 3 rfl rfl 9 (by decide) (hts _ (List.mem_cons_of_mem _ wd_149)) (fun _ h9 => h9) rfl d_Nt_holder_40 ?_
    refine lv_icmp_ge (tgt := 91) hx hb d_Nt_holder_43 (by decide) (fun c_1 => ?_) (fun c_1 => ?_)
    · rw [if_pos c_1] at hf
      refine lv_iload hx hb d_Nt_holder_91 (lv_at hl 3 rfl) ?_
      cases hf
      exact hret _ _ _ _ _ _ ⟨rfl, rfl⟩ hP hD hS d_Nt_holder_93
    · rw [if_neg c_1] at hf
      refine lv_aload_n hx hb d_Nt_holder_46 rfl (lv_at hl 0 rfl) ?_
      refine lv_iload hx hb d_Nt_holder_47 (lv_at hl 3 rfl) ?_
      obtain ⟨q_2, hq_2, hf⟩ := bd_some hf
      refine kc_i (va_runV (As := [.int x4]) (rest := []) ⟨hx, hb, hml, hown, hts⟩ (c_Nt_isOuter l D cA ob ad x4  S hq_2 H.size) ⟨callB_of 1 hts (gd_Nt_isOuter) rfl rfl rfl (hts _ (List.mem_cons_of_mem _ wd_67)) (hts _ (List.mem_cons_of_mem _ wd_546)) dd_Nt_isOuter ⟨Nat.le_of_ble_eq_true rfl, Nat.le_of_ble_eq_true rfl⟩, (hts _ (List.mem_cons_of_mem _ wd_547)), (hts _ (List.mem_cons_of_mem _ wd_548))⟩ (kpV hK hP hD hN 3 3 rfl rfl) rfl rfl hl.1 rfl (lv_room (Nat.le_of_ble_eq_true rfl)) d_Nt_holder_49 ⟨Nat.le_of_ble_eq_true rfl, Nat.le_of_ble_eq_true rfl⟩) hP hD hS hA (fun r w H locs hw hP hD hS => ?_)
      obtain ⟨rfl, rfl⟩ := hw
      refine lv_if_ne (tgt := 91) hx hb d_Nt_holder_52 (by decide) (fun c_3 => ?_) (fun c_3 => ?_)
      · rw [if_neg c_3] at hf
        refine lv_iload hx hb d_Nt_holder_91 (lv_at hl 3 rfl) ?_
        cases hf
        exact hret _ _ _ _ _ _ ⟨rfl, rfl⟩ hP hD hS d_Nt_holder_93
      · rw [if_pos c_3] at hf
        refine lv_aload_n hx hb d_Nt_holder_55 rfl (lv_at hl 0 rfl) ?_
        refine lv_iload hx hb d_Nt_holder_56 (lv_at hl 3 rfl) ?_
        refine lv_iload_n hx hb d_Nt_holder_58 rfl (lv_at hl 1 rfl) ?_
        refine lv_iload_n hx hb d_Nt_holder_59 rfl (lv_at hl 2 rfl) ?_
        obtain ⟨q_4, hq_4, hf⟩ := bd_some hf
        refine kc_i (va_runV (As := [.int x4, .int x2, .int x3]) (rest := []) ⟨hx, hb, hml, hown, hts⟩ (c_Nt_wayOut l D cA ob ad x4 x2 x3  q_2.2 hq_4 H.size) ⟨callB_of 3 hts (gd_Nt_wayOut) rfl rfl rfl (hts _ (List.mem_cons_of_mem _ wd_67)) (hts _ (List.mem_cons_of_mem _ wd_554)) dd_Nt_wayOut ⟨Nat.le_of_ble_eq_true rfl, Nat.le_of_ble_eq_true rfl⟩, (hts _ (List.mem_cons_of_mem _ wd_556)), (hts _ (List.mem_cons_of_mem _ wd_17))⟩ (kpV hK hP hD hN 3 3 rfl rfl) rfl rfl hl.1 rfl (lv_room (Nat.le_of_ble_eq_true rfl)) d_Nt_holder_60 ⟨Nat.le_of_ble_eq_true rfl, Nat.le_of_ble_eq_true rfl⟩) hP hD hS hA (fun r w H locs hw hP hD hS => ?_)
        obtain ⟨rfl, rfl⟩ := hw
        refine lv_istore (lv' := [(6, .int q_4.1), (0, .ref (ob 3)), (2, .int x2), (3, .int x3), (4, .int x4), (5, .int x5)]) hx hb d_Nt_holder_63 hl (by decide) rfl (fun ls hl => ?_)
        refine lv_iload hx hb d_Nt_holder_65 (lv_at hl 0 rfl) ?_
        refine lv_iconst (v := (-1)) hx hb d_Nt_holder_67 (by decide) ?_
        refine lv_icmp_ne (tgt := 74) hx hb d_Nt_holder_68 (by decide) (fun c_5 => ?_) (fun c_5 => ?_)
        · rw [if_neg c_5] at hf
          refine lv_aload_n hx hb d_Nt_holder_74 rfl (lv_at hl 1 rfl) ?_
          refine va_get (D := D) (ci := 3) (v := .ref (ad 10)) (C := R_Nt) (T := F_Nt) (N := 13) hx hb hts (fun w h => List.mem_cons_of_mem _ (in_Nt w h)) hown hK hP 3 rfl rfl 3 (by decide) (hts _ (List.mem_cons_of_mem _ wd_143)) (fun _ h9 => h9) rfl d_Nt_holder_75 ?_
          refine lv_iload hx hb d_Nt_holder_78 (lv_at hl 0 rfl) ?_
          obtain ⟨q_6, hq_6, hf⟩ := bd_some hf
          refine kc_i (va_runSN (As := [.ref (ad 10), .int q_4.1]) (rest := []) ⟨hx, hb, hml, hown, hts⟩ (c_Pn_read l D cA ob ad 10 q_4.1 (by decide) q_4.2 hq_6 H.size) ⟨va_cnB 2 hts (gd_Pn_read) rfl rfl rfl (nw_1 hN) (hts _ (List.mem_cons_of_mem _ wd_63)) dd_Pn_read ⟨Nat.le_of_ble_eq_true rfl, Nat.le_of_ble_eq_true rfl⟩, (hts _ (List.mem_cons_of_mem _ wd_353)), trivial⟩ (kpS hK hP hD hN) rfl rfl hl.1 rfl (lv_room (Nat.le_of_ble_eq_true rfl)) d_Nt_holder_80 ⟨Nat.le_of_ble_eq_true rfl, Nat.le_of_ble_eq_true rfl⟩) hP hD hS hA (fun r w H locs hw hP hD hS => ?_)
          obtain ⟨rfl, rfl⟩ := hw
          refine lv_istore (lv' := [(4, .int q_6.1), (6, .int q_4.1), (0, .ref (ob 3)), (2, .int x2), (3, .int x3), (5, .int x5)]) hx hb d_Nt_holder_83 hl (by decide) rfl (fun ls hl => ?_)
          obtain ⟨x5_7, ex5_7, hf⟩ := bn_some hf
          refine lv_iinc (v := x5_7) (lv' := [(5, .int x5_7), (4, .int q_6.1), (6, .int q_4.1), (0, .ref (ob 3)), (2, .int x2), (3, .int x3)]) hx hb d_Nt_holder_85 hl (k := 5) rfl (by rw [ex5_7]; rfl) (by decide) rfl (fun ls hl => ?_)
          refine lv_goto (tgt := 37) hx hb d_Nt_holder_88 (by decide) ?_
          exact ih x2 x3 q_6.1 x5_7 q_6.2 H locs ls hP hD hS (lv_sub hl [3, 4, 5, 1, 0] rfl) hf
        · rw [if_pos c_5] at hf
          refine lv_iload hx hb d_Nt_holder_71 (lv_at hl 4 rfl) ?_
          cases hf
          exact hret _ _ _ _ _ _ ⟨rfl, rfl⟩ hP hD hS d_Nt_holder_73
def f_Nt_holder_34   (x2 : Int32) (x3 : Int32) (x4 : Int32) (S : St) : Option (Int32 × St) :=
  f_Nt_holder_37   FU x2 x3 x4 0 S
set_option maxHeartbeats 4000000 in
set_option maxRecDepth 100000 in
theorem w_Nt_holder_34 (C0 : CX p s m args c b_Nt_holder 7 R_Nt w_Nt_holder D clC cA A) {res : (Int32 × St)} (hret : RTi p l e rm_Nt_holder s m args below meth c Q D clC A b_Nt_holder 0 0 (fun r w => r = res.1 ∧ w = cw cA ob ad res.2))    : ∀ (x2 : Int32) (x3 : Int32) (x4 : Int32) (S : St) (H : Heap) (locs : List Loc) (ls : Array Slot), va_P D clC (cw cA ob ad S) H → va_D A (cw cA ob ad S) → va_S A s.heap H locs → lv_has ls 7 [(0, .ref (ob 3)), (2, .int x2), (3, .int x3), (4, .int x4)] → f_Nt_holder_34   x2 x3 x4 S = some res → W p l e rm_Nt_holder s m args below meth c H locs 0 0 Q (F0 m 34 ls []) := by
  obtain ⟨hx, hb, hml, hown, hts, hK, hA, hN⟩ := id C0
  intro x2 x3 x4 S H locs ls hP hD hS hl hf
  rw [f_Nt_holder_34] at hf
  refine lv_iconst (v := 0) hx hb d_Nt_holder_34 (by decide) ?_
  refine lv_istore (lv' := [(5, .int 0), (0, .ref (ob 3)), (2, .int x2), (3, .int x3), (4, .int x4)]) hx hb d_Nt_holder_35 hl (by decide) rfl (fun ls hl => ?_)
  exact w_Nt_holder_37 C0 hret    FU x2 x3 x4 0 S H locs ls hP hD hS (lv_sub hl [1, 2, 3, 4, 0] rfl) hf
def f_Nt_holder_0   (x1 : Int32) (x2 : Int32) (x3 : Int32) (S : St) : Option (Int32 × St) :=
  bd (f_Pn_read 11 x1 S) (fun q_1 => bd (f_Nt_isOuter q_1.1 q_1.2) (fun q_2 => (if q_2.1 = 0 then
    f_Nt_holder_34   x2 x3 q_1.1 q_2.2
    else
    bd (f_Nt_baseOf q_1.1 q_2.2) (fun q_4 => bd (f_Pn_read 10 q_4.1 q_4.2) (fun q_5 => f_Nt_holder_34   x2 x3 q_5.1 q_5.2)))))
set_option maxHeartbeats 4000000 in
set_option maxRecDepth 100000 in
theorem w_Nt_holder_0 (C0 : CX p s m args c b_Nt_holder 7 R_Nt w_Nt_holder D clC cA A) {res : (Int32 × St)} (hret : RTi p l e rm_Nt_holder s m args below meth c Q D clC A b_Nt_holder 0 0 (fun r w => r = res.1 ∧ w = cw cA ob ad res.2))    : ∀ (x1 : Int32) (x2 : Int32) (x3 : Int32) (S : St) (H : Heap) (locs : List Loc) (ls : Array Slot), va_P D clC (cw cA ob ad S) H → va_D A (cw cA ob ad S) → va_S A s.heap H locs → lv_has ls 7 [(0, .ref (ob 3)), (1, .int x1), (2, .int x2), (3, .int x3)] → f_Nt_holder_0   x1 x2 x3 S = some res → W p l e rm_Nt_holder s m args below meth c H locs 0 0 Q (F0 m 0 ls []) := by
  obtain ⟨hx, hb, hml, hown, hts, hK, hA, hN⟩ := id C0
  intro x1 x2 x3 S H locs ls hP hD hS hl hf
  rw [f_Nt_holder_0] at hf
  refine lv_aload_n hx hb d_Nt_holder_0 rfl (lv_at hl 0 rfl) ?_
  refine va_get (D := D) (ci := 3) (v := .ref (ad 11)) (C := R_Nt) (T := F_Nt) (N := 13) hx hb hts (fun w h => List.mem_cons_of_mem _ (in_Nt w h)) hown hK hP 3 rfl rfl 4 (by decide) (hts _ (List.mem_cons_of_mem _ wd_144)) (fun _ h9 => h9) rfl d_Nt_holder_1 ?_
  refine lv_iload_n hx hb d_Nt_holder_4 rfl (lv_at hl 1 rfl) ?_
  obtain ⟨q_1, hq_1, hf⟩ := bd_some hf
  refine kc_i (va_runSN (As := [.ref (ad 11), .int x1]) (rest := []) ⟨hx, hb, hml, hown, hts⟩ (c_Pn_read l D cA ob ad 11 x1 (by decide) S hq_1 H.size) ⟨va_cnB 2 hts (gd_Pn_read) rfl rfl rfl (nw_1 hN) (hts _ (List.mem_cons_of_mem _ wd_63)) dd_Pn_read ⟨Nat.le_of_ble_eq_true rfl, Nat.le_of_ble_eq_true rfl⟩, (hts _ (List.mem_cons_of_mem _ wd_353)), trivial⟩ (kpS hK hP hD hN) rfl rfl hl.1 rfl (lv_room (Nat.le_of_ble_eq_true rfl)) d_Nt_holder_5 ⟨Nat.le_of_ble_eq_true rfl, Nat.le_of_ble_eq_true rfl⟩) hP hD hS hA (fun r w H locs hw hP hD hS => ?_)
  obtain ⟨rfl, rfl⟩ := hw
  refine lv_istore (lv' := [(4, .int q_1.1), (0, .ref (ob 3)), (1, .int x1), (2, .int x2), (3, .int x3)]) hx hb d_Nt_holder_8 hl (by decide) rfl (fun ls hl => ?_)
  refine lv_aload_n hx hb d_Nt_holder_10 rfl (lv_at hl 1 rfl) ?_
  refine lv_iload hx hb d_Nt_holder_11 (lv_at hl 0 rfl) ?_
  obtain ⟨q_2, hq_2, hf⟩ := bd_some hf
  refine kc_i (va_runV (As := [.int q_1.1]) (rest := []) ⟨hx, hb, hml, hown, hts⟩ (c_Nt_isOuter l D cA ob ad q_1.1  q_1.2 hq_2 H.size) ⟨callB_of 1 hts (gd_Nt_isOuter) rfl rfl rfl (hts _ (List.mem_cons_of_mem _ wd_67)) (hts _ (List.mem_cons_of_mem _ wd_546)) dd_Nt_isOuter ⟨Nat.le_of_ble_eq_true rfl, Nat.le_of_ble_eq_true rfl⟩, (hts _ (List.mem_cons_of_mem _ wd_547)), (hts _ (List.mem_cons_of_mem _ wd_548))⟩ (kpV hK hP hD hN 3 3 rfl rfl) rfl rfl hl.1 rfl (lv_room (Nat.le_of_ble_eq_true rfl)) d_Nt_holder_13 ⟨Nat.le_of_ble_eq_true rfl, Nat.le_of_ble_eq_true rfl⟩) hP hD hS hA (fun r w H locs hw hP hD hS => ?_)
  obtain ⟨rfl, rfl⟩ := hw
  refine lv_if_eq (tgt := 34) hx hb d_Nt_holder_16 (by decide) (fun c_3 => ?_) (fun c_3 => ?_)
  · rw [if_pos c_3] at hf
    exact w_Nt_holder_34 C0 hret    x2 x3 q_1.1 q_2.2 H locs ls hP hD hS (lv_sub hl [1, 3, 4, 0] rfl) hf
  · rw [if_neg c_3] at hf
    refine lv_aload_n hx hb d_Nt_holder_19 rfl (lv_at hl 1 rfl) ?_
    refine va_get (D := D) (ci := 3) (v := .ref (ad 10)) (C := R_Nt) (T := F_Nt) (N := 13) hx hb hts (fun w h => List.mem_cons_of_mem _ (in_Nt w h)) hown hK hP 3 rfl rfl 3 (by decide) (hts _ (List.mem_cons_of_mem _ wd_143)) (fun _ h9 => h9) rfl d_Nt_holder_20 ?_
    refine lv_aload_n hx hb d_Nt_holder_23 rfl (lv_at hl 1 rfl) ?_
    refine lv_iload hx hb d_Nt_holder_24 (lv_at hl 0 rfl) ?_
    obtain ⟨q_4, hq_4, hf⟩ := bd_some hf
    refine kc_i (va_runV (As := [.int q_1.1]) (rest := [.ref (ad 10)]) ⟨hx, hb, hml, hown, hts⟩ (c_Nt_baseOf l D cA ob ad q_1.1  q_2.2 hq_4 H.size) ⟨callB_of 1 hts (gd_Nt_baseOf) rfl rfl rfl (hts _ (List.mem_cons_of_mem _ wd_67)) (hts _ (List.mem_cons_of_mem _ wd_550)) dd_Nt_baseOf ⟨Nat.le_of_ble_eq_true rfl, Nat.le_of_ble_eq_true rfl⟩, (hts _ (List.mem_cons_of_mem _ wd_552)), (hts _ (List.mem_cons_of_mem _ wd_16))⟩ (kpV hK hP hD hN 3 3 rfl rfl) rfl rfl hl.1 rfl (lv_room (Nat.le_of_ble_eq_true rfl)) d_Nt_holder_26 ⟨Nat.le_of_ble_eq_true rfl, Nat.le_of_ble_eq_true rfl⟩) hP hD hS hA (fun r w H locs hw hP hD hS => ?_)
    obtain ⟨rfl, rfl⟩ := hw
    obtain ⟨q_5, hq_5, hf⟩ := bd_some hf
    refine kc_i (va_runSN (As := [.ref (ad 10), .int q_4.1]) (rest := []) ⟨hx, hb, hml, hown, hts⟩ (c_Pn_read l D cA ob ad 10 q_4.1 (by decide) q_4.2 hq_5 H.size) ⟨va_cnB 2 hts (gd_Pn_read) rfl rfl rfl (nw_1 hN) (hts _ (List.mem_cons_of_mem _ wd_63)) dd_Pn_read ⟨Nat.le_of_ble_eq_true rfl, Nat.le_of_ble_eq_true rfl⟩, (hts _ (List.mem_cons_of_mem _ wd_353)), trivial⟩ (kpS hK hP hD hN) rfl rfl hl.1 rfl (lv_room (Nat.le_of_ble_eq_true rfl)) d_Nt_holder_29 ⟨Nat.le_of_ble_eq_true rfl, Nat.le_of_ble_eq_true rfl⟩) hP hD hS hA (fun r w H locs hw hP hD hS => ?_)
    obtain ⟨rfl, rfl⟩ := hw
    refine lv_istore (lv' := [(4, .int q_5.1), (0, .ref (ob 3)), (1, .int x1), (2, .int x2), (3, .int x3)]) hx hb d_Nt_holder_32 hl (by decide) rfl (fun ls hl => ?_)
    exact w_Nt_holder_34 C0 hret    x2 x3 q_5.1 q_5.2 H locs ls hP hD hS (lv_sub hl [1, 3, 4, 0] rfl) hf
def f_Nt_holder (x1 : Int32) (x2 : Int32) (x3 : Int32) (S : St) : Option (Int32 × St) := f_Nt_holder_0  x1 x2 x3 S
theorem c_Nt_holder (l : Launch) (D : va_G) (cA : ClassId) (ob ad : Nat → Nat) (x1 : Int32) (x2 : Int32) (x3 : Int32)  (S : St) {res : (Int32 × St)} (hf : f_Nt_holder x1 x2 x3 S = some res) : CTi l y_Nt_holder w_Nt_holder rm_Nt_holder 0 0 D clC [(cA, .int)] [.ref (ob 3), .int x1, .int x2, .int x3] (cw cA ob ad S) (fun r w => r = res.1 ∧ w = cw cA ob ad res.2) :=
  mk_i (cc := b_Nt_holder) (maxL := 7) (own := R_Nt) (by decide) rfl rfl (Nat.le_of_ble_eq_true rfl) (fun p e s m below meth c A Q C0 hret ls hl hP hD hS => w_Nt_holder_0 C0 hret   x1 x2 x3 S _ _ ls hP hD hS (lv_sub hl [0, 1, 2, 3] rfl) hf)
def f_Nt_takeAway_0   (x1 : Int32) (S : St) : Option St :=
  bd (f_Pn_write 12 x1 (gi S 5) S) (fun q_1 => bd (f_Pn_write 13 (gi q_1 8) x1 q_1) (fun q_2 => bn (seti q_2 8 ((gi q_2 8) + 1)) (fun S_3 => bd (f_Nt_isOuter (3 * x1) S_3) (fun q_4 => (if q_4.1 = 0 then
    some q_4.2
    else
    bn (seti q_4.2 7 ((gi q_4.2 7) - 1)) (fun S_6 => some S_6))))))
set_option maxHeartbeats 4000000 in
set_option maxRecDepth 100000 in
theorem w_Nt_takeAway_0 (C0 : CX p s m args c b_Nt_takeAway 2 R_Nt w_Nt_takeAway D clC cA A) {res : St} (hret : RTv p l e rm_Nt_takeAway s m args below meth c Q D clC A b_Nt_takeAway 0 0 (fun w => w = cw cA ob ad res))    : ∀ (x1 : Int32) (S : St) (H : Heap) (locs : List Loc) (ls : Array Slot), va_P D clC (cw cA ob ad S) H → va_D A (cw cA ob ad S) → va_S A s.heap H locs → lv_has ls 2 [(0, .ref (ob 3)), (1, .int x1)] → f_Nt_takeAway_0   x1 S = some res → W p l e rm_Nt_takeAway s m args below meth c H locs 0 0 Q (F0 m 0 ls []) := by
  obtain ⟨hx, hb, hml, hown, hts, hK, hA, hN⟩ := id C0
  intro x1 S H locs ls hP hD hS hl hf
  rw [f_Nt_takeAway_0] at hf
  refine lv_aload_n hx hb d_Nt_takeAway_0 rfl (lv_at hl 0 rfl) ?_
  refine va_get (D := D) (ci := 3) (v := .ref (ad 12)) (C := R_Nt) (T := F_Nt) (N := 13) hx hb hts (fun w h => List.mem_cons_of_mem _ (in_Nt w h)) hown hK hP 3 rfl rfl 5 (by decide) (hts _ (List.mem_cons_of_mem _ wd_145)) (fun _ h9 => h9) rfl d_Nt_takeAway_1 ?_
  refine lv_iload_n hx hb d_Nt_takeAway_4 rfl (lv_at hl 1 rfl) ?_
  refine lv_aload_n hx hb d_Nt_takeAway_5 rfl (lv_at hl 0 rfl) ?_
  refine va_get (D := D) (ci := 3) (v := .int (gi S 5)) (C := R_Nt) (T := F_Nt) (N := 13) hx hb hts (fun w h => List.mem_cons_of_mem _ (in_Nt w h)) hown hK hP 3 rfl rfl 8 (by decide) (hts _ (List.mem_cons_of_mem _ wd_148)) (fun _ h9 => h9) rfl d_Nt_takeAway_6 ?_
  obtain ⟨q_1, hq_1, hf⟩ := bd_some hf
  refine kc_v (va_runSN (As := [.ref (ad 12), .int x1, .int (gi S 5)]) (rest := []) ⟨hx, hb, hml, hown, hts⟩ (c_Pn_write l D cA ob ad 12 x1 (gi S 5) (by decide) S hq_1 H.size) ⟨va_cnB 3 hts (gd_Pn_write) rfl rfl rfl (nw_3 hN) (hts _ (List.mem_cons_of_mem _ wd_63)) dd_Pn_write ⟨Nat.le_of_ble_eq_true rfl, Nat.le_of_ble_eq_true rfl⟩, (hts _ (List.mem_cons_of_mem _ wd_342)), trivial⟩ (kpS hK hP hD hN) rfl rfl hl.1 rfl (lv_room (Nat.le_of_ble_eq_true rfl)) d_Nt_takeAway_9 ⟨Nat.le_of_ble_eq_true rfl, Nat.le_of_ble_eq_true rfl⟩) hP hD hS hA (fun w H locs hw hP hD hS => ?_)
  obtain rfl := hw
  refine lv_aload_n hx hb d_Nt_takeAway_12 rfl (lv_at hl 0 rfl) ?_
  refine va_get (D := D) (ci := 3) (v := .ref (ad 13)) (C := R_Nt) (T := F_Nt) (N := 13) hx hb hts (fun w h => List.mem_cons_of_mem _ (in_Nt w h)) hown hK hP 3 rfl rfl 6 (by decide) (hts _ (List.mem_cons_of_mem _ wd_146)) (fun _ h9 => h9) rfl d_Nt_takeAway_13 ?_
  refine lv_aload_n hx hb d_Nt_takeAway_16 rfl (lv_at hl 0 rfl) ?_
  refine va_get (D := D) (ci := 3) (v := .int (gi q_1 8)) (C := R_Nt) (T := F_Nt) (N := 13) hx hb hts (fun w h => List.mem_cons_of_mem _ (in_Nt w h)) hown hK hP 3 rfl rfl 11 (by decide) (hts _ (List.mem_cons_of_mem _ wd_151)) (fun _ h9 => h9) rfl d_Nt_takeAway_17 ?_
  refine lv_iload_n hx hb d_Nt_takeAway_20 rfl (lv_at hl 1 rfl) ?_
  obtain ⟨q_2, hq_2, hf⟩ := bd_some hf
  refine kc_v (va_runSN (As := [.ref (ad 13), .int (gi q_1 8), .int x1]) (rest := []) ⟨hx, hb, hml, hown, hts⟩ (c_Pn_write l D cA ob ad 13 (gi q_1 8) x1 (by decide) q_1 hq_2 H.size) ⟨va_cnB 3 hts (gd_Pn_write) rfl rfl rfl (nw_3 hN) (hts _ (List.mem_cons_of_mem _ wd_63)) dd_Pn_write ⟨Nat.le_of_ble_eq_true rfl, Nat.le_of_ble_eq_true rfl⟩, (hts _ (List.mem_cons_of_mem _ wd_342)), trivial⟩ (kpS hK hP hD hN) rfl rfl hl.1 rfl (lv_room (Nat.le_of_ble_eq_true rfl)) d_Nt_takeAway_21 ⟨Nat.le_of_ble_eq_true rfl, Nat.le_of_ble_eq_true rfl⟩) hP hD hS hA (fun w H locs hw hP hD hS => ?_)
  obtain rfl := hw
  refine lv_aload_n hx hb d_Nt_takeAway_24 rfl (lv_at hl 0 rfl) ?_
  refine lv_dup hx hb d_Nt_takeAway_25 rfl ?_
  refine va_get (D := D) (ci := 3) (v := .int (gi q_2 8)) (C := R_Nt) (T := F_Nt) (N := 13) hx hb hts (fun w h => List.mem_cons_of_mem _ (in_Nt w h)) hown hK hP 3 rfl rfl 11 (by decide) (hts _ (List.mem_cons_of_mem _ wd_151)) (fun _ h9 => h9) rfl d_Nt_takeAway_26 ?_
  refine lv_iconst (v := 1) hx hb d_Nt_takeAway_29 (by decide) ?_
  refine lv_iadd hx hb d_Nt_takeAway_30 ?_
  obtain ⟨S_3, eS_3, hf⟩ := bn_some hf
  refine va_put (D := D) (ci := 3) (v := .int ((gi q_2 8) + 1)) (ty := .int) (C := R_Nt) (T := F_Nt) (N := 13) hx hb hts (fun w h => List.mem_cons_of_mem _ (in_Nt w h)) t_Nt tk_Nt nk_Nt hown hK hP hD hS 3 rfl rfl 11 (by decide) (hts _ (List.mem_cons_of_mem _ wd_151)) (fun _ h9 => h9) rfl (by decide +kernel) rfl rfl (Nat.le_of_ble_eq_true rfl) d_Nt_takeAway_31 (fun H locs hP hD hS => ?_)
  have hP : va_P D clC (cw cA ob ad S_3) H := by rw [eS_3]; exact hP
  have hD : va_D A (cw cA ob ad S_3) := by rw [eS_3]; exact hD
  refine lv_aload_n hx hb d_Nt_takeAway_34 rfl (lv_at hl 0 rfl) ?_
  refine lv_iconst (v := 3) hx hb d_Nt_takeAway_35 (by decide) ?_
  refine lv_iload_n hx hb d_Nt_takeAway_36 rfl (lv_at hl 1 rfl) ?_
  refine lv_imul hx hb d_Nt_takeAway_37 ?_
  obtain ⟨q_4, hq_4, hf⟩ := bd_some hf
  refine kc_i (va_runV (As := [.int (3 * x1)]) (rest := []) ⟨hx, hb, hml, hown, hts⟩ (c_Nt_isOuter l D cA ob ad (3 * x1)  S_3 hq_4 H.size) ⟨callB_of 1 hts (gd_Nt_isOuter) rfl rfl rfl (hts _ (List.mem_cons_of_mem _ wd_67)) (hts _ (List.mem_cons_of_mem _ wd_546)) dd_Nt_isOuter ⟨Nat.le_of_ble_eq_true rfl, Nat.le_of_ble_eq_true rfl⟩, (hts _ (List.mem_cons_of_mem _ wd_547)), (hts _ (List.mem_cons_of_mem _ wd_548))⟩ (kpV hK hP hD hN 3 3 rfl rfl) rfl rfl hl.1 rfl (lv_room (Nat.le_of_ble_eq_true rfl)) d_Nt_takeAway_38 ⟨Nat.le_of_ble_eq_true rfl, Nat.le_of_ble_eq_true rfl⟩) hP hD hS hA (fun r w H locs hw hP hD hS => ?_)
  obtain ⟨rfl, rfl⟩ := hw
  refine lv_if_eq (tgt := 54) hx hb d_Nt_takeAway_41 (by decide) (fun c_5 => ?_) (fun c_5 => ?_)
  · rw [if_pos c_5] at hf
    cases hf
    exact hret _ _ _ _ _ rfl hP hD hS d_Nt_takeAway_54
  · rw [if_neg c_5] at hf
    refine lv_aload_n hx hb d_Nt_takeAway_44 rfl (lv_at hl 0 rfl) ?_
    refine lv_dup hx hb d_Nt_takeAway_45 rfl ?_
    refine va_get (D := D) (ci := 3) (v := .int (gi q_4.2 7)) (C := R_Nt) (T := F_Nt) (N := 13) hx hb hts (fun w h => List.mem_cons_of_mem _ (in_Nt w h)) hown hK hP 3 rfl rfl 10 (by decide) (hts _ (List.mem_cons_of_mem _ wd_150)) (fun _ h9 => h9) rfl d_Nt_takeAway_46 ?_
    refine lv_iconst (v := 1) hx hb d_Nt_takeAway_49 (by decide) ?_
    refine lv_isub hx hb d_Nt_takeAway_50 ?_
    obtain ⟨S_6, eS_6, hf⟩ := bn_some hf
    refine va_put (D := D) (ci := 3) (v := .int ((gi q_4.2 7) - 1)) (ty := .int) (C := R_Nt) (T := F_Nt) (N := 13) hx hb hts (fun w h => List.mem_cons_of_mem _ (in_Nt w h)) t_Nt tk_Nt nk_Nt hown hK hP hD hS 3 rfl rfl 10 (by decide) (hts _ (List.mem_cons_of_mem _ wd_150)) (fun _ h9 => h9) rfl (by decide +kernel) rfl rfl (Nat.le_of_ble_eq_true rfl) d_Nt_takeAway_51 (fun H locs hP hD hS => ?_)
    have hP : va_P D clC (cw cA ob ad S_6) H := by rw [eS_6]; exact hP
    have hD : va_D A (cw cA ob ad S_6) := by rw [eS_6]; exact hD
    cases hf
    exact hret _ _ _ _ _ rfl hP hD hS d_Nt_takeAway_54
def f_Nt_takeAway (x1 : Int32) (S : St) : Option St := f_Nt_takeAway_0  x1 S
theorem c_Nt_takeAway (l : Launch) (D : va_G) (cA : ClassId) (ob ad : Nat → Nat) (x1 : Int32)  (S : St) {res : St} (hf : f_Nt_takeAway x1 S = some res) : CTv l y_Nt_takeAway w_Nt_takeAway rm_Nt_takeAway 0 0 D clC [(cA, .int)] [.ref (ob 3), .int x1] (cw cA ob ad S) (fun w => w = cw cA ob ad res) :=
  mk_v (cc := b_Nt_takeAway) (maxL := 2) (own := R_Nt) (by decide) rfl rfl (Nat.le_of_ble_eq_true rfl) (fun p e s m below meth c A Q C0 hret ls hl hP hD hS => w_Nt_takeAway_0 C0 hret   x1 S _ _ ls hP hD hS (lv_sub hl [0, 1] rfl) hf)
end
