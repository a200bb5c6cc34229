section
variable {p : Program} {l : Launch} {e : Env} {s : State} {m : MethodId} {args : Array Value} {below : List Frame} {meth : Method} {c : Code} {Q : State → Prop} {D : va_G} {cA : ClassId} {ob ad : Nat → Nat} {A : Nat → Prop}
def f_Pt_isLess_39    (S : St) : Option (Int32 × St) :=
  some (1, S)
set_option maxHeartbeats 4000000 in
set_option maxRecDepth 100000 in
theorem w_Pt_isLess_39 (C0 : CX p s m args c b_Pt_isLess 3 R_Pt w_Pt_isLess D clC cA A) {res : (Int32 × St)} (hret : RTz p l e rm_Pt_isLess s m args below meth c Q D clC A b_Pt_isLess 0 0 (fun r w => r = res.1 ∧ w = cw cA ob ad res.2))    : ∀  (S : St) (H : Heap) (locs : List Loc) (ls : Array Slot), va_P D clC (cw cA ob ad S) H → va_D A (cw cA ob ad S) → va_S A s.heap H locs → lv_has ls 3 [] → f_Pt_isLess_39    S = some res → W p l e rm_Pt_isLess s m args below meth c H locs 0 0 Q (F0 m 39 ls []) := by
  obtain ⟨hx, hb, hml, hown, hts, hK, hA, hN⟩ := id C0
  intro  S H locs ls hP hD hS hl hf
  rw [f_Pt_isLess_39] at hf
  refine lv_iconst (v := 1) hx hb d_Pt_isLess_39 (by decide) ?_
  refine lv_goto (tgt := 44) hx hb d_Pt_isLess_40 (by decide) ?_
  cases hf
  exact hret _ _ _ _ _ _ ⟨rfl, rfl⟩ rfl hP hD hS d_Pt_isLess_44
def f_Pt_isLess_0   (x1 : Int32) (x2 : Int32) (S : St) : Option (Int32 × St) :=
  bd (f_Pt_x x1 S) (fun q_1 => bd (f_Pt_x x2 q_1.2) (fun q_2 => (if q_1.1 < q_2.1 then
    f_Pt_isLess_39    q_2.2
    else
    bd (f_Pt_x x1 q_2.2) (fun q_4 => bd (f_Pt_x x2 q_4.2) (fun q_5 => (if q_4.1 = q_5.1 then
      bd (f_Pt_y x1 q_5.2) (fun q_7 => bd (f_Pt_y x2 q_7.2) (fun q_8 => (if q_8.1 ≤ q_7.1 then
        some (0, q_8.2)
        else
        f_Pt_isLess_39    q_8.2)))
      else
      some (0, q_5.2)))))))
set_option maxHeartbeats 4000000 in
set_option maxRecDepth 100000 in
theorem w_Pt_isLess_0 (C0 : CX p s m args c b_Pt_isLess 3 R_Pt w_Pt_isLess D clC cA A) {res : (Int32 × St)} (hret : RTz p l e rm_Pt_isLess s m args below meth c Q D clC A b_Pt_isLess 0 0 (fun r w => r = res.1 ∧ w = cw cA ob ad res.2))    : ∀ (x1 : Int32) (x2 : Int32) (S : St) (H : Heap) (locs : List Loc) (ls : Array Slot), va_P D clC (cw cA ob ad S) H → va_D A (cw cA ob ad S) → va_S A s.heap H locs → lv_has ls 3 [(0, .ref (ob 1)), (1, .int x1), (2, .int x2)] → f_Pt_isLess_0   x1 x2 S = some res → W p l e rm_Pt_isLess s m args below meth c H locs 0 0 Q (F0 m 0 ls []) := by
  obtain ⟨hx, hb, hml, hown, hts, hK, hA, hN⟩ := id C0
  intro x1 x2 S H locs ls hP hD hS hl hf
  rw [f_Pt_isLess_0] at hf
  refine lv_aload_n hx hb d_Pt_isLess_0 rfl (lv_at hl 0 rfl) ?_
  refine lv_iload_n hx hb d_Pt_isLess_1 rfl (lv_at hl 1 rfl) ?_
  obtain ⟨q_1, hq_1, hf⟩ := bd_some hf
  refine kc_i (va_runV (As := [.int x1]) (rest := []) ⟨hx, hb, hml, hown, hts⟩ (c_Pt_x l D cA ob ad x1  S hq_1 H.size) ⟨callB_of 1 hts (gd_Pt_x) rfl rfl rfl (hts _ (List.mem_cons_of_mem _ wd_64)) (hts _ (List.mem_cons_of_mem _ wd_316)) dd_Pt_x ⟨Nat.le_of_ble_eq_true rfl, Nat.le_of_ble_eq_true rfl⟩, (hts _ (List.mem_cons_of_mem _ wd_317)), (hts _ (List.mem_cons_of_mem _ wd_318))⟩ (kpV hK hP hD hN 1 1 rfl rfl) rfl rfl hl.1 rfl (lv_room (Nat.le_of_ble_eq_true rfl)) d_Pt_isLess_2 ⟨Nat.le_of_ble_eq_true rfl, Nat.le_of_ble_eq_true rfl⟩) hP hD hS hA (fun r w H locs hw hP hD hS => ?_)
  obtain ⟨rfl, rfl⟩ := hw
  refine lv_aload_n hx hb d_Pt_isLess_5 rfl (lv_at hl 0 rfl) ?_
  refine lv_iload_n hx hb d_Pt_isLess_6 rfl (lv_at hl 2 rfl) ?_
  obtain ⟨q_2, hq_2, hf⟩ := bd_some hf
  refine kc_i (va_runV (As := [.int x2]) (rest := [.int q_1.1]) ⟨hx, hb, hml, hown, hts⟩ (c_Pt_x l D cA ob ad x2  q_1.2 hq_2 H.size) ⟨callB_of 1 hts (gd_Pt_x) rfl rfl rfl (hts _ (List.mem_cons_of_mem _ wd_64)) (hts _ (List.mem_cons_of_mem _ wd_316)) dd_Pt_x ⟨Nat.le_of_ble_eq_true rfl, Nat.le_of_ble_eq_true rfl⟩, (hts _ (List.mem_cons_of_mem _ wd_317)), (hts _ (List.mem_cons_of_mem _ wd_318))⟩ (kpV hK hP hD hN 1 1 rfl rfl) rfl rfl hl.1 rfl (lv_room (Nat.le_of_ble_eq_true rfl)) d_Pt_isLess_7 ⟨Nat.le_of_ble_eq_true rfl, Nat.le_of_ble_eq_true rfl⟩) hP hD hS hA (fun r w H locs hw hP hD hS => ?_)
  obtain ⟨rfl, rfl⟩ := hw
  refine lv_icmp_lt (tgt := 39) hx hb d_Pt_isLess_10 (by decide) (fun c_3 => ?_) (fun c_3 => ?_)
  · rw [if_pos c_3] at hf
    exact w_Pt_isLess_39 C0 hret     q_2.2 H locs ls hP hD hS (lv_sub hl [] rfl) hf
  · rw [if_neg c_3] at hf
    refine lv_aload_n hx hb d_Pt_isLess_13 rfl (lv_at hl 0 rfl) ?_
    refine lv_iload_n hx hb d_Pt_isLess_14 rfl (lv_at hl 1 rfl) ?_
    obtain ⟨q_4, hq_4, hf⟩ := bd_some hf
    refine kc_i (va_runV (As := [.int x1]) (rest := []) ⟨hx, hb, hml, hown, hts⟩ (c_Pt_x l D cA ob ad x1  q_2.2 hq_4 H.size) ⟨callB_of 1 hts (gd_Pt_x) rfl rfl rfl (hts _ (List.mem_cons_of_mem _ wd_64)) (hts _ (List.mem_cons_of_mem _ wd_316)) dd_Pt_x ⟨Nat.le_of_ble_eq_true rfl, Nat.le_of_ble_eq_true rfl⟩, (hts _ (List.mem_cons_of_mem _ wd_317)), (hts _ (List.mem_cons_of_mem _ wd_318))⟩ (kpV hK hP hD hN 1 1 rfl rfl) rfl rfl hl.1 rfl (lv_room (Nat.le_of_ble_eq_true rfl)) d_Pt_isLess_15 ⟨Nat.le_of_ble_eq_true rfl, Nat.le_of_ble_eq_true rfl⟩) hP hD hS hA (fun r w H locs hw hP hD hS => ?_)
    obtain ⟨rfl, rfl⟩ := hw
    refine lv_aload_n hx hb d_Pt_isLess_18 rfl (lv_at hl 0 rfl) ?_
    refine lv_iload_n hx hb d_Pt_isLess_19 rfl (lv_at hl 2 rfl) ?_
    obtain ⟨q_5, hq_5, hf⟩ := bd_some hf
    refine kc_i (va_runV (As := [.int x2]) (rest := [.int q_4.1]) ⟨hx, hb, hml, hown, hts⟩ (c_Pt_x l D cA ob ad x2  q_4.2 hq_5 H.size) ⟨callB_of 1 hts (gd_Pt_x) rfl rfl rfl (hts _ (List.mem_cons_of_mem _ wd_64)) (hts _ (List.mem_cons_of_mem _ wd_316)) dd_Pt_x ⟨Nat.le_of_ble_eq_true rfl, Nat.le_of_ble_eq_true rfl⟩, (hts _ (List.mem_cons_of_mem _ wd_317)), (hts _ (List.mem_cons_of_mem _ wd_318))⟩ (kpV hK hP hD hN 1 1 rfl rfl) rfl rfl hl.1 rfl (lv_room (Nat.le_of_ble_eq_true rfl)) d_Pt_isLess_20 ⟨Nat.le_of_ble_eq_true rfl, Nat.le_of_ble_eq_true rfl⟩) hP hD hS hA (fun r w H locs hw hP hD hS => ?_)
    obtain ⟨rfl, rfl⟩ := hw
    refine lv_icmp_ne (tgt := 43) hx hb d_Pt_isLess_23 (by decide) (fun c_6 => ?_) (fun c_6 => ?_)
    · rw [if_neg c_6] at hf
      refine lv_iconst (v := 0) hx hb d_Pt_isLess_43 (by decide) ?_
      cases hf
      exact hret _ _ _ _ _ _ ⟨rfl, rfl⟩ rfl hP hD hS d_Pt_isLess_44
    · rw [if_pos c_6] at hf
      refine lv_aload_n hx hb d_Pt_isLess_26 rfl (lv_at hl 0 rfl) ?_
      refine lv_iload_n hx hb d_Pt_isLess_27 rfl (lv_at hl 1 rfl) ?_
      obtain ⟨q_7, hq_7, hf⟩ := bd_some hf
      refine kc_i (va_runV (As := [.int x1]) (rest := []) ⟨hx, hb, hml, hown, hts⟩ (c_Pt_y l D cA ob ad x1  q_5.2 hq_7 H.size) ⟨callB_of 1 hts (gd_Pt_y) rfl rfl rfl (hts _ (List.mem_cons_of_mem _ wd_64)) (hts _ (List.mem_cons_of_mem _ wd_320)) dd_Pt_y ⟨Nat.le_of_ble_eq_true rfl, Nat.le_of_ble_eq_true rfl⟩, (hts _ (List.mem_cons_of_mem _ wd_321)), (hts _ (List.mem_cons_of_mem _ wd_322))⟩ (kpV hK hP hD hN 1 1 rfl rfl) rfl rfl hl.1 rfl (lv_room (Nat.le_of_ble_eq_true rfl)) d_Pt_isLess_28 ⟨Nat.le_of_ble_eq_true rfl, Nat.le_of_ble_eq_true rfl⟩) hP hD hS hA (fun r w H locs hw hP hD hS => ?_)
      obtain ⟨rfl, rfl⟩ := hw
      refine lv_aload_n hx hb d_Pt_isLess_31 rfl (lv_at hl 0 rfl) ?_
      refine lv_iload_n hx hb d_Pt_isLess_32 rfl (lv_at hl 2 rfl) ?_
      obtain ⟨q_8, hq_8, hf⟩ := bd_some hf
      refine kc_i (va_runV (As := [.int x2]) (rest := [.int q_7.1]) ⟨hx, hb, hml, hown, hts⟩ (c_Pt_y l D cA ob ad x2  q_7.2 hq_8 H.size) ⟨callB_of 1 hts (gd_Pt_y) rfl rfl rfl (hts _ (List.mem_cons_of_mem _ wd_64)) (hts _ (List.mem_cons_of_mem _ wd_320)) dd_Pt_y ⟨Nat.le_of_ble_eq_true rfl, Nat.le_of_ble_eq_true rfl⟩, (hts _ (List.mem_cons_of_mem _ wd_321)), (hts _ (List.mem_cons_of_mem _ wd_322))⟩ (kpV hK hP hD hN 1 1 rfl rfl) rfl rfl hl.1 rfl (lv_room (Nat.le_of_ble_eq_true rfl)) d_Pt_isLess_33 ⟨Nat.le_of_ble_eq_true rfl, Nat.le_of_ble_eq_true rfl⟩) hP hD hS hA (fun r w H locs hw hP hD hS => ?_)
      obtain ⟨rfl, rfl⟩ := hw
      refine lv_icmp_ge (tgt := 43) hx hb d_Pt_isLess_36 (by decide) (fun c_9 => ?_) (fun c_9 => ?_)
      · rw [if_pos c_9] at hf
        refine lv_iconst (v := 0) hx hb d_Pt_isLess_43 (by decide) ?_
        cases hf
        exact hret _ _ _ _ _ _ ⟨rfl, rfl⟩ rfl hP hD hS d_Pt_isLess_44
      · rw [if_neg c_9] at hf
        exact w_Pt_isLess_39 C0 hret     q_8.2 H locs ls hP hD hS (lv_sub hl [] rfl) hf
def f_Pt_isLess (x1 : Int32) (x2 : Int32) (S : St) : Option (Int32 × St) := f_Pt_isLess_0  x1 x2 S
theorem c_Pt_isLess (l : Launch) (D : va_G) (cA : ClassId) (ob ad : Nat → Nat) (x1 : Int32) (x2 : Int32)  (S : St) {res : (Int32 × St)} (hf : f_Pt_isLess x1 x2 S = some res) : CTi l y_Pt_isLess w_Pt_isLess rm_Pt_isLess 0 0 D clC [(cA, .int)] [.ref (ob 1), .int x1, .int x2] (cw cA ob ad S) (fun r w => r = res.1 ∧ w = cw cA ob ad res.2) :=
  mk_z (cc := b_Pt_isLess) (maxL := 3) (own := R_Pt) (by decide) rfl rfl (Nat.le_of_ble_eq_true rfl) (fun p e s m below meth c A Q C0 hret ls hl hP hD hS => w_Pt_isLess_0 C0 hret   x1 x2 S _ _ ls hP hD hS (lv_sub hl [0, 1, 2] rfl) hf)
def f_Nt_isSeen_86    (S : St) : Option (Int32 × St) :=
  some (1, S)
set_option maxHeartbeats 4000000 in
set_option maxRecDepth 100000 in
theorem w_Nt_isSeen_86 (C0 : CX p s m args c b_Nt_isSeen 8 R_Nt w_Nt_isSeen D clC cA A) {res : (Int32 × St)} (hret : RTz p l e rm_Nt_isSeen s m args below meth c Q D clC A b_Nt_isSeen 0 0 (fun r w => r = res.1 ∧ w = cw cA ob ad res.2))    : ∀  (S : St) (H : Heap) (locs : List Loc) (ls : Array Slot), va_P D clC (cw cA ob ad S) H → va_D A (cw cA ob ad S) → va_S A s.heap H locs → lv_has ls 8 [] → f_Nt_isSeen_86    S = some res → W p l e rm_Nt_isSeen s m args below meth c H locs 0 0 Q (F0 m 86 ls []) := by
  obtain ⟨hx, hb, hml, hown, hts, hK, hA, hN⟩ := id C0
  intro  S H locs ls hP hD hS hl hf
  rw [f_Nt_isSeen_86] at hf
  refine lv_iconst (v := 1) hx hb d_Nt_isSeen_86 (by decide) ?_
  refine lv_goto (tgt := 91) hx hb d_Nt_isSeen_87 (by decide) ?_
  cases hf
  exact hret _ _ _ _ _ _ ⟨rfl, rfl⟩ rfl hP hD hS d_Nt_isSeen_91
def f_Nt_isSeen_0   (x1 : Int32) (x2 : Int32) (S : St) : Option (Int32 × St) :=
  bd (f_Nt_baseOf x1 S) (fun q_1 => bd (f_Nt_startOf q_1.1 q_1.2) (fun q_2 => bd (f_Nt_endOf q_1.1 q_2.2) (fun q_3 => bd (f_Pt_x x2 q_3.2) (fun q_4 => bd (f_Pt_y x2 q_4.2) (fun q_5 => bd (f_Pt_turn q_2.1 q_3.1 q_4.1 q_5.1 q_5.2) (fun q_6 => (if 0 < (lg_cmp q_6.1 0) then
    f_Nt_isSeen_86    q_6.2
    else
    (if (lg_cmp q_6.1 0) = 0 then
      bd (f_Pt_isLess q_2.1 x2 q_6.2) (fun q_9 => bd (f_Pt_isLess x2 q_3.1 q_9.2) (fun q_10 => (if q_9.1 = q_10.1 then
        f_Nt_isSeen_86    q_10.2
        else
        some (0, q_10.2))))
      else
      some (0, q_6.2)))))))))
set_option maxHeartbeats 4000000 in
set_option maxRecDepth 100000 in
theorem w_Nt_isSeen_0 (C0 : CX p s m args c b_Nt_isSeen 8 R_Nt w_Nt_isSeen D clC cA A) {res : (Int32 × St)} (hret : RTz p l e rm_Nt_isSeen s m args below meth c Q D clC A b_Nt_isSeen 0 0 (fun r w => r = res.1 ∧ w = cw cA ob ad res.2))    : ∀ (x1 : Int32) (x2 : Int32) (S : St) (H : Heap) (locs : List Loc) (ls : Array Slot), va_P D clC (cw cA ob ad S) H → va_D A (cw cA ob ad S) → va_S A s.heap H locs → lv_has ls 8 [(0, .ref (ob 3)), (1, .int x1), (2, .int x2)] → f_Nt_isSeen_0   x1 x2 S = some res → W p l e rm_Nt_isSeen s m args below meth c H locs 0 0 Q (F0 m 0 ls []) := by
  obtain ⟨hx, hb, hml, hown, hts, hK, hA, hN⟩ := id C0
  intro x1 x2 S H locs ls hP hD hS hl hf
  rw [f_Nt_isSeen_0] at hf
  refine lv_aload_n hx hb d_Nt_isSeen_0 rfl (lv_at hl 0 rfl) ?_
  refine lv_iload_n hx hb d_Nt_isSeen_1 rfl (lv_at hl 1 rfl) ?_
  obtain ⟨q_1, hq_1, hf⟩ := bd_some hf
  refine kc_i (va_runV (As := [.int x1]) (rest := []) ⟨hx, hb, hml, hown, hts⟩ (c_Nt_baseOf l D cA ob ad x1  S hq_1 H.size) ⟨callB_of 1 hts (gd_Nt_baseOf) rfl rfl rfl (hts _ (List.mem_cons_of_mem _ wd_67)) (hts _ (List.mem_cons_of_mem _ wd_550)) dd_Nt_baseOf ⟨Nat.le_of_ble_eq_true rfl, Nat.le_of_ble_eq_true rfl⟩, (hts _ (List.mem_cons_of_mem _ wd_552)), (hts _ (List.mem_cons_of_mem _ wd_16))⟩ (kpV hK hP hD hN 3 3 rfl rfl) rfl rfl hl.1 rfl (lv_room (Nat.le_of_ble_eq_true rfl)) d_Nt_isSeen_2 ⟨Nat.le_of_ble_eq_true rfl, Nat.le_of_ble_eq_true rfl⟩) hP hD hS hA (fun r w H locs hw hP hD hS => ?_)
  obtain ⟨rfl, rfl⟩ := hw
  refine lv_istore_n (lv' := [(3, .int q_1.1), (0, .ref (ob 3)), (1, .int x1), (2, .int x2)]) hx hb d_Nt_isSeen_5 rfl hl (by decide) rfl (fun ls hl => ?_)
  refine lv_aload_n hx hb d_Nt_isSeen_6 rfl (lv_at hl 1 rfl) ?_
  refine lv_iload_n hx hb d_Nt_isSeen_7 rfl (lv_at hl 0 rfl) ?_
  obtain ⟨q_2, hq_2, hf⟩ := bd_some hf
  refine kc_i (va_runV (As := [.int q_1.1]) (rest := []) ⟨hx, hb, hml, hown, hts⟩ (c_Nt_startOf l D cA ob ad q_1.1  q_1.2 hq_2 H.size) ⟨callB_of 1 hts (gd_Nt_startOf) rfl rfl rfl (hts _ (List.mem_cons_of_mem _ wd_67)) (hts _ (List.mem_cons_of_mem _ wd_362)) dd_Nt_startOf ⟨Nat.le_of_ble_eq_true rfl, Nat.le_of_ble_eq_true rfl⟩, (hts _ (List.mem_cons_of_mem _ wd_363)), (hts _ (List.mem_cons_of_mem _ wd_364))⟩ (kpV hK hP hD hN 3 3 rfl rfl) rfl rfl hl.1 rfl (lv_room (Nat.le_of_ble_eq_true rfl)) d_Nt_isSeen_8 ⟨Nat.le_of_ble_eq_true rfl, Nat.le_of_ble_eq_true rfl⟩) hP hD hS hA (fun r w H locs hw hP hD hS => ?_)
  obtain ⟨rfl, rfl⟩ := hw
  refine lv_istore (lv' := [(4, .int q_2.1), (3, .int q_1.1), (0, .ref (ob 3)), (1, .int x1), (2, .int x2)]) hx hb d_Nt_isSeen_11 hl (by decide) rfl (fun ls hl => ?_)
  refine lv_aload_n hx hb d_Nt_isSeen_13 rfl (lv_at hl 2 rfl) ?_
  refine lv_iload_n hx hb d_Nt_isSeen_14 rfl (lv_at hl 1 rfl) ?_
  obtain ⟨q_3, hq_3, hf⟩ := bd_some hf
  refine kc_i (va_runV (As := [.int q_1.1]) (rest := []) ⟨hx, hb, hml, hown, hts⟩ (c_Nt_endOf l D cA ob ad q_1.1  q_2.2 hq_3 H.size) ⟨callB_of 1 hts (gd_Nt_endOf) rfl rfl rfl (hts _ (List.mem_cons_of_mem _ wd_67)) (hts _ (List.mem_cons_of_mem _ wd_355)) dd_Nt_endOf ⟨Nat.le_of_ble_eq_true rfl, Nat.le_of_ble_eq_true rfl⟩, (hts _ (List.mem_cons_of_mem _ wd_356)), (hts _ (List.mem_cons_of_mem _ wd_357))⟩ (kpV hK hP hD hN 3 3 rfl rfl) rfl rfl hl.1 rfl (lv_room (Nat.le_of_ble_eq_true rfl)) d_Nt_isSeen_15 ⟨Nat.le_of_ble_eq_true rfl, Nat.le_of_ble_eq_true rfl⟩) hP hD hS hA (fun r w H locs hw hP hD hS => ?_)
  obtain ⟨rfl, rfl⟩ := hw
  refine lv_istore (lv' := [(5, .int q_3.1), (4, .int q_2.1), (3, .int q_1.1), (0, .ref (ob 3)), (1, .int x1), (2, .int x2)]) hx hb d_Nt_isSeen_18 hl (by decide) rfl (fun ls hl => ?_)
  refine lv_aload_n hx hb d_Nt_isSeen_20 rfl (lv_at hl 3 rfl) ?_
  refine va_get (D := D) (ci := 3) (v := .ref (ob 1)) (C := R_Nt) (T := F_Nt) (N := 13) hx hb hts (fun w h => List.mem_cons_of_mem _ (in_Nt w h)) hown hK hP 3 rfl rfl 0 (by decide) (hts _ (List.mem_cons_of_mem _ wd_140)) (fun _ h9 => h9) rfl d_Nt_isSeen_21 ?_
  refine lv_iload hx hb d_Nt_isSeen_24 (lv_at hl 1 rfl) ?_
  refine lv_iload hx hb d_Nt_isSeen_26 (lv_at hl 0 rfl) ?_
  refine lv_aload_n hx hb d_Nt_isSeen_28 rfl (lv_at hl 3 rfl) ?_
  refine va_get (D := D) (ci := 3) (v := .ref (ob 1)) (C := R_Nt) (T := F_Nt) (N := 13) hx hb hts (fun w h => List.mem_cons_of_mem _ (in_Nt w h)) hown hK hP 3 rfl rfl 0 (by decide) (hts _ (List.mem_cons_of_mem _ wd_140)) (fun _ h9 => h9) rfl d_Nt_isSeen_29 ?_
  refine lv_iload_n hx hb d_Nt_isSeen_32 rfl (lv_at hl 5 rfl) ?_
  obtain ⟨q_4, hq_4, hf⟩ := bd_some hf
  refine kc_i (va_runV (As := [.int x2]) (rest := [.int q_3.1, .int q_2.1, .ref (ob 1)]) ⟨hx, hb, hml, hown, hts⟩ (c_Pt_x l D cA ob ad x2  q_3.2 hq_4 H.size) ⟨callB_of 1 hts (gd_Pt_x) rfl rfl rfl (hts _ (List.mem_cons_of_mem _ wd_64)) (hts _ (List.mem_cons_of_mem _ wd_540)) dd_Pt_x ⟨Nat.le_of_ble_eq_true rfl, Nat.le_of_ble_eq_true rfl⟩, (hts _ (List.mem_cons_of_mem _ wd_317)), (hts _ (List.mem_cons_of_mem _ wd_318))⟩ (kpV hK hP hD hN 1 1 rfl rfl) rfl rfl hl.1 rfl (lv_room (Nat.le_of_ble_eq_true rfl)) d_Nt_isSeen_33 ⟨Nat.le_of_ble_eq_true rfl, Nat.le_of_ble_eq_true rfl⟩) hP hD hS hA (fun r w H locs hw hP hD hS => ?_)
  obtain ⟨rfl, rfl⟩ := hw
  refine lv_aload_n hx hb d_Nt_isSeen_36 rfl (lv_at hl 3 rfl) ?_
  refine va_get (D := D) (ci := 3) (v := .ref (ob 1)) (C := R_Nt) (T := F_Nt) (N := 13) hx hb hts (fun w h => List.mem_cons_of_mem _ (in_Nt w h)) hown hK hP 3 rfl rfl 0 (by decide) (hts _ (List.mem_cons_of_mem _ wd_140)) (fun _ h9 => h9) rfl d_Nt_isSeen_37 ?_
  refine lv_iload_n hx hb d_Nt_isSeen_40 rfl (lv_at hl 5 rfl) ?_
  obtain ⟨q_5, hq_5, hf⟩ := bd_some hf
  refine kc_i (va_runV (As := [.int x2]) (rest := [.int q_4.1, .int q_3.1, .int q_2.1, .ref (ob 1)]) ⟨hx, hb, hml, hown, hts⟩ (c_Pt_y l D cA ob ad x2  q_4.2 hq_5 H.size) ⟨callB_of 1 hts (gd_Pt_y) rfl rfl rfl (hts _ (List.mem_cons_of_mem _ wd_64)) (hts _ (List.mem_cons_of_mem _ wd_541)) dd_Pt_y ⟨Nat.le_of_ble_eq_true rfl, Nat.le_of_ble_eq_true rfl⟩, (hts _ (List.mem_cons_of_mem _ wd_321)), (hts _ (List.mem_cons_of_mem _ wd_322))⟩ (kpV hK hP hD hN 1 1 rfl rfl) rfl rfl hl.1 rfl (lv_room (Nat.le_of_ble_eq_true rfl)) d_Nt_isSeen_41 ⟨Nat.le_of_ble_eq_true rfl, Nat.le_of_ble_eq_true rfl⟩) hP hD hS hA (fun r w H locs hw hP hD hS => ?_)
  obtain ⟨rfl, rfl⟩ := hw
  obtain ⟨q_6, hq_6, hf⟩ := bd_some hf
  refine kc_l (va_runV (As := [.int q_2.1, .int q_3.1, .int q_4.1, .int q_5.1]) (rest := []) ⟨hx, hb, hml, hown, hts⟩ (c_Pt_turn l D cA ob ad q_2.1 q_3.1 q_4.1 q_5.1  q_5.2 hq_6 H.size) ⟨callB_of 4 hts (gd_Pt_turn) rfl rfl rfl (hts _ (List.mem_cons_of_mem _ wd_64)) (hts _ (List.mem_cons_of_mem _ wd_558)) dd_Pt_turn ⟨Nat.le_of_ble_eq_true rfl, Nat.le_of_ble_eq_true rfl⟩, (hts _ (List.mem_cons_of_mem _ wd_382)), (hts _ (List.mem_cons_of_mem _ wd_383))⟩ (kpV hK hP hD hN 1 1 rfl rfl) rfl rfl hl.1 rfl (lv_room (Nat.le_of_ble_eq_true rfl)) d_Nt_isSeen_44 ⟨Nat.le_of_ble_eq_true rfl, Nat.le_of_ble_eq_true rfl⟩) hP hD hS hA (fun r w H locs hw hP hD hS => ?_)
  obtain ⟨rfl, rfl⟩ := hw
  refine lv_lstore (lv' := [(6, .long q_6.1), (5, .int q_3.1), (4, .int q_2.1), (3, .int q_1.1), (0, .ref (ob 3)), (1, .int x1), (2, .int x2)]) hx hb d_Nt_isSeen_47 hl (by decide) rfl (fun ls hl => ?_)
  refine lv_lload hx hb d_Nt_isSeen_49 (lv_at hl 0 rfl) ?_
  refine lv_lconst (v := 0) hx hb d_Nt_isSeen_51 (by decide) ?_
  refine W.lcmp hx hb d_Nt_isSeen_52 ?_
  refine lv_if_gt (tgt := 86) hx hb d_Nt_isSeen_53 (by decide) (fun c_7 => ?_) (fun c_7 => ?_)
  · rw [if_pos c_7] at hf
    exact w_Nt_isSeen_86 C0 hret     q_6.2 H locs ls hP hD hS (lv_sub hl [] rfl) hf
  · rw [if_neg c_7] at hf
    refine lv_lload hx hb d_Nt_isSeen_56 (lv_at hl 0 rfl) ?_
    refine lv_lconst (v := 0) hx hb d_Nt_isSeen_58 (by decide) ?_
    refine W.lcmp hx hb d_Nt_isSeen_59 ?_
    refine lv_if_ne (tgt := 90) hx hb d_Nt_isSeen_60 (by decide) (fun c_8 => ?_) (fun c_8 => ?_)
    · rw [if_neg c_8] at hf
      refine lv_iconst (v := 0) hx hb d_Nt_isSeen_90 (by decide) ?_
      cases hf
      exact hret _ _ _ _ _ _ ⟨rfl, rfl⟩ rfl hP hD hS d_Nt_isSeen_91
    · rw [if_pos c_8] at hf
      refine lv_aload_n hx hb d_Nt_isSeen_63 rfl (lv_at hl 4 rfl) ?_
      refine va_get (D := D) (ci := 3) (v := .ref (ob 1)) (C := R_Nt) (T := F_Nt) (N := 13) hx hb hts (fun w h => List.mem_cons_of_mem _ (in_Nt w h)) hown hK hP 3 rfl rfl 0 (by decide) (hts _ (List.mem_cons_of_mem _ wd_140)) (fun _ h9 => h9) rfl d_Nt_isSeen_64 ?_
      refine lv_iload hx hb d_Nt_isSeen_67 (lv_at hl 2 rfl) ?_
      refine lv_iload_n hx hb d_Nt_isSeen_69 rfl (lv_at hl 6 rfl) ?_
      obtain ⟨q_9, hq_9, hf⟩ := bd_some hf
      refine kc_i (va_runV (As := [.int q_2.1, .int x2]) (rest := []) ⟨hx, hb, hml, hown, hts⟩ (c_Pt_isLess l D cA ob ad q_2.1 x2  q_6.2 hq_9 H.size) ⟨callB_of 2 hts (gd_Pt_isLess) rfl rfl rfl (hts _ (List.mem_cons_of_mem _ wd_64)) (hts _ (List.mem_cons_of_mem _ wd_571)) dd_Pt_isLess ⟨Nat.le_of_ble_eq_true rfl, Nat.le_of_ble_eq_true rfl⟩, (hts _ (List.mem_cons_of_mem _ wd_325)), (hts _ (List.mem_cons_of_mem _ wd_326))⟩ (kpV hK hP hD hN 1 1 rfl rfl) rfl rfl hl.1 rfl (lv_room (Nat.le_of_ble_eq_true rfl)) d_Nt_isSeen_70 ⟨Nat.le_of_ble_eq_true rfl, Nat.le_of_ble_eq_true rfl⟩) hP hD hS hA (fun r w H locs hw hP hD hS => ?_)
      obtain ⟨rfl, rfl⟩ := hw
      refine lv_aload_n hx hb d_Nt_isSeen_73 rfl (lv_at hl 4 rfl) ?_
      refine va_get (D := D) (ci := 3) (v := .ref (ob 1)) (C := R_Nt) (T := F_Nt) (N := 13) hx hb hts (fun w h => List.mem_cons_of_mem _ (in_Nt w h)) hown hK hP 3 rfl rfl 0 (by decide) (hts _ (List.mem_cons_of_mem _ wd_140)) (fun _ h9 => h9) rfl d_Nt_isSeen_74 ?_
      refine lv_iload_n hx hb d_Nt_isSeen_77 rfl (lv_at hl 6 rfl) ?_
      refine lv_iload hx hb d_Nt_isSeen_78 (lv_at hl 1 rfl) ?_
      obtain ⟨q_10, hq_10, hf⟩ := bd_some hf
      refine kc_i (va_runV (As := [.int x2, .int q_3.1]) (rest := [.int q_9.1]) ⟨hx, hb, hml, hown, hts⟩ (c_Pt_isLess l D cA ob ad x2 q_3.1  q_9.2 hq_10 H.size) ⟨callB_of 2 hts (gd_Pt_isLess) rfl rfl rfl (hts _ (List.mem_cons_of_mem _ wd_64)) (hts _ (List.mem_cons_of_mem _ wd_571)) dd_Pt_isLess ⟨Nat.le_of_ble_eq_true rfl, Nat.le_of_ble_eq_true rfl⟩, (hts _ (List.mem_cons_of_mem _ wd_325)), (hts _ (List.mem_cons_of_mem _ wd_326))⟩ (kpV hK hP hD hN 1 1 rfl rfl) rfl rfl hl.1 rfl (lv_room (Nat.le_of_ble_eq_true rfl)) d_Nt_isSeen_80 ⟨Nat.le_of_ble_eq_true rfl, Nat.le_of_ble_eq_true rfl⟩) hP hD hS hA (fun r w H locs hw hP hD hS => ?_)
      obtain ⟨rfl, rfl⟩ := hw
      refine lv_icmp_ne (tgt := 90) hx hb d_Nt_isSeen_83 (by decide) (fun c_11 => ?_) (fun c_11 => ?_)
      · rw [if_neg c_11] at hf
        refine lv_iconst (v := 0) hx hb d_Nt_isSeen_90 (by decide) ?_
        cases hf
        exact hret _ _ _ _ _ _ ⟨rfl, rfl⟩ rfl hP hD hS d_Nt_isSeen_91
      · rw [if_pos c_11] at hf
        exact w_Nt_isSeen_86 C0 hret     q_10.2 H locs ls hP hD hS (lv_sub hl [] rfl) hf
def f_Nt_isSeen (x1 : Int32) (x2 : Int32) (S : St) : Option (Int32 × St) := f_Nt_isSeen_0  x1 x2 S
theorem c_Nt_isSeen (l : Launch) (D : va_G) (cA : ClassId) (ob ad : Nat → Nat) (x1 : Int32) (x2 : Int32)  (S : St) {res : (Int32 × St)} (hf : f_Nt_isSeen x1 x2 S = some res) : CTi l y_Nt_isSeen w_Nt_isSeen rm_Nt_isSeen 0 0 D clC [(cA, .int)] [.ref (ob 3), .int x1, .int x2] (cw cA ob ad S) (fun r w => r = res.1 ∧ w = cw cA ob ad res.2) :=
  mk_z (cc := b_Nt_isSeen) (maxL := 8) (own := R_Nt) (by decide) rfl rfl (Nat.le_of_ble_eq_true rfl) (fun p e s m below meth c A Q C0 hret ls hl hP hD hS => w_Nt_isSeen_0 C0 hret   x1 x2 S _ _ ls hP hD hS (lv_sub hl [0, 1, 2] rfl) hf)
def f_Pt_dot_0   (x1 : Int32) (x2 : Int32) (x3 : Int32) (S : St) : Option (Int64 × St) :=
  bd (f_Pt_x x2 S) (fun q_1 => bd (f_Pt_x x1 q_1.2) (fun q_2 => bn ((Int32.toInt64 q_1.1) - (Int32.toInt64 q_2.1)) (fun x4_3 => bd (f_Pt_y x2 q_2.2) (fun q_4 => bd (f_Pt_y x1 q_4.2) (fun q_5 => bn ((Int32.toInt64 q_4.1) - (Int32.toInt64 q_5.1)) (fun x6_6 => bd (f_Pt_x x3 q_5.2) (fun q_7 => bd (f_Pt_x x1 q_7.2) (fun q_8 => bn ((Int32.toInt64 q_7.1) - (Int32.toInt64 q_8.1)) (fun x8_9 => bd (f_Pt_y x3 q_8.2) (fun q_10 => bd (f_Pt_y x1 q_10.2) (fun q_11 => bn ((Int32.toInt64 q_10.1) - (Int32.toInt64 q_11.1)) (fun x10_12 => some (((x4_3 * x8_9) + (x6_6 * x10_12)), q_11.2)))))))))))))
set_option maxHeartbeats 4000000 in
set_option maxRecDepth 100000 in
theorem w_Pt_dot_0 (C0 : CX p s m args c b_Pt_dot 12 R_Pt w_Pt_dot D clC cA A) {res : (Int64 × St)} (hret : RTl p l e rm_Pt_dot s m args below meth c Q D clC A b_Pt_dot 0 0 (fun r w => r = res.1 ∧ w = cw cA ob ad res.2))    : ∀ (x1 : Int32) (x2 : Int32) (x3 : Int32) (S : St) (H : Heap) (locs : List Loc) (ls : Array Slot), va_P D clC (cw cA ob ad S) H → va_D A (cw cA ob ad S) → va_S A s.heap H locs → lv_has ls 12 [(0, .ref (ob 1)), (1, .int x1), (2, .int x2), (3, .int x3)] → f_Pt_dot_0   x1 x2 x3 S = some res → W p l e rm_Pt_dot s m args below meth c H locs 0 0 Q (F0 m 0 ls []) := by
  obtain ⟨hx, hb, hml, hown, hts, hK, hA, hN⟩ := id C0
  intro x1 x2 x3 S H locs ls hP hD hS hl hf
  rw [f_Pt_dot_0] at hf
  refine lv_aload_n hx hb d_Pt_dot_0 rfl (lv_at hl 0 rfl) ?_
  refine lv_iload_n hx hb d_Pt_dot_1 rfl (lv_at hl 2 rfl) ?_
  obtain ⟨q_1, hq_1, hf⟩ := bd_some hf
  refine kc_i (va_runV (As := [.int x2]) (rest := []) ⟨hx, hb, hml, hown, hts⟩ (c_Pt_x l D cA ob ad x2  S hq_1 H.size) ⟨callB_of 1 hts (gd_Pt_x) rfl rfl rfl (hts _ (List.mem_cons_of_mem _ wd_64)) (hts _ (List.mem_cons_of_mem _ wd_316)) dd_Pt_x ⟨Nat.le_of_ble_eq_true rfl, Nat.le_of_ble_eq_true rfl⟩, (hts _ (List.mem_cons_of_mem _ wd_317)), (hts _ (List.mem_cons_of_mem _ wd_318))⟩ (kpV hK hP hD hN 1 1 rfl rfl) rfl rfl hl.1 rfl (lv_room (Nat.le_of_ble_eq_true rfl)) d_Pt_dot_2 ⟨Nat.le_of_ble_eq_true rfl, Nat.le_of_ble_eq_true rfl⟩) hP hD hS hA (fun r w H locs hw hP hD hS => ?_)
  obtain ⟨rfl, rfl⟩ := hw
  refine lv_i2l (v := (Int32.toInt64 q_1.1)) hx hb d_Pt_dot_5 rfl ?_
  refine lv_aload_n hx hb d_Pt_dot_6 rfl (lv_at hl 0 rfl) ?_
  refine lv_iload_n hx hb d_Pt_dot_7 rfl (lv_at hl 1 rfl) ?_
  obtain ⟨q_2, hq_2, hf⟩ := bd_some hf
  refine kc_i (va_runV (As := [.int x1]) (rest := [.long (Int32.toInt64 q_1.1)]) ⟨hx, hb, hml, hown, hts⟩ (c_Pt_x l D cA ob ad x1  q_1.2 hq_2 H.size) ⟨callB_of 1 hts (gd_Pt_x) rfl rfl rfl (hts _ (List.mem_cons_of_mem _ wd_64)) (hts _ (List.mem_cons_of_mem _ wd_316)) dd_Pt_x ⟨Nat.le_of_ble_eq_true rfl, Nat.le_of_ble_eq_true rfl⟩, (hts _ (List.mem_cons_of_mem _ wd_317)), (hts _ (List.mem_cons_of_mem _ wd_318))⟩ (kpV hK hP hD hN 1 1 rfl rfl) rfl rfl hl.1 rfl (lv_room (Nat.le_of_ble_eq_true rfl)) d_Pt_dot_8 ⟨Nat.le_of_ble_eq_true rfl, Nat.le_of_ble_eq_true rfl⟩) hP hD hS hA (fun r w H locs hw hP hD hS => ?_)
  obtain ⟨rfl, rfl⟩ := hw
  refine lv_i2l (v := (Int32.toInt64 q_2.1)) hx hb d_Pt_dot_11 rfl ?_
  refine lv_lsub hx hb d_Pt_dot_12 ?_
  obtain ⟨x4_3, ex4_3, hf⟩ := bn_some hf
  refine tpl ex4_3 ?_
  refine lv_lstore (lv' := [(4, .long x4_3), (0, .ref (ob 1)), (1, .int x1), (2, .int x2), (3, .int x3)]) hx hb d_Pt_dot_13 hl (by decide) rfl (fun ls hl => ?_)
  refine lv_aload_n hx hb d_Pt_dot_15 rfl (lv_at hl 1 rfl) ?_
  refine lv_iload_n hx hb d_Pt_dot_16 rfl (lv_at hl 3 rfl) ?_
  obtain ⟨q_4, hq_4, hf⟩ := bd_some hf
  refine kc_i (va_runV (As := [.int x2]) (rest := []) ⟨hx, hb, hml, hown, hts⟩ (c_Pt_y l D cA ob ad x2  q_2.2 hq_4 H.size) ⟨callB_of 1 hts (gd_Pt_y) rfl rfl rfl (hts _ (List.mem_cons_of_mem _ wd_64)) (hts _ (List.mem_cons_of_mem _ wd_320)) dd_Pt_y ⟨Nat.le_of_ble_eq_true rfl, Nat.le_of_ble_eq_true rfl⟩, (hts _ (List.mem_cons_of_mem _ wd_321)), (hts _ (List.mem_cons_of_mem _ wd_322))⟩ (kpV hK hP hD hN 1 1 rfl rfl) rfl rfl hl.1 rfl (lv_room (Nat.le_of_ble_eq_true rfl)) d_Pt_dot_17 ⟨Nat.le_of_ble_eq_true rfl, Nat.le_of_ble_eq_true rfl⟩) hP hD hS hA (fun r w H locs hw hP hD hS => ?_)
  obtain ⟨rfl, rfl⟩ := hw
  refine lv_i2l (v := (Int32.toInt64 q_4.1)) hx hb d_Pt_dot_20 rfl ?_
  refine lv_aload_n hx hb d_Pt_dot_21 rfl (lv_at hl 1 rfl) ?_
  refine lv_iload_n hx hb d_Pt_dot_22 rfl (lv_at hl 2 rfl) ?_
  obtain ⟨q_5, hq_5, hf⟩ := bd_some hf
  refine kc_i (va_runV (As := [.int x1]) (rest := [.long (Int32.toInt64 q_4.1)]) ⟨hx, hb, hml, hown, hts⟩ (c_Pt_y l D cA ob ad x1  q_4.2 hq_5 H.size) ⟨callB_of 1 hts (gd_Pt_y) rfl rfl rfl (hts _ (List.mem_cons_of_mem _ wd_64)) (hts _ (List.mem_cons_of_mem _ wd_320)) dd_Pt_y ⟨Nat.le_of_ble_eq_true rfl, Nat.le_of_ble_eq_true rfl⟩, (hts _ (List.mem_cons_of_mem _ wd_321)), (hts _ (List.mem_cons_of_mem _ wd_322))⟩ (kpV hK hP hD hN 1 1 rfl rfl) rfl rfl hl.1 rfl (lv_room (Nat.le_of_ble_eq_true rfl)) d_Pt_dot_23 ⟨Nat.le_of_ble_eq_true rfl, Nat.le_of_ble_eq_true rfl⟩) hP hD hS hA (fun r w H locs hw hP hD hS => ?_)
  obtain ⟨rfl, rfl⟩ := hw
  refine lv_i2l (v := (Int32.toInt64 q_5.1)) hx hb d_Pt_dot_26 rfl ?_
  refine lv_lsub hx hb d_Pt_dot_27 ?_
  obtain ⟨x6_6, ex6_6, hf⟩ := bn_some hf
  refine tpl ex6_6 ?_
  refine lv_lstore (lv' := [(6, .long x6_6), (4, .long x4_3), (0, .ref (ob 1)), (1, .int x1), (2, .int x2), (3, .int x3)]) hx hb d_Pt_dot_28 hl (by decide) rfl (fun ls hl => ?_)
  refine lv_aload_n hx hb d_Pt_dot_30 rfl (lv_at hl 2 rfl) ?_
  refine lv_iload_n hx hb d_Pt_dot_31 rfl (lv_at hl 5 rfl) ?_
  obtain ⟨q_7, hq_7, hf⟩ := bd_some hf
  refine kc_i (va_runV (As := [.int x3]) (rest := []) ⟨hx, hb, hml, hown, hts⟩ (c_Pt_x l D cA ob ad x3  q_5.2 hq_7 H.size) ⟨callB_of 1 hts (gd_Pt_x) rfl rfl rfl (hts _ (List.mem_cons_of_mem _ wd_64)) (hts _ (List.mem_cons_of_mem _ wd_316)) dd_Pt_x ⟨Nat.le_of_ble_eq_true rfl, Nat.le_of_ble_eq_true rfl⟩, (hts _ (List.mem_cons_of_mem _ wd_317)), (hts _ (List.mem_cons_of_mem _ wd_318))⟩ (kpV hK hP hD hN 1 1 rfl rfl) rfl rfl hl.1 rfl (lv_room (Nat.le_of_ble_eq_true rfl)) d_Pt_dot_32 ⟨Nat.le_of_ble_eq_true rfl, Nat.le_of_ble_eq_true rfl⟩) hP hD hS hA (fun r w H locs hw hP hD hS => ?_)
  obtain ⟨rfl, rfl⟩ := hw
  refine lv_i2l (v := (Int32.toInt64 q_7.1)) hx hb d_Pt_dot_35 rfl ?_
  refine lv_aload_n hx hb d_Pt_dot_36 rfl (lv_at hl 2 rfl) ?_
  refine lv_iload_n hx hb d_Pt_dot_37 rfl (lv_at hl 3 rfl) ?_
  obtain ⟨q_8, hq_8, hf⟩ := bd_some hf
  refine kc_i (va_runV (As := [.int x1]) (rest := [.long (Int32.toInt64 q_7.1)]) ⟨hx, hb, hml, hown, hts⟩ (c_Pt_x l D cA ob ad x1  q_7.2 hq_8 H.size) ⟨callB_of 1 hts (gd_Pt_x) rfl rfl rfl (hts _ (List.mem_cons_of_mem _ wd_64)) (hts _ (List.mem_cons_of_mem _ wd_316)) dd_Pt_x ⟨Nat.le_of_ble_eq_true rfl, Nat.le_of_ble_eq_true rfl⟩, (hts _ (List.mem_cons_of_mem _ wd_317)), (hts _ (List.mem_cons_of_mem _ wd_318))⟩ (kpV hK hP hD hN 1 1 rfl rfl) rfl rfl hl.1 rfl (lv_room (Nat.le_of_ble_eq_true rfl)) d_Pt_dot_38 ⟨Nat.le_of_ble_eq_true rfl, Nat.le_of_ble_eq_true rfl⟩) hP hD hS hA (fun r w H locs hw hP hD hS => ?_)
  obtain ⟨rfl, rfl⟩ := hw
  refine lv_i2l (v := (Int32.toInt64 q_8.1)) hx hb d_Pt_dot_41 rfl ?_
  refine lv_lsub hx hb d_Pt_dot_42 ?_
  obtain ⟨x8_9, ex8_9, hf⟩ := bn_some hf
  refine tpl ex8_9 ?_
  refine lv_lstore (lv' := [(8, .long x8_9), (6, .long x6_6), (4, .long x4_3), (0, .ref (ob 1)), (1, .int x1), (2, .int x2), (3, .int x3)]) hx hb d_Pt_dot_43 hl (by decide) rfl (fun ls hl => ?_)
  refine lv_aload_n hx hb d_Pt_dot_45 rfl (lv_at hl 3 rfl) ?_
  refine lv_iload_n hx hb d_Pt_dot_46 rfl (lv_at hl 6 rfl) ?_
  obtain ⟨q_10, hq_10, hf⟩ := bd_some hf
  refine kc_i (va_runV (As := [.int x3]) (rest := []) ⟨hx, hb, hml, hown, hts⟩ (c_Pt_y l D cA ob ad x3  q_8.2 hq_10 H.size) ⟨callB_of 1 hts (gd_Pt_y) rfl rfl rfl (hts _ (List.mem_cons_of_mem _ wd_64)) (hts _ (List.mem_cons_of_mem _ wd_320)) dd_Pt_y ⟨Nat.le_of_ble_eq_true rfl, Nat.le_of_ble_eq_true rfl⟩, (hts _ (List.mem_cons_of_mem _ wd_321)), (hts _ (List.mem_cons_of_mem _ wd_322))⟩ (kpV hK hP hD hN 1 1 rfl rfl) rfl rfl hl.1 rfl (lv_room (Nat.le_of_ble_eq_true rfl)) d_Pt_dot_47 ⟨Nat.le_of_ble_eq_true rfl, Nat.le_of_ble_eq_true rfl⟩) hP hD hS hA (fun r w H locs hw hP hD hS => ?_)
  obtain ⟨rfl, rfl⟩ := hw
  refine lv_i2l (v := (Int32.toInt64 q_10.1)) hx hb d_Pt_dot_50 rfl ?_
  refine lv_aload_n hx hb d_Pt_dot_51 rfl (lv_at hl 3 rfl) ?_
  refine lv_iload_n hx hb d_Pt_dot_52 rfl (lv_at hl 4 rfl) ?_
  obtain ⟨q_11, hq_11, hf⟩ := bd_some hf
  refine kc_i (va_runV (As := [.int x1]) (rest := [.long (Int32.toInt64 q_10.1)]) ⟨hx, hb, hml, hown, hts⟩ (c_Pt_y l D cA ob ad x1  q_10.2 hq_11 H.size) ⟨callB_of 1 hts (gd_Pt_y) rfl rfl rfl (hts _ (List.mem_cons_of_mem _ wd_64)) (hts _ (List.mem_cons_of_mem _ wd_320)) dd_Pt_y ⟨Nat.le_of_ble_eq_true rfl, Nat.le_of_ble_eq_true rfl⟩, (hts _ (List.mem_cons_of_mem _ wd_321)), (hts _ (List.mem_cons_of_mem _ wd_322))⟩ (kpV hK hP hD hN 1 1 rfl rfl) rfl rfl hl.1 rfl (lv_room (Nat.le_of_ble_eq_true rfl)) d_Pt_dot_53 ⟨Nat.le_of_ble_eq_true rfl, Nat.le_of_ble_eq_true rfl⟩) hP hD hS hA (fun r w H locs hw hP hD hS => ?_)
  obtain ⟨rfl, rfl⟩ := hw
  refine lv_i2l (v := (Int32.toInt64 q_11.1)) hx hb d_Pt_dot_56 rfl ?_
  refine lv_lsub hx hb d_Pt_dot_57 ?_
  obtain ⟨x10_12, ex10_12, hf⟩ := bn_some hf
  refine tpl ex10_12 ?_
  refine lv_lstore (lv' := [(10, .long x10_12), (8, .long x8_9), (6, .long x6_6), (4, .long x4_3), (0, .ref (ob 1)), (1, .int x1), (2, .int x2), (3, .int x3)]) hx hb d_Pt_dot_58 hl (by decide) rfl (fun ls hl => ?_)
  refine lv_lload hx hb d_Pt_dot_60 (lv_at hl 3 rfl) ?_
  refine lv_lload hx hb d_Pt_dot_62 (lv_at hl 1 rfl) ?_
  refine lv_lmul hx hb d_Pt_dot_64 ?_
  refine lv_lload hx hb d_Pt_dot_65 (lv_at hl 2 rfl) ?_
  refine lv_lload hx hb d_Pt_dot_67 (lv_at hl 0 rfl) ?_
  refine lv_lmul hx hb d_Pt_dot_69 ?_
  refine lv_ladd hx hb d_Pt_dot_70 ?_
  cases hf
  exact hret _ _ _ _ _ _ ⟨rfl, rfl⟩ hP hD hS d_Pt_dot_71
def f_Pt_dot (x1 : Int32) (x2 : Int32) (x3 : Int32) (S : St) : Option (Int64 × St) := f_Pt_dot_0  x1 x2 x3 S
theorem c_Pt_dot (l : Launch) (D : va_G) (cA : ClassId) (ob ad : Nat → Nat) (x1 : Int32) (x2 : Int32) (x3 : Int32)  (S : St) {res : (Int64 × St)} (hf : f_Pt_dot x1 x2 x3 S = some res) : CTl l y_Pt_dot w_Pt_dot rm_Pt_dot 0 0 D clC [(cA, .int)] [.ref (ob 1), .int x1, .int x2, .int x3] (cw cA ob ad S) (fun r w => r = res.1 ∧ w = cw cA ob ad res.2) :=
  mk_l (cc := b_Pt_dot) (maxL := 12) (own := R_Pt) (by decide) rfl rfl (Nat.le_of_ble_eq_true rfl) (fun p e s m below meth c A Q C0 hret ls hl hP hD hS => w_Pt_dot_0 C0 hret   x1 x2 x3 S _ _ ls hP hD hS (lv_sub hl [0, 1, 2, 3] rfl) hf)
end
