section
variable {p : Program} {l : Launch} {e : Env} {s : State} {m : MethodId} {args : Array Value} {below : List Frame} {meth : Method} {c : Code} {Q : State → Prop} {D : va_G} {cA cP : ClassId} {ob : Nat → Nat} {ad : Nat → Nat → Nat} {A : Nat → Prop}
def f_Pn_checkPlace_24    (S : St) : Option St :=
  none
set_option maxHeartbeats 4000000 in
set_option maxRecDepth 100000 in
theorem w_Pn_checkPlace_24 (C0 : CX p s m args c b_Pn_checkPlace 2 R_Pn w_Pn_checkPlace D clC cA cP A) {res : St} (hret : RTv p l e rm_Pn_checkPlace s m args below meth c Q D clC A b_Pn_checkPlace 0 0 (fun w => w = cw cA cP ob ad res))    : ∀  (S : St) (H : Heap) (locs : List Loc) (ls : Array Slot), va_P D clC (cw cA cP ob ad S) H → va_D A (cw cA cP ob ad S) → va_S A s.heap H locs → lv_has ls 2 [] → f_Pn_checkPlace_24    S = some res → W p l e rm_Pn_checkPlace s m args below meth c H locs 0 0 Q (F0 m 24 ls []) := by
  obtain ⟨hx, hb, hml, hown, hts, hK, hA, hN, hZ⟩ := id C0
  intro  S H locs ls hP hD hS hl hf
  rw [f_Pn_checkPlace_24] at hf
  cases hf
def f_Pn_checkPlace_0   (x0 : Int32) (x1 : Int32) (S : St) : Option St :=
  (if x0 < (-1000000000) then
    f_Pn_checkPlace_24    S
    else
    (if 1000000000 < x0 then
      f_Pn_checkPlace_24    S
      else
      (if x1 < (-1000000000) then
        f_Pn_checkPlace_24    S
        else
        (if x1 ≤ 1000000000 then
          some S
          else
          f_Pn_checkPlace_24    S))))
set_option maxHeartbeats 4000000 in
set_option maxRecDepth 100000 in
theorem w_Pn_checkPlace_0 (C0 : CX p s m args c b_Pn_checkPlace 2 R_Pn w_Pn_checkPlace D clC cA cP A) {res : St} (hret : RTv p l e rm_Pn_checkPlace s m args below meth c Q D clC A b_Pn_checkPlace 0 0 (fun w => w = cw cA cP ob ad res))    : ∀ (x0 : Int32) (x1 : Int32) (S : St) (H : Heap) (locs : List Loc) (ls : Array Slot), va_P D clC (cw cA cP ob ad S) H → va_D A (cw cA cP ob ad S) → va_S A s.heap H locs → lv_has ls 2 [(0, .int x0), (1, .int x1)] → f_Pn_checkPlace_0   x0 x1 S = some res → W p l e rm_Pn_checkPlace s m args below meth c H locs 0 0 Q (F0 m 0 ls []) := by
  obtain ⟨hx, hb, hml, hown, hts, hK, hA, hN, hZ⟩ := id C0
  intro x0 x1 S H locs ls hP hD hS hl hf
  rw [f_Pn_checkPlace_0] at hf
  refine lv_iload_n hx hb d_Pn_checkPlace_0 rfl (lv_at hl 0 rfl) ?_
  refine lv_ldc (v := (-1000000000)) hx hb hown (hts _ (List.mem_cons_of_mem _ wd_427)) d_Pn_checkPlace_1 ?_
  refine lv_icmp_lt (tgt := 24) hx hb d_Pn_checkPlace_3 (by decide) (fun c_1 => ?_) (fun c_1 => ?_)
  · rw [if_pos c_1] at hf
    exact w_Pn_checkPlace_24 C0 hret     S H locs ls hP hD hS (lv_sub hl [] rfl) hf
  · rw [if_neg c_1] at hf
    refine lv_iload_n hx hb d_Pn_checkPlace_6 rfl (lv_at hl 0 rfl) ?_
    refine lv_ldc (v := 1000000000) hx hb hown (hts _ (List.mem_cons_of_mem _ wd_428)) d_Pn_checkPlace_7 ?_
    refine lv_icmp_gt (tgt := 24) hx hb d_Pn_checkPlace_9 (by decide) (fun c_2 => ?_) (fun c_2 => ?_)
    · rw [if_pos c_2] at hf
      exact w_Pn_checkPlace_24 C0 hret     S H locs ls hP hD hS (lv_sub hl [] rfl) hf
    · rw [if_neg c_2] at hf
      refine lv_iload_n hx hb d_Pn_checkPlace_12 rfl (lv_at hl 1 rfl) ?_
      refine lv_ldc (v := (-1000000000)) hx hb hown (hts _ (List.mem_cons_of_mem _ wd_427)) d_Pn_checkPlace_13 ?_
      refine lv_icmp_lt (tgt := 24) hx hb d_Pn_checkPlace_15 (by decide) (fun c_3 => ?_) (fun c_3 => ?_)
      · rw [if_pos c_3] at hf
        exact w_Pn_checkPlace_24 C0 hret     S H locs ls hP hD hS (lv_sub hl [] rfl) hf
      · rw [if_neg c_3] at hf
        refine lv_iload_n hx hb d_Pn_checkPlace_18 rfl (lv_at hl 1 rfl) ?_
        refine lv_ldc (v := 1000000000) hx hb hown (hts _ (List.mem_cons_of_mem _ wd_428)) d_Pn_checkPlace_19 ?_
        refine lv_icmp_le (tgt := 34) hx hb d_Pn_checkPlace_21 (by decide) (fun c_4 => ?_) (fun c_4 => ?_)
        · rw [if_pos c_4] at hf
          cases hf
          exact hret _ _ _ _ _ rfl hP hD hS d_Pn_checkPlace_34
        · rw [if_neg c_4] at hf
          exact w_Pn_checkPlace_24 C0 hret     S H locs ls hP hD hS (lv_sub hl [] rfl) hf
def f_Pn_checkPlace (x0 : Int32) (x1 : Int32) (S : St) : Option St := f_Pn_checkPlace_0  x0 x1 S
theorem c_Pn_checkPlace (l : Launch) (D : va_G) (cA cP : ClassId) (ob : Nat → Nat) (ad : Nat → Nat → Nat) (x0 : Int32) (x1 : Int32)  (S : St) {res : St} (hf : f_Pn_checkPlace x0 x1 S = some res) : CTv l y_Pn_checkPlace w_Pn_checkPlace rm_Pn_checkPlace 0 0 D clC (TY cA cP) [.int x0, .int x1] (cw cA cP ob ad S) (fun w => w = cw cA cP ob ad res) :=
  mk_v (cc := b_Pn_checkPlace) (maxL := 2) (own := R_Pn) (by decide) rfl rfl (Nat.le_of_ble_eq_true rfl) (fun p e s m below meth c A Q C0 hret ls hl hP hD hS => w_Pn_checkPlace_0 C0 hret   x0 x1 S _ _ ls hP hD hS (lv_sub hl [0, 1] rfl) hf)
def f_Pt_gap_0   (x1 : Int32) (x2 : Int32) (x3 : Int32) (S : St) : Option (Int64 × St) :=
  bd (f_Rw_get 6 x1 S) (fun q_1 => bn ((Int32.toInt64 q_1.1) - (Int32.toInt64 x2)) (fun x4_2 => bd (f_Rw_get 7 x1 q_1.2) (fun q_3 => bn ((Int32.toInt64 q_3.1) - (Int32.toInt64 x3)) (fun x6_4 => some (((x4_2 * x4_2) + (x6_4 * x6_4)), q_3.2)))))
set_option maxHeartbeats 4000000 in
set_option maxRecDepth 100000 in
theorem w_Pt_gap_0 (C0 : CX p s m args c b_Pt_gap 8 R_Pt w_Pt_gap D clC cA cP A) {res : (Int64 × St)} (hret : RTl p l e rm_Pt_gap s m args below meth c Q D clC A b_Pt_gap 0 0 (fun r w => r = res.1 ∧ w = cw cA cP ob ad res.2))    : ∀ (x1 : Int32) (x2 : Int32) (x3 : Int32) (S : St) (H : Heap) (locs : List Loc) (ls : Array Slot), va_P D clC (cw cA cP ob ad S) H → va_D A (cw cA cP ob ad S) → va_S A s.heap H locs → lv_has ls 8 [(0, .ref (ob 1)), (1, .int x1), (2, .int x2), (3, .int x3)] → f_Pt_gap_0   x1 x2 x3 S = some res → W p l e rm_Pt_gap s m args below meth c H locs 0 0 Q (F0 m 0 ls []) := by
  obtain ⟨hx, hb, hml, hown, hts, hK, hA, hN, hZ⟩ := id C0
  intro x1 x2 x3 S H locs ls hP hD hS hl hf
  rw [f_Pt_gap_0] at hf
  refine lv_aload_n hx hb d_Pt_gap_0 rfl (lv_at hl 0 rfl) ?_
  refine va_get (D := D) (ci := 1) (v := .ref (ob 6)) (C := R_Pt) (T := F_Pt) (N := 5) hx hb hts (fun w h => List.mem_cons_of_mem _ (in_Pt w h)) hown hK hP 1 rfl rfl 2 (by decide) (hts _ (List.mem_cons_of_mem _ wd_136)) (fun _ h9 => h9) rfl d_Pt_gap_1 ?_
  refine lv_iload_n hx hb d_Pt_gap_4 rfl (lv_at hl 1 rfl) ?_
  obtain ⟨q_1, hq_1, hf⟩ := bd_some hf
  refine kc_i (va_runV (As := [.int x1]) (rest := []) ⟨hx, hb, hml, hown, hts⟩ (c_Rw_get l D cA cP ob ad 6 x1 (by decide) S hq_1 H.size) ⟨callB_of 1 hts (gd_Rw_get) rfl rfl rfl (hts _ (List.mem_cons_of_mem _ wd_67)) (hts _ (List.mem_cons_of_mem _ wd_339)) dd_Rw_get ⟨Nat.le_of_ble_eq_true rfl, Nat.le_of_ble_eq_true rfl⟩, (hts _ (List.mem_cons_of_mem _ wd_340)), (hts _ (List.mem_cons_of_mem _ wd_341))⟩ (kpV hK hP hD hN hZ hS 6 6 rfl rfl) rfl rfl hl.1 rfl (lv_room (Nat.le_of_ble_eq_true rfl)) d_Pt_gap_5 ⟨Nat.le_of_ble_eq_true rfl, Nat.le_of_ble_eq_true rfl⟩) hP hD hS hA (fun r w H locs hw hP hD hS => ?_)
  obtain ⟨rfl, rfl⟩ := hw
  refine lv_i2l (v := (Int32.toInt64 q_1.1)) hx hb d_Pt_gap_8 rfl ?_
  refine lv_iload_n hx hb d_Pt_gap_9 rfl (lv_at hl 2 rfl) ?_
  refine lv_i2l (v := (Int32.toInt64 x2)) hx hb d_Pt_gap_10 rfl ?_
  refine lv_lsub hx hb d_Pt_gap_11 ?_
  obtain ⟨x4_2, ex4_2, hf⟩ := bn_some hf
  refine tpl ex4_2 ?_
  refine lv_lstore (lv' := [(4, .long x4_2), (0, .ref (ob 1)), (1, .int x1), (2, .int x2), (3, .int x3)]) hx hb d_Pt_gap_12 hl (by decide) rfl (fun ls hl => ?_)
  refine lv_aload_n hx hb d_Pt_gap_14 rfl (lv_at hl 1 rfl) ?_
  refine va_get (D := D) (ci := 1) (v := .ref (ob 7)) (C := R_Pt) (T := F_Pt) (N := 5) hx hb hts (fun w h => List.mem_cons_of_mem _ (in_Pt w h)) hown hK hP 1 rfl rfl 3 (by decide) (hts _ (List.mem_cons_of_mem _ wd_137)) (fun _ h9 => h9) rfl d_Pt_gap_15 ?_
  refine lv_iload_n hx hb d_Pt_gap_18 rfl (lv_at hl 2 rfl) ?_
  obtain ⟨q_3, hq_3, hf⟩ := bd_some hf
  refine kc_i (va_runV (As := [.int x1]) (rest := []) ⟨hx, hb, hml, hown, hts⟩ (c_Rw_get l D cA cP ob ad 7 x1 (by decide) q_1.2 hq_3 H.size) ⟨callB_of 1 hts (gd_Rw_get) rfl rfl rfl (hts _ (List.mem_cons_of_mem _ wd_67)) (hts _ (List.mem_cons_of_mem _ wd_339)) dd_Rw_get ⟨Nat.le_of_ble_eq_true rfl, Nat.le_of_ble_eq_true rfl⟩, (hts _ (List.mem_cons_of_mem _ wd_340)), (hts _ (List.mem_cons_of_mem _ wd_341))⟩ (kpV hK hP hD hN hZ hS 6 7 rfl rfl) rfl rfl hl.1 rfl (lv_room (Nat.le_of_ble_eq_true rfl)) d_Pt_gap_19 ⟨Nat.le_of_ble_eq_true rfl, Nat.le_of_ble_eq_true rfl⟩) hP hD hS hA (fun r w H locs hw hP hD hS => ?_)
  obtain ⟨rfl, rfl⟩ := hw
  refine lv_i2l (v := (Int32.toInt64 q_3.1)) hx hb d_Pt_gap_22 rfl ?_
  refine lv_iload_n hx hb d_Pt_gap_23 rfl (lv_at hl 4 rfl) ?_
  refine lv_i2l (v := (Int32.toInt64 x3)) hx hb d_Pt_gap_24 rfl ?_
  refine lv_lsub hx hb d_Pt_gap_25 ?_
  obtain ⟨x6_4, ex6_4, hf⟩ := bn_some hf
  refine tpl ex6_4 ?_
  refine lv_lstore (lv' := [(6, .long x6_4), (4, .long x4_2), (0, .ref (ob 1)), (1, .int x1), (2, .int x2), (3, .int x3)]) hx hb d_Pt_gap_26 hl (by decide) rfl (fun ls hl => ?_)
  refine lv_lload hx hb d_Pt_gap_28 (lv_at hl 1 rfl) ?_
  refine lv_lload hx hb d_Pt_gap_30 (lv_at hl 1 rfl) ?_
  refine lv_lmul hx hb d_Pt_gap_32 ?_
  refine lv_lload hx hb d_Pt_gap_33 (lv_at hl 0 rfl) ?_
  refine lv_lload hx hb d_Pt_gap_35 (lv_at hl 0 rfl) ?_
  refine lv_lmul hx hb d_Pt_gap_37 ?_
  refine lv_ladd hx hb d_Pt_gap_38 ?_
  cases hf
  exact hret _ _ _ _ _ _ ⟨rfl, rfl⟩ hP hD hS d_Pt_gap_39
def f_Pt_gap (x1 : Int32) (x2 : Int32) (x3 : Int32) (S : St) : Option (Int64 × St) := f_Pt_gap_0  x1 x2 x3 S
theorem c_Pt_gap (l : Launch) (D : va_G) (cA cP : ClassId) (ob : Nat → Nat) (ad : Nat → Nat → Nat) (x1 : Int32) (x2 : Int32) (x3 : Int32)  (S : St) {res : (Int64 × St)} (hf : f_Pt_gap x1 x2 x3 S = some res) : CTl l y_Pt_gap w_Pt_gap rm_Pt_gap 0 0 D clC (TY cA cP) [.ref (ob 1), .int x1, .int x2, .int x3] (cw cA cP ob ad S) (fun r w => r = res.1 ∧ w = cw cA cP ob ad res.2) :=
  mk_l (cc := b_Pt_gap) (maxL := 8) (own := R_Pt) (by decide) rfl rfl (Nat.le_of_ble_eq_true rfl) (fun p e s m below meth c A Q C0 hret ls hl hP hD hS => w_Pt_gap_0 C0 hret   x1 x2 x3 S _ _ ls hP hD hS (lv_sub hl [0, 1, 2, 3] rfl) hf)
def f_Pt_nearestOf_47  (k9 : Int32 → Int32 → Int32 → Int32 → Int64 → Int32 → St → Option (Int32 × St)) (x1 : Int32) (x2 : Int32) (x3 : Int32) (x4 : Int32) (x5 : Int64) (x7 : Int32) (S : St) : Option (Int32 × St) :=
  bn (x7 + 1) (fun x7_1 => k9 x1 x2 x3 x4 x5 x7_1 S)
set_option maxHeartbeats 4000000 in
set_option maxRecDepth 100000 in
theorem w_Pt_nearestOf_47 (C0 : CX p s m args c b_Pt_nearestOf 10 R_Pt w_Pt_nearestOf D clC cA cP A) {res : (Int32 × St)} (hret : RTi p l e rm_Pt_nearestOf s m args below meth c Q D clC A b_Pt_nearestOf 0 0 (fun r w => r = res.1 ∧ w = cw cA cP ob ad res.2))   (k9 : Int32 → Int32 → Int32 → Int32 → Int64 → Int32 → St → Option (Int32 × St)) (hk9 : ∀ (x1 : Int32) (x2 : Int32) (x3 : Int32) (x4 : Int32) (x5 : Int64) (x7 : Int32) (S : St) (H : Heap) (locs : List Loc) (ls : Array Slot), va_P D clC (cw cA cP ob ad S) H → va_D A (cw cA cP ob ad S) → va_S A s.heap H locs → lv_has ls 10 [(0, .ref (ob 1)), (1, .int x1), (2, .int x2), (3, .int x3), (4, .int x4), (5, .long x5), (7, .int x7)] → k9 x1 x2 x3 x4 x5 x7 S = some res → W p l e rm_Pt_nearestOf s m args below meth c H locs 0 0 Q (F0 m 9 ls [])) : ∀ (x1 : Int32) (x2 : Int32) (x3 : Int32) (x4 : Int32) (x5 : Int64) (x7 : Int32) (S : St) (H : Heap) (locs : List Loc) (ls : Array Slot), va_P D clC (cw cA cP ob ad S) H → va_D A (cw cA cP ob ad S) → va_S A s.heap H locs → lv_has ls 10 [(0, .ref (ob 1)), (1, .int x1), (2, .int x2), (3, .int x3), (4, .int x4), (5, .long x5), (7, .int x7)] → f_Pt_nearestOf_47  k9 x1 x2 x3 x4 x5 x7 S = some res → W p l e rm_Pt_nearestOf s m args below meth c H locs 0 0 Q (F0 m 47 ls []) := by
  obtain ⟨hx, hb, hml, hown, hts, hK, hA, hN, hZ⟩ := id C0
  intro x1 x2 x3 x4 x5 x7 S H locs ls hP hD hS hl hf
  rw [f_Pt_nearestOf_47] at hf
  obtain ⟨x7_1, ex7_1, hf⟩ := bn_some hf
  refine lv_iinc (v := x7_1) (lv' := [(7, .int x7_1), (0, .ref (ob 1)), (1, .int x1), (2, .int x2), (3, .int x3), (4, .int x4), (5, .long x5)]) hx hb d_Pt_nearestOf_47 hl (k := 6) rfl (by rw [ex7_1]; rfl) (by decide) rfl (fun ls hl => ?_)
  refine lv_goto (tgt := 9) hx hb d_Pt_nearestOf_50 (by decide) ?_
  exact hk9 x1 x2 x3 x4 x5 x7_1 S H locs ls hP hD hS (lv_sub hl [1, 2, 3, 4, 5, 6, 0] rfl) hf
def f_Pt_nearestOf_39  (k9 : Int32 → Int32 → Int32 → Int32 → Int64 → Int32 → St → Option (Int32 × St)) (x1 : Int32) (x2 : Int32) (x3 : Int32) (x7 : Int32) (x8 : Int64) (S : St) : Option (Int32 × St) :=
  f_Pt_nearestOf_47  k9 x1 x2 x3 x7 x8 x7 S
set_option maxHeartbeats 4000000 in
set_option maxRecDepth 100000 in
theorem w_Pt_nearestOf_39 (C0 : CX p s m args c b_Pt_nearestOf 10 R_Pt w_Pt_nearestOf D clC cA cP A) {res : (Int32 × St)} (hret : RTi p l e rm_Pt_nearestOf s m args below meth c Q D clC A b_Pt_nearestOf 0 0 (fun r w => r = res.1 ∧ w = cw cA cP ob ad res.2))   (k9 : Int32 → Int32 → Int32 → Int32 → Int64 → Int32 → St → Option (Int32 × St)) (hk9 : ∀ (x1 : Int32) (x2 : Int32) (x3 : Int32) (x4 : Int32) (x5 : Int64) (x7 : Int32) (S : St) (H : Heap) (locs : List Loc) (ls : Array Slot), va_P D clC (cw cA cP ob ad S) H → va_D A (cw cA cP ob ad S) → va_S A s.heap H locs → lv_has ls 10 [(0, .ref (ob 1)), (1, .int x1), (2, .int x2), (3, .int x3), (4, .int x4), (5, .long x5), (7, .int x7)] → k9 x1 x2 x3 x4 x5 x7 S = some res → W p l e rm_Pt_nearestOf s m args below meth c H locs 0 0 Q (F0 m 9 ls [])) : ∀ (x1 : Int32) (x2 : Int32) (x3 : Int32) (x7 : Int32) (x8 : Int64) (S : St) (H : Heap) (locs : List Loc) (ls : Array Slot), va_P D clC (cw cA cP ob ad S) H → va_D A (cw cA cP ob ad S) → va_S A s.heap H locs → lv_has ls 10 [(0, .ref (ob 1)), (1, .int x1), (2, .int x2), (3, .int x3), (7, .int x7), (8, .long x8)] → f_Pt_nearestOf_39  k9 x1 x2 x3 x7 x8 S = some res → W p l e rm_Pt_nearestOf s m args below meth c H locs 0 0 Q (F0 m 39 ls []) := by
  obtain ⟨hx, hb, hml, hown, hts, hK, hA, hN, hZ⟩ := id C0
  intro x1 x2 x3 x7 x8 S H locs ls hP hD hS hl hf
  rw [f_Pt_nearestOf_39] at hf
  refine lv_iload hx hb d_Pt_nearestOf_39 (lv_at hl 4 rfl) ?_
  refine lv_istore (lv' := [(4, .int x7), (0, .ref (ob 1)), (1, .int x1), (2, .int x2), (3, .int x3), (7, .int x7), (8, .long x8)]) hx hb d_Pt_nearestOf_41 hl (by decide) rfl (fun ls hl => ?_)
  refine lv_lload hx hb d_Pt_nearestOf_43 (lv_at hl 6 rfl) ?_
  refine lv_lstore (lv' := [(5, .long x8), (4, .int x7), (0, .ref (ob 1)), (1, .int x1), (2, .int x2), (3, .int x3), (7, .int x7), (8, .long x8)]) hx hb d_Pt_nearestOf_45 hl (by decide) rfl (fun ls hl => ?_)
  exact w_Pt_nearestOf_47 C0 hret   k9 hk9 x1 x2 x3 x7 x8 x7 S H locs ls hP hD hS (lv_sub hl [2, 3, 4, 5, 1, 0, 6] rfl) hf
def f_Pt_nearestOf_9   : Nat → Int32 → Int32 → Int32 → Int32 → Int64 → Int32 → St → Option (Int32 × St)
  | 0 => fun _ _ _ _ _ _ _ => none
  | n + 1 => fun x1 x2 x3 x4 x5 x7 S => (if x1 ≤ x7 then
      some (x4, S)
      else
      bd (f_Pt_gap x7 x2 x3 S) (fun q_2 => (if x4 = (-1) then
        f_Pt_nearestOf_39  (f_Pt_nearestOf_9  n) x1 x2 x3 x7 q_2.1 q_2.2
        else
        (if 0 ≤ (lg_cmp q_2.1 x5) then
          f_Pt_nearestOf_47  (f_Pt_nearestOf_9  n) x1 x2 x3 x4 x5 x7 q_2.2
          else
          f_Pt_nearestOf_39  (f_Pt_nearestOf_9  n) x1 x2 x3 x7 q_2.1 q_2.2))))
set_option maxHeartbeats 4000000 in
set_option maxRecDepth 100000 in
theorem w_Pt_nearestOf_9 (C0 : CX p s m args c b_Pt_nearestOf 10 R_Pt w_Pt_nearestOf D clC cA cP A) {res : (Int32 × St)} (hret : RTi p l e rm_Pt_nearestOf s m args below meth c Q D clC A b_Pt_nearestOf 0 0 (fun r w => r = res.1 ∧ w = cw cA cP ob ad res.2))    : ∀ (n : Nat) (x1 : Int32) (x2 : Int32) (x3 : Int32) (x4 : Int32) (x5 : Int64) (x7 : Int32) (S : St) (H : Heap) (locs : List Loc) (ls : Array Slot), va_P D clC (cw cA cP ob ad S) H → va_D A (cw cA cP ob ad S) → va_S A s.heap H locs → lv_has ls 10 [(0, .ref (ob 1)), (1, .int x1), (2, .int x2), (3, .int x3), (4, .int x4), (5, .long x5), (7, .int x7)] → f_Pt_nearestOf_9   n x1 x2 x3 x4 x5 x7 S = some res → W p l e rm_Pt_nearestOf s m args below meth c H locs 0 0 Q (F0 m 9 ls []) := by
  obtain ⟨hx, hb, hml, hown, hts, hK, hA, hN, hZ⟩ := id C0
  intro n
  induction n with
  | zero =>
    intro x1 x2 x3 x4 x5 x7 S H locs ls hP hD hS hl hf
    cases hf
  | succ n ih =>
    intro x1 x2 x3 x4 x5 x7 S H locs ls hP hD hS hl hf
    rw [f_Pt_nearestOf_9] at hf
    try dsimp only at hf
    refine lv_iload hx hb d_Pt_nearestOf_9 (lv_at hl 6 rfl) ?_
    refine lv_iload_n hx hb d_Pt_nearestOf_11 rfl (lv_at hl 1 rfl) ?_
    refine lv_icmp_ge (tgt := 53) hx hb d_Pt_nearestOf_12 (by decide) (fun c_1 => ?_) (fun c_1 => ?_)
    · rw [if_pos c_1] at hf
      refine lv_iload hx hb d_Pt_nearestOf_53 (lv_at hl 4 rfl) ?_
      cases hf
      exact hret _ _ _ _ _ _ ⟨rfl, rfl⟩ hP hD hS d_Pt_nearestOf_55
    · rw [if_neg c_1] at hf
      refine lv_aload_n hx hb d_Pt_nearestOf_15 rfl (lv_at hl 0 rfl) ?_
      refine lv_iload hx hb d_Pt_nearestOf_16 (lv_at hl 6 rfl) ?_
      refine lv_iload_n hx hb d_Pt_nearestOf_18 rfl (lv_at hl 2 rfl) ?_
      refine lv_iload_n hx hb d_Pt_nearestOf_19 rfl (lv_at hl 3 rfl) ?_
      obtain ⟨q_2, hq_2, hf⟩ := bd_some hf
      refine kc_l (va_runV (As := [.int x7, .int x2, .int x3]) (rest := []) ⟨hx, hb, hml, hown, hts⟩ (c_Pt_gap l D cA cP ob ad x7 x2 x3  S hq_2 H.size) ⟨callB_of 3 hts (gd_Pt_gap) rfl rfl rfl (hts _ (List.mem_cons_of_mem _ wd_65)) (hts _ (List.mem_cons_of_mem _ wd_501)) dd_Pt_gap ⟨Nat.le_of_ble_eq_true rfl, Nat.le_of_ble_eq_true rfl⟩, (hts _ (List.mem_cons_of_mem _ wd_502)), (hts _ (List.mem_cons_of_mem _ wd_503))⟩ (kpV hK hP hD hN hZ hS 1 1 rfl rfl) rfl rfl hl.1 rfl (lv_room (Nat.le_of_ble_eq_true rfl)) d_Pt_nearestOf_20 ⟨Nat.le_of_ble_eq_true rfl, Nat.le_of_ble_eq_true rfl⟩) hP hD hS hA (fun r w H locs hw hP hD hS => ?_)
      obtain ⟨rfl, rfl⟩ := hw
      refine lv_lstore (lv' := [(8, .long q_2.1), (0, .ref (ob 1)), (1, .int x1), (2, .int x2), (3, .int x3), (4, .int x4), (5, .long x5), (7, .int x7)]) hx hb d_Pt_nearestOf_23 hl (by decide) rfl (fun ls hl => ?_)
      refine lv_iload hx hb d_Pt_nearestOf_25 (lv_at hl 5 rfl) ?_
      refine lv_iconst (v := (-1)) hx hb d_Pt_nearestOf_27 (by decide) ?_
      refine lv_icmp_eq (tgt := 39) hx hb d_Pt_nearestOf_28 (by decide) (fun c_3 => ?_) (fun c_3 => ?_)
      · rw [if_pos c_3] at hf
        exact w_Pt_nearestOf_39 C0 hret   (f_Pt_nearestOf_9  n) ih x1 x2 x3 x7 q_2.1 q_2.2 H locs ls hP hD hS (lv_sub hl [1, 2, 3, 4, 7, 0] rfl) hf
      · rw [if_neg c_3] at hf
        refine lv_lload hx hb d_Pt_nearestOf_31 (lv_at hl 0 rfl) ?_
        refine lv_lload hx hb d_Pt_nearestOf_33 (lv_at hl 6 rfl) ?_
        refine W.lcmp hx hb d_Pt_nearestOf_35 ?_
        refine lv_if_ge (tgt := 47) hx hb d_Pt_nearestOf_36 (by decide) (fun c_4 => ?_) (fun c_4 => ?_)
        · rw [if_pos c_4] at hf
          exact w_Pt_nearestOf_47 C0 hret   (f_Pt_nearestOf_9  n) ih x1 x2 x3 x4 x5 x7 q_2.2 H locs ls hP hD hS (lv_sub hl [1, 2, 3, 4, 5, 6, 7] rfl) hf
        · rw [if_neg c_4] at hf
          exact w_Pt_nearestOf_39 C0 hret   (f_Pt_nearestOf_9  n) ih x1 x2 x3 x7 q_2.1 q_2.2 H locs ls hP hD hS (lv_sub hl [1, 2, 3, 4, 7, 0] rfl) hf
def f_Pt_nearestOf_0   (x1 : Int32) (x2 : Int32) (x3 : Int32) (S : St) : Option (Int32 × St) :=
  f_Pt_nearestOf_9   FU x1 x2 x3 (-1) 0 0 S
set_option maxHeartbeats 4000000 in
set_option maxRecDepth 100000 in
theorem w_Pt_nearestOf_0 (C0 : CX p s m args c b_Pt_nearestOf 10 R_Pt w_Pt_nearestOf D clC cA cP A) {res : (Int32 × St)} (hret : RTi p l e rm_Pt_nearestOf s m args below meth c Q D clC A b_Pt_nearestOf 0 0 (fun r w => r = res.1 ∧ w = cw cA cP ob ad res.2))    : ∀ (x1 : Int32) (x2 : Int32) (x3 : Int32) (S : St) (H : Heap) (locs : List Loc) (ls : Array Slot), va_P D clC (cw cA cP ob ad S) H → va_D A (cw cA cP ob ad S) → va_S A s.heap H locs → lv_has ls 10 [(0, .ref (ob 1)), (1, .int x1), (2, .int x2), (3, .int x3)] → f_Pt_nearestOf_0   x1 x2 x3 S = some res → W p l e rm_Pt_nearestOf s m args below meth c H locs 0 0 Q (F0 m 0 ls []) := by
  obtain ⟨hx, hb, hml, hown, hts, hK, hA, hN, hZ⟩ := id C0
  intro x1 x2 x3 S H locs ls hP hD hS hl hf
  rw [f_Pt_nearestOf_0] at hf
  refine lv_iconst (v := (-1)) hx hb d_Pt_nearestOf_0 (by decide) ?_
  refine lv_istore (lv' := [(4, .int (-1)), (0, .ref (ob 1)), (1, .int x1), (2, .int x2), (3, .int x3)]) hx hb d_Pt_nearestOf_1 hl (by decide) rfl (fun ls hl => ?_)
  refine lv_lconst (v := 0) hx hb d_Pt_nearestOf_3 (by decide) ?_
  refine lv_lstore (lv' := [(5, .long 0), (4, .int (-1)), (0, .ref (ob 1)), (1, .int x1), (2, .int x2), (3, .int x3)]) hx hb d_Pt_nearestOf_4 hl (by decide) rfl (fun ls hl => ?_)
  refine lv_iconst (v := 0) hx hb d_Pt_nearestOf_6 (by decide) ?_
  refine lv_istore (lv' := [(7, .int 0), (5, .long 0), (4, .int (-1)), (0, .ref (ob 1)), (1, .int x1), (2, .int x2), (3, .int x3)]) hx hb d_Pt_nearestOf_7 hl (by decide) rfl (fun ls hl => ?_)
  exact w_Pt_nearestOf_9 C0 hret    FU x1 x2 x3 (-1) 0 0 S H locs ls hP hD hS (lv_sub hl [3, 4, 5, 6, 2, 1, 0] rfl) hf
def f_Pt_nearestOf (x1 : Int32) (x2 : Int32) (x3 : Int32) (S : St) : Option (Int32 × St) := f_Pt_nearestOf_0  x1 x2 x3 S
theorem c_Pt_nearestOf (l : Launch) (D : va_G) (cA cP : ClassId) (ob : Nat → Nat) (ad : Nat → Nat → Nat) (x1 : Int32) (x2 : Int32) (x3 : Int32)  (S : St) {res : (Int32 × St)} (hf : f_Pt_nearestOf x1 x2 x3 S = some res) : CTi l y_Pt_nearestOf w_Pt_nearestOf rm_Pt_nearestOf 0 0 D clC (TY cA cP) [.ref (ob 1), .int x1, .int x2, .int x3] (cw cA cP ob ad S) (fun r w => r = res.1 ∧ w = cw cA cP ob ad res.2) :=
  mk_i (cc := b_Pt_nearestOf) (maxL := 10) (own := R_Pt) (by decide) rfl rfl (Nat.le_of_ble_eq_true rfl) (fun p e s m below meth c A Q C0 hret ls hl hP hD hS => w_Pt_nearestOf_0 C0 hret   x1 x2 x3 S _ _ ls hP hD hS (lv_sub hl [0, 1, 2, 3] rfl) hf)
def f_Pt_isAt_0   (x1 : Int32) (x2 : Int32) (x3 : Int32) (S : St) : Option (Int32 × St) :=
  (if x1 < 0 then
    some (0, S)
    else
    (if (gi S 3) ≤ x1 then
      some (0, S)
      else
      bd (f_Rw_get 6 x1 S) (fun q_3 => (if q_3.1 = x2 then
        bd (f_Rw_get 7 x1 q_3.2) (fun q_5 => (if q_5.1 = x3 then
          some (1, q_5.2)
          else
          some (0, q_5.2)))
        else
        some (0, q_3.2)))))
set_option maxHeartbeats 4000000 in
set_option maxRecDepth 100000 in
theorem w_Pt_isAt_0 (C0 : CX p s m args c b_Pt_isAt 4 R_Pt w_Pt_isAt D clC cA cP A) {res : (Int32 × St)} (hret : RTz p l e rm_Pt_isAt s m args below meth c Q D clC A b_Pt_isAt 0 0 (fun r w => r = res.1 ∧ w = cw cA cP ob ad res.2))    : ∀ (x1 : Int32) (x2 : Int32) (x3 : Int32) (S : St) (H : Heap) (locs : List Loc) (ls : Array Slot), va_P D clC (cw cA cP ob ad S) H → va_D A (cw cA cP ob ad S) → va_S A s.heap H locs → lv_has ls 4 [(0, .ref (ob 1)), (1, .int x1), (2, .int x2), (3, .int x3)] → f_Pt_isAt_0   x1 x2 x3 S = some res → W p l e rm_Pt_isAt s m args below meth c H locs 0 0 Q (F0 m 0 ls []) := by
  obtain ⟨hx, hb, hml, hown, hts, hK, hA, hN, hZ⟩ := id C0
  intro x1 x2 x3 S H locs ls hP hD hS hl hf
  rw [f_Pt_isAt_0] at hf
  refine lv_iload_n hx hb d_Pt_isAt_0 rfl (lv_at hl 1 rfl) ?_
  refine lv_if_lt (tgt := 40) hx hb d_Pt_isAt_1 (by decide) (fun c_1 => ?_) (fun c_1 => ?_)
  · rw [if_pos c_1] at hf
    refine lv_iconst (v := 0) hx hb d_Pt_isAt_40 (by decide) ?_
    cases hf
    exact hret _ _ _ _ _ _ ⟨rfl, rfl⟩ rfl hP hD hS d_Pt_isAt_41
  · rw [if_neg c_1] at hf
    refine lv_iload_n hx hb d_Pt_isAt_4 rfl (lv_at hl 1 rfl) ?_
    refine lv_aload_n hx hb d_Pt_isAt_5 rfl (lv_at hl 0 rfl) ?_
    refine va_get (D := D) (ci := 1) (v := .int (gi S 3)) (C := R_Pt) (T := F_Pt) (N := 5) hx hb hts (fun w h => List.mem_cons_of_mem _ (in_Pt w h)) hown hK hP 1 rfl rfl 1 (by decide) (hts _ (List.mem_cons_of_mem _ wd_132)) (fun _ h9 => h9) rfl d_Pt_isAt_6 ?_
    refine lv_icmp_ge (tgt := 40) hx hb d_Pt_isAt_9 (by decide) (fun c_2 => ?_) (fun c_2 => ?_)
    · rw [if_pos c_2] at hf
      refine lv_iconst (v := 0) hx hb d_Pt_isAt_40 (by decide) ?_
      cases hf
      exact hret _ _ _ _ _ _ ⟨rfl, rfl⟩ rfl hP hD hS d_Pt_isAt_41
    · rw [if_neg c_2] at hf
      refine lv_aload_n hx hb d_Pt_isAt_12 rfl (lv_at hl 0 rfl) ?_
      refine va_get (D := D) (ci := 1) (v := .ref (ob 6)) (C := R_Pt) (T := F_Pt) (N := 5) hx hb hts (fun w h => List.mem_cons_of_mem _ (in_Pt w h)) hown hK hP 1 rfl rfl 2 (by decide) (hts _ (List.mem_cons_of_mem _ wd_136)) (fun _ h9 => h9) rfl d_Pt_isAt_13 ?_
      refine lv_iload_n hx hb d_Pt_isAt_16 rfl (lv_at hl 1 rfl) ?_
      obtain ⟨q_3, hq_3, hf⟩ := bd_some hf
      refine kc_i (va_runV (As := [.int x1]) (rest := []) ⟨hx, hb, hml, hown, hts⟩ (c_Rw_get l D cA cP ob ad 6 x1 (by decide) S hq_3 H.size) ⟨callB_of 1 hts (gd_Rw_get) rfl rfl rfl (hts _ (List.mem_cons_of_mem _ wd_67)) (hts _ (List.mem_cons_of_mem _ wd_339)) dd_Rw_get ⟨Nat.le_of_ble_eq_true rfl, Nat.le_of_ble_eq_true rfl⟩, (hts _ (List.mem_cons_of_mem _ wd_340)), (hts _ (List.mem_cons_of_mem _ wd_341))⟩ (kpV hK hP hD hN hZ hS 6 6 rfl rfl) rfl rfl hl.1 rfl (lv_room (Nat.le_of_ble_eq_true rfl)) d_Pt_isAt_17 ⟨Nat.le_of_ble_eq_true rfl, Nat.le_of_ble_eq_true rfl⟩) hP hD hS hA (fun r w H locs hw hP hD hS => ?_)
      obtain ⟨rfl, rfl⟩ := hw
      refine lv_iload_n hx hb d_Pt_isAt_20 rfl (lv_at hl 2 rfl) ?_
      refine lv_icmp_ne (tgt := 40) hx hb d_Pt_isAt_21 (by decide) (fun c_4 => ?_) (fun c_4 => ?_)
      · rw [if_neg c_4] at hf
        refine lv_iconst (v := 0) hx hb d_Pt_isAt_40 (by decide) ?_
        cases hf
        exact hret _ _ _ _ _ _ ⟨rfl, rfl⟩ rfl hP hD hS d_Pt_isAt_41
      · rw [if_pos c_4] at hf
        refine lv_aload_n hx hb d_Pt_isAt_24 rfl (lv_at hl 0 rfl) ?_
        refine va_get (D := D) (ci := 1) (v := .ref (ob 7)) (C := R_Pt) (T := F_Pt) (N := 5) hx hb hts (fun w h => List.mem_cons_of_mem _ (in_Pt w h)) hown hK hP 1 rfl rfl 3 (by decide) (hts _ (List.mem_cons_of_mem _ wd_137)) (fun _ h9 => h9) rfl d_Pt_isAt_25 ?_
        refine lv_iload_n hx hb d_Pt_isAt_28 rfl (lv_at hl 1 rfl) ?_
        obtain ⟨q_5, hq_5, hf⟩ := bd_some hf
        refine kc_i (va_runV (As := [.int x1]) (rest := []) ⟨hx, hb, hml, hown, hts⟩ (c_Rw_get l D cA cP ob ad 7 x1 (by decide) q_3.2 hq_5 H.size) ⟨callB_of 1 hts (gd_Rw_get) rfl rfl rfl (hts _ (List.mem_cons_of_mem _ wd_67)) (hts _ (List.mem_cons_of_mem _ wd_339)) dd_Rw_get ⟨Nat.le_of_ble_eq_true rfl, Nat.le_of_ble_eq_true rfl⟩, (hts _ (List.mem_cons_of_mem _ wd_340)), (hts _ (List.mem_cons_of_mem _ wd_341))⟩ (kpV hK hP hD hN hZ hS 6 7 rfl rfl) rfl rfl hl.1 rfl (lv_room (Nat.le_of_ble_eq_true rfl)) d_Pt_isAt_29 ⟨Nat.le_of_ble_eq_true rfl, Nat.le_of_ble_eq_true rfl⟩) hP hD hS hA (fun r w H locs hw hP hD hS => ?_)
        obtain ⟨rfl, rfl⟩ := hw
        refine lv_iload_n hx hb d_Pt_isAt_32 rfl (lv_at hl 3 rfl) ?_
        refine lv_icmp_ne (tgt := 40) hx hb d_Pt_isAt_33 (by decide) (fun c_6 => ?_) (fun c_6 => ?_)
        · rw [if_neg c_6] at hf
          refine lv_iconst (v := 0) hx hb d_Pt_isAt_40 (by decide) ?_
          cases hf
          exact hret _ _ _ _ _ _ ⟨rfl, rfl⟩ rfl hP hD hS d_Pt_isAt_41
        · rw [if_pos c_6] at hf
          refine lv_iconst (v := 1) hx hb d_Pt_isAt_36 (by decide) ?_
          refine lv_goto (tgt := 41) hx hb d_Pt_isAt_37 (by decide) ?_
          cases hf
          exact hret _ _ _ _ _ _ ⟨rfl, rfl⟩ rfl hP hD hS d_Pt_isAt_41
def f_Pt_isAt (x1 : Int32) (x2 : Int32) (x3 : Int32) (S : St) : Option (Int32 × St) := f_Pt_isAt_0  x1 x2 x3 S
theorem c_Pt_isAt (l : Launch) (D : va_G) (cA cP : ClassId) (ob : Nat → Nat) (ad : Nat → Nat → Nat) (x1 : Int32) (x2 : Int32) (x3 : Int32)  (S : St) {res : (Int32 × St)} (hf : f_Pt_isAt x1 x2 x3 S = some res) : CTi l y_Pt_isAt w_Pt_isAt rm_Pt_isAt 0 0 D clC (TY cA cP) [.ref (ob 1), .int x1, .int x2, .int x3] (cw cA cP ob ad S) (fun r w => r = res.1 ∧ w = cw cA cP ob ad res.2) :=
  mk_z (cc := b_Pt_isAt) (maxL := 4) (own := R_Pt) (by decide) rfl rfl (Nat.le_of_ble_eq_true rfl) (fun p e s m below meth c A Q C0 hret ls hl hP hD hS => w_Pt_isAt_0 C0 hret   x1 x2 x3 S _ _ ls hP hD hS (lv_sub hl [0, 1, 2, 3] rfl) hf)
def f_Pt_isFull_0    (S : St) : Option (Int32 × St) :=
  (if (gi S 3) < (gi S 2) then
    some (0, S)
    else
    some (1, S))
set_option maxHeartbeats 4000000 in
set_option maxRecDepth 100000 in
theorem w_Pt_isFull_0 (C0 : CX p s m args c b_Pt_isFull 1 R_Pt w_Pt_isFull D clC cA cP A) {res : (Int32 × St)} (hret : RTz p l e rm_Pt_isFull s m args below meth c Q D clC A b_Pt_isFull 0 0 (fun r w => r = res.1 ∧ w = cw cA cP ob ad res.2))    : ∀  (S : St) (H : Heap) (locs : List Loc) (ls : Array Slot), va_P D clC (cw cA cP ob ad S) H → va_D A (cw cA cP ob ad S) → va_S A s.heap H locs → lv_has ls 1 [(0, .ref (ob 1))] → f_Pt_isFull_0    S = some res → W p l e rm_Pt_isFull s m args below meth c H locs 0 0 Q (F0 m 0 ls []) := by
  obtain ⟨hx, hb, hml, hown, hts, hK, hA, hN, hZ⟩ := id C0
  intro  S H locs ls hP hD hS hl hf
  rw [f_Pt_isFull_0] at hf
  refine lv_aload_n hx hb d_Pt_isFull_0 rfl (lv_at hl 0 rfl) ?_
  refine va_get (D := D) (ci := 1) (v := .int (gi S 3)) (C := R_Pt) (T := F_Pt) (N := 5) hx hb hts (fun w h => List.mem_cons_of_mem _ (in_Pt w h)) hown hK hP 1 rfl rfl 1 (by decide) (hts _ (List.mem_cons_of_mem _ wd_132)) (fun _ h9 => h9) rfl d_Pt_isFull_1 ?_
  refine lv_aload_n hx hb d_Pt_isFull_4 rfl (lv_at hl 0 rfl) ?_
  refine va_get (D := D) (ci := 1) (v := .int (gi S 2)) (C := R_Pt) (T := F_Pt) (N := 5) hx hb hts (fun w h => List.mem_cons_of_mem _ (in_Pt w h)) hown hK hP 1 rfl rfl 0 (by decide) (hts _ (List.mem_cons_of_mem _ wd_128)) (fun _ h9 => h9) rfl d_Pt_isFull_5 ?_
  refine lv_icmp_lt (tgt := 15) hx hb d_Pt_isFull_8 (by decide) (fun c_1 => ?_) (fun c_1 => ?_)
  · rw [if_pos c_1] at hf
    refine lv_iconst (v := 0) hx hb d_Pt_isFull_15 (by decide) ?_
    cases hf
    exact hret _ _ _ _ _ _ ⟨rfl, rfl⟩ rfl hP hD hS d_Pt_isFull_16
  · rw [if_neg c_1] at hf
    refine lv_iconst (v := 1) hx hb d_Pt_isFull_11 (by decide) ?_
    refine lv_goto (tgt := 16) hx hb d_Pt_isFull_12 (by decide) ?_
    cases hf
    exact hret _ _ _ _ _ _ ⟨rfl, rfl⟩ rfl hP hD hS d_Pt_isFull_16
def f_Pt_isFull  (S : St) : Option (Int32 × St) := f_Pt_isFull_0   S
theorem c_Pt_isFull (l : Launch) (D : va_G) (cA cP : ClassId) (ob : Nat → Nat) (ad : Nat → Nat → Nat)   (S : St) {res : (Int32 × St)} (hf : f_Pt_isFull  S = some res) : CTi l y_Pt_isFull w_Pt_isFull rm_Pt_isFull 0 0 D clC (TY cA cP) [.ref (ob 1)] (cw cA cP ob ad S) (fun r w => r = res.1 ∧ w = cw cA cP ob ad res.2) :=
  mk_z (cc := b_Pt_isFull) (maxL := 1) (own := R_Pt) (by decide) rfl rfl (Nat.le_of_ble_eq_true rfl) (fun p e s m below meth c A Q C0 hret ls hl hP hD hS => w_Pt_isFull_0 C0 hret    S _ _ ls hP hD hS (lv_sub hl [0] rfl) hf)
def f_Pt_makeRoom_0   (x1 : Int32) (S : St) : Option St :=
  bd (f_Rw_reach 6 x1 S) (fun q_1 => bd (f_Rw_reach 7 x1 q_1) (fun q_2 => some q_2))
set_option maxHeartbeats 4000000 in
set_option maxRecDepth 100000 in
theorem w_Pt_makeRoom_0 (C0 : CX p s m args c b_Pt_makeRoom 2 R_Pt w_Pt_makeRoom D clC cA cP A) {res : St} (hret : RTv p l e rm_Pt_makeRoom s m args below meth c Q D clC A b_Pt_makeRoom 2 64 (fun w => ∃ ad, w = cw cA cP ob ad res))    : ∀ (x1 : Int32) (S : St) (ad : Nat → Nat → Nat) (H : Heap) (locs : List Loc) (ls : Array Slot), va_P D clC (cw cA cP ob ad S) H → va_D A (cw cA cP ob ad S) → va_S A s.heap H locs → lv_has ls 2 [(0, .ref (ob 1)), (1, .int x1)] → f_Pt_makeRoom_0   x1 S = some res → W p l e rm_Pt_makeRoom s m args below meth c H locs 0 0 Q (F0 m 0 ls []) := by
  obtain ⟨hx, hb, hml, hown, hts, hK, hA, hN, hZ⟩ := id C0
  intro x1 S ad H locs ls hP hD hS hl hf
  rw [f_Pt_makeRoom_0] at hf
  refine lv_aload_n hx hb d_Pt_makeRoom_0 rfl (lv_at hl 0 rfl) ?_
  refine va_get (D := D) (ci := 1) (v := .ref (ob 6)) (C := R_Pt) (T := F_Pt) (N := 5) hx hb hts (fun w h => List.mem_cons_of_mem _ (in_Pt w h)) hown hK hP 1 rfl rfl 2 (by decide) (hts _ (List.mem_cons_of_mem _ wd_136)) (fun _ h9 => h9) rfl d_Pt_makeRoom_1 ?_
  refine lv_iload_n hx hb d_Pt_makeRoom_4 rfl (lv_at hl 1 rfl) ?_
  obtain ⟨q_1, hq_1, hf⟩ := bd_some hf
  refine kc_v (va_runV (As := [.int x1]) (rest := []) ⟨hx, hb, hml, hown, hts⟩ (c_Rw_reach l D cA cP ob ad 6 x1 (by decide) S hq_1 H.size) ⟨callB_of 1 hts (gd_Rw_reach) rfl rfl rfl (hts _ (List.mem_cons_of_mem _ wd_67)) (hts _ (List.mem_cons_of_mem _ wd_537)) dd_Rw_reach ⟨Nat.le_of_ble_eq_true rfl, Nat.le_of_ble_eq_true rfl⟩, (hts _ (List.mem_cons_of_mem _ wd_538)), (hts _ (List.mem_cons_of_mem _ wd_539))⟩ (kpV hK hP hD hN hZ hS 6 6 rfl rfl) rfl rfl hl.1 rfl (lv_room (Nat.le_of_ble_eq_true rfl)) d_Pt_makeRoom_5 ⟨by decide +kernel, by decide +kernel⟩) hP hD hS hA (fun w H locs hw hP hD hS => ?_)
  obtain ⟨ad, rfl⟩ := hw
  refine W.widen (k := 1) (n := 32) (by decide +kernel) (by decide +kernel) ?_
  refine lv_aload_n hx hb d_Pt_makeRoom_8 rfl (lv_at hl 0 rfl) ?_
  refine va_get (D := D) (ci := 1) (v := .ref (ob 7)) (C := R_Pt) (T := F_Pt) (N := 5) hx hb hts (fun w h => List.mem_cons_of_mem _ (in_Pt w h)) hown hK hP 1 rfl rfl 3 (by decide) (hts _ (List.mem_cons_of_mem _ wd_137)) (fun _ h9 => h9) rfl d_Pt_makeRoom_9 ?_
  refine lv_iload_n hx hb d_Pt_makeRoom_12 rfl (lv_at hl 1 rfl) ?_
  obtain ⟨q_2, hq_2, hf⟩ := bd_some hf
  refine kc_v (va_runV (As := [.int x1]) (rest := []) ⟨hx, hb, hml, hown, hts⟩ (c_Rw_reach l D cA cP ob ad 7 x1 (by decide) q_1 hq_2 H.size) ⟨callB_of 1 hts (gd_Rw_reach) rfl rfl rfl (hts _ (List.mem_cons_of_mem _ wd_67)) (hts _ (List.mem_cons_of_mem _ wd_537)) dd_Rw_reach ⟨Nat.le_of_ble_eq_true rfl, Nat.le_of_ble_eq_true rfl⟩, (hts _ (List.mem_cons_of_mem _ wd_538)), (hts _ (List.mem_cons_of_mem _ wd_539))⟩ (kpV hK hP hD hN hZ hS 6 7 rfl rfl) rfl rfl hl.1 rfl (lv_room (Nat.le_of_ble_eq_true rfl)) d_Pt_makeRoom_13 ⟨by decide +kernel, by decide +kernel⟩) hP hD hS hA (fun w H locs hw hP hD hS => ?_)
  obtain ⟨ad, rfl⟩ := hw
  refine W.widen (k := 2) (n := 64) (by decide +kernel) (by decide +kernel) ?_
  cases hf
  exact hret _ _ _ _ _ ⟨ad, rfl⟩ hP hD hS d_Pt_makeRoom_16
def f_Pt_makeRoom (x1 : Int32) (S : St) : Option St := f_Pt_makeRoom_0  x1 S
theorem c_Pt_makeRoom (l : Launch) (D : va_G) (cA cP : ClassId) (ob : Nat → Nat) (ad : Nat → Nat → Nat) (x1 : Int32)  (S : St) {res : St} (hf : f_Pt_makeRoom x1 S = some res) : CTv l y_Pt_makeRoom w_Pt_makeRoom rm_Pt_makeRoom 2 64 D clC (TY cA cP) [.ref (ob 1), .int x1] (cw cA cP ob ad S) (fun w => ∃ ad, w = cw cA cP ob ad res) :=
  mk_v (cc := b_Pt_makeRoom) (maxL := 2) (own := R_Pt) (by decide) rfl rfl (Nat.le_of_ble_eq_true rfl) (fun p e s m below meth c A Q C0 hret ls hl hP hD hS => w_Pt_makeRoom_0 C0 hret   x1 S ad _ _ ls hP hD hS (lv_sub hl [0, 1] rfl) hf)
def f_Nt_makeRoom_0   (x1 : Int32) (S : St) : Option St :=
  bd (f_Rw_reach 8 (6 * x1) S) (fun q_1 => bd (f_Rw_reach 9 (6 * x1) q_1) (fun q_2 => bd (f_Rw_reach 10 (x1 + 1) q_2) (fun q_3 => bd (f_Rw_reach 11 (2 * x1) q_3) (fun q_4 => bd (f_Rw_reach 12 (2 * x1) q_4) (fun q_5 => bd (f_Rw_reach 13 (2 * x1) q_5) (fun q_6 => some q_6))))))
set_option maxHeartbeats 4000000 in
set_option maxRecDepth 100000 in
theorem w_Nt_makeRoom_0 (C0 : CX p s m args c b_Nt_makeRoom 2 R_Nt w_Nt_makeRoom D clC cA cP A) {res : St} (hret : RTv p l e rm_Nt_makeRoom s m args below meth c Q D clC A b_Nt_makeRoom 6 192 (fun w => ∃ ad, w = cw cA cP ob ad res))    : ∀ (x1 : Int32) (S : St) (ad : Nat → Nat → Nat) (H : Heap) (locs : List Loc) (ls : Array Slot), va_P D clC (cw cA cP ob ad S) H → va_D A (cw cA cP ob ad S) → va_S A s.heap H locs → lv_has ls 2 [(0, .ref (ob 3)), (1, .int x1)] → f_Nt_makeRoom_0   x1 S = some res → W p l e rm_Nt_makeRoom s m args below meth c H locs 0 0 Q (F0 m 0 ls []) := by
  obtain ⟨hx, hb, hml, hown, hts, hK, hA, hN, hZ⟩ := id C0
  intro x1 S ad H locs ls hP hD hS hl hf
  rw [f_Nt_makeRoom_0] at hf
  refine lv_aload_n hx hb d_Nt_makeRoom_0 rfl (lv_at hl 0 rfl) ?_
  refine va_get (D := D) (ci := 3) (v := .ref (ob 8)) (C := R_Nt) (T := F_Nt) (N := 13) hx hb hts (fun w h => List.mem_cons_of_mem _ (in_Nt w h)) hown hK hP 3 rfl rfl 2 (by decide) (hts _ (List.mem_cons_of_mem _ wd_160)) (fun _ h9 => h9) rfl d_Nt_makeRoom_1 ?_
  refine lv_bipush (v := 6) hx hb d_Nt_makeRoom_4 (by decide) ?_
  refine lv_iload_n hx hb d_Nt_makeRoom_6 rfl (lv_at hl 1 rfl) ?_
  refine lv_imul hx hb d_Nt_makeRoom_7 ?_
  obtain ⟨q_1, hq_1, hf⟩ := bd_some hf
  refine kc_v (va_runV (As := [.int (6 * x1)]) (rest := []) ⟨hx, hb, hml, hown, hts⟩ (c_Rw_reach l D cA cP ob ad 8 (6 * x1) (by decide) S hq_1 H.size) ⟨callB_of 1 hts (gd_Rw_reach) rfl rfl rfl (hts _ (List.mem_cons_of_mem _ wd_67)) (hts _ (List.mem_cons_of_mem _ wd_545)) dd_Rw_reach ⟨Nat.le_of_ble_eq_true rfl, Nat.le_of_ble_eq_true rfl⟩, (hts _ (List.mem_cons_of_mem _ wd_538)), (hts _ (List.mem_cons_of_mem _ wd_539))⟩ (kpV hK hP hD hN hZ hS 6 8 rfl rfl) rfl rfl hl.1 rfl (lv_room (Nat.le_of_ble_eq_true rfl)) d_Nt_makeRoom_8 ⟨by decide +kernel, by decide +kernel⟩) hP hD hS hA (fun w H locs hw hP hD hS => ?_)
  obtain ⟨ad, rfl⟩ := hw
  refine W.widen (k := 1) (n := 32) (by decide +kernel) (by decide +kernel) ?_
  refine lv_aload_n hx hb d_Nt_makeRoom_11 rfl (lv_at hl 0 rfl) ?_
  refine va_get (D := D) (ci := 3) (v := .ref (ob 9)) (C := R_Nt) (T := F_Nt) (N := 13) hx hb hts (fun w h => List.mem_cons_of_mem _ (in_Nt w h)) hown hK hP 3 rfl rfl 3 (by decide) (hts _ (List.mem_cons_of_mem _ wd_161)) (fun _ h9 => h9) rfl d_Nt_makeRoom_12 ?_
  refine lv_bipush (v := 6) hx hb d_Nt_makeRoom_15 (by decide) ?_
  refine lv_iload_n hx hb d_Nt_makeRoom_17 rfl (lv_at hl 1 rfl) ?_
  refine lv_imul hx hb d_Nt_makeRoom_18 ?_
  obtain ⟨q_2, hq_2, hf⟩ := bd_some hf
  refine kc_v (va_runV (As := [.int (6 * x1)]) (rest := []) ⟨hx, hb, hml, hown, hts⟩ (c_Rw_reach l D cA cP ob ad 9 (6 * x1) (by decide) q_1 hq_2 H.size) ⟨callB_of 1 hts (gd_Rw_reach) rfl rfl rfl (hts _ (List.mem_cons_of_mem _ wd_67)) (hts _ (List.mem_cons_of_mem _ wd_545)) dd_Rw_reach ⟨Nat.le_of_ble_eq_true rfl, Nat.le_of_ble_eq_true rfl⟩, (hts _ (List.mem_cons_of_mem _ wd_538)), (hts _ (List.mem_cons_of_mem _ wd_539))⟩ (kpV hK hP hD hN hZ hS 6 9 rfl rfl) rfl rfl hl.1 rfl (lv_room (Nat.le_of_ble_eq_true rfl)) d_Nt_makeRoom_19 ⟨by decide +kernel, by decide +kernel⟩) hP hD hS hA (fun w H locs hw hP hD hS => ?_)
  obtain ⟨ad, rfl⟩ := hw
  refine W.widen (k := 2) (n := 64) (by decide +kernel) (by decide +kernel) ?_
  refine lv_aload_n hx hb d_Nt_makeRoom_22 rfl (lv_at hl 0 rfl) ?_
  refine va_get (D := D) (ci := 3) (v := .ref (ob 10)) (C := R_Nt) (T := F_Nt) (N := 13) hx hb hts (fun w h => List.mem_cons_of_mem _ (in_Nt w h)) hown hK hP 3 rfl rfl 4 (by decide) (hts _ (List.mem_cons_of_mem _ wd_162)) (fun _ h9 => h9) rfl d_Nt_makeRoom_23 ?_
  refine lv_iload_n hx hb d_Nt_makeRoom_26 rfl (lv_at hl 1 rfl) ?_
  refine lv_iconst (v := 1) hx hb d_Nt_makeRoom_27 (by decide) ?_
  refine lv_iadd hx hb d_Nt_makeRoom_28 ?_
  obtain ⟨q_3, hq_3, hf⟩ := bd_some hf
  refine kc_v (va_runV (As := [.int (x1 + 1)]) (rest := []) ⟨hx, hb, hml, hown, hts⟩ (c_Rw_reach l D cA cP ob ad 10 (x1 + 1) (by decide) q_2 hq_3 H.size) ⟨callB_of 1 hts (gd_Rw_reach) rfl rfl rfl (hts _ (List.mem_cons_of_mem _ wd_67)) (hts _ (List.mem_cons_of_mem _ wd_545)) dd_Rw_reach ⟨Nat.le_of_ble_eq_true rfl, Nat.le_of_ble_eq_true rfl⟩, (hts _ (List.mem_cons_of_mem _ wd_538)), (hts _ (List.mem_cons_of_mem _ wd_539))⟩ (kpV hK hP hD hN hZ hS 6 10 rfl rfl) rfl rfl hl.1 rfl (lv_room (Nat.le_of_ble_eq_true rfl)) d_Nt_makeRoom_29 ⟨by decide +kernel, by decide +kernel⟩) hP hD hS hA (fun w H locs hw hP hD hS => ?_)
  obtain ⟨ad, rfl⟩ := hw
  refine W.widen (k := 3) (n := 96) (by decide +kernel) (by decide +kernel) ?_
  refine lv_aload_n hx hb d_Nt_makeRoom_32 rfl (lv_at hl 0 rfl) ?_
  refine va_get (D := D) (ci := 3) (v := .ref (ob 11)) (C := R_Nt) (T := F_Nt) (N := 13) hx hb hts (fun w h => List.mem_cons_of_mem _ (in_Nt w h)) hown hK hP 3 rfl rfl 5 (by decide) (hts _ (List.mem_cons_of_mem _ wd_163)) (fun _ h9 => h9) rfl d_Nt_makeRoom_33 ?_
  refine lv_iconst (v := 2) hx hb d_Nt_makeRoom_36 (by decide) ?_
  refine lv_iload_n hx hb d_Nt_makeRoom_37 rfl (lv_at hl 1 rfl) ?_
  refine lv_imul hx hb d_Nt_makeRoom_38 ?_
  obtain ⟨q_4, hq_4, hf⟩ := bd_some hf
  refine kc_v (va_runV (As := [.int (2 * x1)]) (rest := []) ⟨hx, hb, hml, hown, hts⟩ (c_Rw_reach l D cA cP ob ad 11 (2 * x1) (by decide) q_3 hq_4 H.size) ⟨callB_of 1 hts (gd_Rw_reach) rfl rfl rfl (hts _ (List.mem_cons_of_mem _ wd_67)) (hts _ (List.mem_cons_of_mem _ wd_545)) dd_Rw_reach ⟨Nat.le_of_ble_eq_true rfl, Nat.le_of_ble_eq_true rfl⟩, (hts _ (List.mem_cons_of_mem _ wd_538)), (hts _ (List.mem_cons_of_mem _ wd_539))⟩ (kpV hK hP hD hN hZ hS 6 11 rfl rfl) rfl rfl hl.1 rfl (lv_room (Nat.le_of_ble_eq_true rfl)) d_Nt_makeRoom_39 ⟨by decide +kernel, by decide +kernel⟩) hP hD hS hA (fun w H locs hw hP hD hS => ?_)
  obtain ⟨ad, rfl⟩ := hw
  refine W.widen (k := 4) (n := 128) (by decide +kernel) (by decide +kernel) ?_
  refine lv_aload_n hx hb d_Nt_makeRoom_42 rfl (lv_at hl 0 rfl) ?_
  refine va_get (D := D) (ci := 3) (v := .ref (ob 12)) (C := R_Nt) (T := F_Nt) (N := 13) hx hb hts (fun w h => List.mem_cons_of_mem _ (in_Nt w h)) hown hK hP 3 rfl rfl 6 (by decide) (hts _ (List.mem_cons_of_mem _ wd_164)) (fun _ h9 => h9) rfl d_Nt_makeRoom_43 ?_
  refine lv_iconst (v := 2) hx hb d_Nt_makeRoom_46 (by decide) ?_
  refine lv_iload_n hx hb d_Nt_makeRoom_47 rfl (lv_at hl 1 rfl) ?_
  refine lv_imul hx hb d_Nt_makeRoom_48 ?_
  obtain ⟨q_5, hq_5, hf⟩ := bd_some hf
  refine kc_v (va_runV (As := [.int (2 * x1)]) (rest := []) ⟨hx, hb, hml, hown, hts⟩ (c_Rw_reach l D cA cP ob ad 12 (2 * x1) (by decide) q_4 hq_5 H.size) ⟨callB_of 1 hts (gd_Rw_reach) rfl rfl rfl (hts _ (List.mem_cons_of_mem _ wd_67)) (hts _ (List.mem_cons_of_mem _ wd_545)) dd_Rw_reach ⟨Nat.le_of_ble_eq_true rfl, Nat.le_of_ble_eq_true rfl⟩, (hts _ (List.mem_cons_of_mem _ wd_538)), (hts _ (List.mem_cons_of_mem _ wd_539))⟩ (kpV hK hP hD hN hZ hS 6 12 rfl rfl) rfl rfl hl.1 rfl (lv_room (Nat.le_of_ble_eq_true rfl)) d_Nt_makeRoom_49 ⟨by decide +kernel, by decide +kernel⟩) hP hD hS hA (fun w H locs hw hP hD hS => ?_)
  obtain ⟨ad, rfl⟩ := hw
  refine W.widen (k := 5) (n := 160) (by decide +kernel) (by decide +kernel) ?_
  refine lv_aload_n hx hb d_Nt_makeRoom_52 rfl (lv_at hl 0 rfl) ?_
  refine va_get (D := D) (ci := 3) (v := .ref (ob 13)) (C := R_Nt) (T := F_Nt) (N := 13) hx hb hts (fun w h => List.mem_cons_of_mem _ (in_Nt w h)) hown hK hP 3 rfl rfl 7 (by decide) (hts _ (List.mem_cons_of_mem _ wd_165)) (fun _ h9 => h9) rfl d_Nt_makeRoom_53 ?_
  refine lv_iconst (v := 2) hx hb d_Nt_makeRoom_56 (by decide) ?_
  refine lv_iload_n hx hb d_Nt_makeRoom_57 rfl (lv_at hl 1 rfl) ?_
  refine lv_imul hx hb d_Nt_makeRoom_58 ?_
  obtain ⟨q_6, hq_6, hf⟩ := bd_some hf
  refine kc_v (va_runV (As := [.int (2 * x1)]) (rest := []) ⟨hx, hb, hml, hown, hts⟩ (c_Rw_reach l D cA cP ob ad 13 (2 * x1) (by decide) q_5 hq_6 H.size) ⟨callB_of 1 hts (gd_Rw_reach) rfl rfl rfl (hts _ (List.mem_cons_of_mem _ wd_67)) (hts _ (List.mem_cons_of_mem _ wd_545)) dd_Rw_reach ⟨Nat.le_of_ble_eq_true rfl, Nat.le_of_ble_eq_true rfl⟩, (hts _ (List.mem_cons_of_mem _ wd_538)), (hts _ (List.mem_cons_of_mem _ wd_539))⟩ (kpV hK hP hD hN hZ hS 6 13 rfl rfl) rfl rfl hl.1 rfl (lv_room (Nat.le_of_ble_eq_true rfl)) d_Nt_makeRoom_59 ⟨by decide +kernel, by decide +kernel⟩) hP hD hS hA (fun w H locs hw hP hD hS => ?_)
  obtain ⟨ad, rfl⟩ := hw
  refine W.widen (k := 6) (n := 192) (by decide +kernel) (by decide +kernel) ?_
  cases hf
  exact hret _ _ _ _ _ ⟨ad, rfl⟩ hP hD hS d_Nt_makeRoom_62
def f_Nt_makeRoom (x1 : Int32) (S : St) : Option St := f_Nt_makeRoom_0  x1 S
theorem c_Nt_makeRoom (l : Launch) (D : va_G) (cA cP : ClassId) (ob : Nat → Nat) (ad : Nat → Nat → Nat) (x1 : Int32)  (S : St) {res : St} (hf : f_Nt_makeRoom x1 S = some res) : CTv l y_Nt_makeRoom w_Nt_makeRoom rm_Nt_makeRoom 6 192 D clC (TY cA cP) [.ref (ob 3), .int x1] (cw cA cP ob ad S) (fun w => ∃ ad, w = cw cA cP ob ad res) :=
  mk_v (cc := b_Nt_makeRoom) (maxL := 2) (own := R_Nt) (by decide) rfl rfl (Nat.le_of_ble_eq_true rfl) (fun p e s m below meth c A Q C0 hret ls hl hP hD hS => w_Nt_makeRoom_0 C0 hret   x1 S ad _ _ ls hP hD hS (lv_sub hl [0, 1] rfl) hf)
def f_Rl_makeRoom_0   (x1 : Int32) (S : St) : Option St :=
  bd (f_Rw_reach 14 (2 * x1) S) (fun q_1 => bd (f_Rw_reach 15 (2 * x1) q_1) (fun q_2 => bd (f_Rw_reach 16 (x1 + 1) q_2) (fun q_3 => some q_3)))
set_option maxHeartbeats 4000000 in
set_option maxRecDepth 100000 in
theorem w_Rl_makeRoom_0 (C0 : CX p s m args c b_Rl_makeRoom 2 R_Rl w_Rl_makeRoom D clC cA cP A) {res : St} (hret : RTv p l e rm_Rl_makeRoom s m args below meth c Q D clC A b_Rl_makeRoom 3 96 (fun w => ∃ ad, w = cw cA cP ob ad res))    : ∀ (x1 : Int32) (S : St) (ad : Nat → Nat → Nat) (H : Heap) (locs : List Loc) (ls : Array Slot), va_P D clC (cw cA cP ob ad S) H → va_D A (cw cA cP ob ad S) → va_S A s.heap H locs → lv_has ls 2 [(0, .ref (ob 4)), (1, .int x1)] → f_Rl_makeRoom_0   x1 S = some res → W p l e rm_Rl_makeRoom s m args below meth c H locs 0 0 Q (F0 m 0 ls []) := by
  obtain ⟨hx, hb, hml, hown, hts, hK, hA, hN, hZ⟩ := id C0
  intro x1 S ad H locs ls hP hD hS hl hf
  rw [f_Rl_makeRoom_0] at hf
  refine lv_aload_n hx hb d_Rl_makeRoom_0 rfl (lv_at hl 0 rfl) ?_
  refine va_get (D := D) (ci := 4) (v := .ref (ob 14)) (C := R_Rl) (T := F_Rl) (N := 6) hx hb hts (fun w h => List.mem_cons_of_mem _ (in_Rl w h)) hown hK hP 4 rfl rfl 2 (by decide) (hts _ (List.mem_cons_of_mem _ wd_208)) (fun _ h9 => h9) rfl d_Rl_makeRoom_1 ?_
  refine lv_iconst (v := 2) hx hb d_Rl_makeRoom_4 (by decide) ?_
  refine lv_iload_n hx hb d_Rl_makeRoom_5 rfl (lv_at hl 1 rfl) ?_
  refine lv_imul hx hb d_Rl_makeRoom_6 ?_
  obtain ⟨q_1, hq_1, hf⟩ := bd_some hf
  refine kc_v (va_runV (As := [.int (2 * x1)]) (rest := []) ⟨hx, hb, hml, hown, hts⟩ (c_Rw_reach l D cA cP ob ad 14 (2 * x1) (by decide) S hq_1 H.size) ⟨callB_of 1 hts (gd_Rw_reach) rfl rfl rfl (hts _ (List.mem_cons_of_mem _ wd_67)) (hts _ (List.mem_cons_of_mem _ wd_550)) dd_Rw_reach ⟨Nat.le_of_ble_eq_true rfl, Nat.le_of_ble_eq_true rfl⟩, (hts _ (List.mem_cons_of_mem _ wd_538)), (hts _ (List.mem_cons_of_mem _ wd_539))⟩ (kpV hK hP hD hN hZ hS 6 14 rfl rfl) rfl rfl hl.1 rfl (lv_room (Nat.le_of_ble_eq_true rfl)) d_Rl_makeRoom_7 ⟨by decide +kernel, by decide +kernel⟩) hP hD hS hA (fun w H locs hw hP hD hS => ?_)
  obtain ⟨ad, rfl⟩ := hw
  refine W.widen (k := 1) (n := 32) (by decide +kernel) (by decide +kernel) ?_
  refine lv_aload_n hx hb d_Rl_makeRoom_10 rfl (lv_at hl 0 rfl) ?_
  refine va_get (D := D) (ci := 4) (v := .ref (ob 15)) (C := R_Rl) (T := F_Rl) (N := 6) hx hb hts (fun w h => List.mem_cons_of_mem _ (in_Rl w h)) hown hK hP 4 rfl rfl 3 (by decide) (hts _ (List.mem_cons_of_mem _ wd_209)) (fun _ h9 => h9) rfl d_Rl_makeRoom_11 ?_
  refine lv_iconst (v := 2) hx hb d_Rl_makeRoom_14 (by decide) ?_
  refine lv_iload_n hx hb d_Rl_makeRoom_15 rfl (lv_at hl 1 rfl) ?_
  refine lv_imul hx hb d_Rl_makeRoom_16 ?_
  obtain ⟨q_2, hq_2, hf⟩ := bd_some hf
  refine kc_v (va_runV (As := [.int (2 * x1)]) (rest := []) ⟨hx, hb, hml, hown, hts⟩ (c_Rw_reach l D cA cP ob ad 15 (2 * x1) (by decide) q_1 hq_2 H.size) ⟨callB_of 1 hts (gd_Rw_reach) rfl rfl rfl (hts _ (List.mem_cons_of_mem _ wd_67)) (hts _ (List.mem_cons_of_mem _ wd_550)) dd_Rw_reach ⟨Nat.le_of_ble_eq_true rfl, Nat.le_of_ble_eq_true rfl⟩, (hts _ (List.mem_cons_of_mem _ wd_538)), (hts _ (List.mem_cons_of_mem _ wd_539))⟩ (kpV hK hP hD hN hZ hS 6 15 rfl rfl) rfl rfl hl.1 rfl (lv_room (Nat.le_of_ble_eq_true rfl)) d_Rl_makeRoom_17 ⟨by decide +kernel, by decide +kernel⟩) hP hD hS hA (fun w H locs hw hP hD hS => ?_)
  obtain ⟨ad, rfl⟩ := hw
  refine W.widen (k := 2) (n := 64) (by decide +kernel) (by decide +kernel) ?_
  refine lv_aload_n hx hb d_Rl_makeRoom_20 rfl (lv_at hl 0 rfl) ?_
  refine va_get (D := D) (ci := 4) (v := .ref (ob 16)) (C := R_Rl) (T := F_Rl) (N := 6) hx hb hts (fun w h => List.mem_cons_of_mem _ (in_Rl w h)) hown hK hP 4 rfl rfl 4 (by decide) (hts _ (List.mem_cons_of_mem _ wd_210)) (fun _ h9 => h9) rfl d_Rl_makeRoom_21 ?_
  refine lv_iload_n hx hb d_Rl_makeRoom_24 rfl (lv_at hl 1 rfl) ?_
  refine lv_iconst (v := 1) hx hb d_Rl_makeRoom_25 (by decide) ?_
  refine lv_iadd hx hb d_Rl_makeRoom_26 ?_
  obtain ⟨q_3, hq_3, hf⟩ := bd_some hf
  refine kc_v (va_runV (As := [.int (x1 + 1)]) (rest := []) ⟨hx, hb, hml, hown, hts⟩ (c_Rw_reach l D cA cP ob ad 16 (x1 + 1) (by decide) q_2 hq_3 H.size) ⟨callB_of 1 hts (gd_Rw_reach) rfl rfl rfl (hts _ (List.mem_cons_of_mem _ wd_67)) (hts _ (List.mem_cons_of_mem _ wd_550)) dd_Rw_reach ⟨Nat.le_of_ble_eq_true rfl, Nat.le_of_ble_eq_true rfl⟩, (hts _ (List.mem_cons_of_mem _ wd_538)), (hts _ (List.mem_cons_of_mem _ wd_539))⟩ (kpV hK hP hD hN hZ hS 6 16 rfl rfl) rfl rfl hl.1 rfl (lv_room (Nat.le_of_ble_eq_true rfl)) d_Rl_makeRoom_27 ⟨by decide +kernel, by decide +kernel⟩) hP hD hS hA (fun w H locs hw hP hD hS => ?_)
  obtain ⟨ad, rfl⟩ := hw
  refine W.widen (k := 3) (n := 96) (by decide +kernel) (by decide +kernel) ?_
  cases hf
  exact hret _ _ _ _ _ ⟨ad, rfl⟩ hP hD hS d_Rl_makeRoom_30
def f_Rl_makeRoom (x1 : Int32) (S : St) : Option St := f_Rl_makeRoom_0  x1 S
theorem c_Rl_makeRoom (l : Launch) (D : va_G) (cA cP : ClassId) (ob : Nat → Nat) (ad : Nat → Nat → Nat) (x1 : Int32)  (S : St) {res : St} (hf : f_Rl_makeRoom x1 S = some res) : CTv l y_Rl_makeRoom w_Rl_makeRoom rm_Rl_makeRoom 3 96 D clC (TY cA cP) [.ref (ob 4), .int x1] (cw cA cP ob ad S) (fun w => ∃ ad, w = cw cA cP ob ad res) :=
  mk_v (cc := b_Rl_makeRoom) (maxL := 2) (own := R_Rl) (by decide) rfl rfl (Nat.le_of_ble_eq_true rfl) (fun p e s m below meth c A Q C0 hret ls hl hP hD hS => w_Rl_makeRoom_0 C0 hret   x1 S ad _ _ ls hP hD hS (lv_sub hl [0, 1] rfl) hf)
def f_Ol_makeRoom_0   (x1 : Int32) (S : St) : Option St :=
  bd (f_Rw_reach 17 x1 S) (fun q_1 => some q_1)
set_option maxHeartbeats 4000000 in
set_option maxRecDepth 100000 in
theorem w_Ol_makeRoom_0 (C0 : CX p s m args c b_Ol_makeRoom 2 R_Ol w_Ol_makeRoom D clC cA cP A) {res : St} (hret : RTv p l e rm_Ol_makeRoom s m args below meth c Q D clC A b_Ol_makeRoom 1 32 (fun w => ∃ ad, w = cw cA cP ob ad res))    : ∀ (x1 : Int32) (S : St) (ad : Nat → Nat → Nat) (H : Heap) (locs : List Loc) (ls : Array Slot), va_P D clC (cw cA cP ob ad S) H → va_D A (cw cA cP ob ad S) → va_S A s.heap H locs → lv_has ls 2 [(0, .ref (ob 5)), (1, .int x1)] → f_Ol_makeRoom_0   x1 S = some res → W p l e rm_Ol_makeRoom s m args below meth c H locs 0 0 Q (F0 m 0 ls []) := by
  obtain ⟨hx, hb, hml, hown, hts, hK, hA, hN, hZ⟩ := id C0
  intro x1 S ad H locs ls hP hD hS hl hf
  rw [f_Ol_makeRoom_0] at hf
  refine lv_aload_n hx hb d_Ol_makeRoom_0 rfl (lv_at hl 0 rfl) ?_
  refine va_get (D := D) (ci := 5) (v := .ref (ob 17)) (C := R_Ol) (T := F_Ol) (N := 5) hx hb hts (fun w h => List.mem_cons_of_mem _ (in_Ol w h)) hown hK hP 5 rfl rfl 2 (by decide) (hts _ (List.mem_cons_of_mem _ wd_235)) (fun _ h9 => h9) rfl d_Ol_makeRoom_1 ?_
  refine lv_iload_n hx hb d_Ol_makeRoom_4 rfl (lv_at hl 1 rfl) ?_
  obtain ⟨q_1, hq_1, hf⟩ := bd_some hf
  refine kc_v (va_runV (As := [.int x1]) (rest := []) ⟨hx, hb, hml, hown, hts⟩ (c_Rw_reach l D cA cP ob ad 17 x1 (by decide) S hq_1 H.size) ⟨callB_of 1 hts (gd_Rw_reach) rfl rfl rfl (hts _ (List.mem_cons_of_mem _ wd_67)) (hts _ (List.mem_cons_of_mem _ wd_555)) dd_Rw_reach ⟨Nat.le_of_ble_eq_true rfl, Nat.le_of_ble_eq_true rfl⟩, (hts _ (List.mem_cons_of_mem _ wd_538)), (hts _ (List.mem_cons_of_mem _ wd_539))⟩ (kpV hK hP hD hN hZ hS 6 17 rfl rfl) rfl rfl hl.1 rfl (lv_room (Nat.le_of_ble_eq_true rfl)) d_Ol_makeRoom_5 ⟨by decide +kernel, by decide +kernel⟩) hP hD hS hA (fun w H locs hw hP hD hS => ?_)
  obtain ⟨ad, rfl⟩ := hw
  refine W.widen (k := 1) (n := 32) (by decide +kernel) (by decide +kernel) ?_
  cases hf
  exact hret _ _ _ _ _ ⟨ad, rfl⟩ hP hD hS d_Ol_makeRoom_8
def f_Ol_makeRoom (x1 : Int32) (S : St) : Option St := f_Ol_makeRoom_0  x1 S
theorem c_Ol_makeRoom (l : Launch) (D : va_G) (cA cP : ClassId) (ob : Nat → Nat) (ad : Nat → Nat → Nat) (x1 : Int32)  (S : St) {res : St} (hf : f_Ol_makeRoom x1 S = some res) : CTv l y_Ol_makeRoom w_Ol_makeRoom rm_Ol_makeRoom 1 32 D clC (TY cA cP) [.ref (ob 5), .int x1] (cw cA cP ob ad S) (fun w => ∃ ad, w = cw cA cP ob ad res) :=
  mk_v (cc := b_Ol_makeRoom) (maxL := 2) (own := R_Ol) (by decide) rfl rfl (Nat.le_of_ble_eq_true rfl) (fun p e s m below meth c A Q C0 hret ls hl hP hD hS => w_Ol_makeRoom_0 C0 hret   x1 S ad _ _ ls hP hD hS (lv_sub hl [0, 1] rfl) hf)
def f_Pn_makeRoom_0   (x1 : Int32) (S : St) : Option St :=
  bd (f_Pt_makeRoom x1 S) (fun q_1 => bd (f_Nt_makeRoom x1 q_1) (fun q_2 => bd (f_Rl_makeRoom x1 q_2) (fun q_3 => bd (f_Ol_makeRoom x1 q_3) (fun q_4 => some q_4))))
set_option maxHeartbeats 4000000 in
set_option maxRecDepth 100000 in
theorem w_Pn_makeRoom_0 (C0 : CX p s m args c b_Pn_makeRoom 2 R_Pn w_Pn_makeRoom D clC cA cP A) {res : St} (hret : RTv p l e rm_Pn_makeRoom s m args below meth c Q D clC A b_Pn_makeRoom 12 384 (fun w => ∃ ad, w = cw cA cP ob ad res))    : ∀ (x1 : Int32) (S : St) (ad : Nat → Nat → Nat) (H : Heap) (locs : List Loc) (ls : Array Slot), va_P D clC (cw cA cP ob ad S) H → va_D A (cw cA cP ob ad S) → va_S A s.heap H locs → lv_has ls 2 [(0, .ref (ob 0)), (1, .int x1)] → f_Pn_makeRoom_0   x1 S = some res → W p l e rm_Pn_makeRoom s m args below meth c H locs 0 0 Q (F0 m 0 ls []) := by
  obtain ⟨hx, hb, hml, hown, hts, hK, hA, hN, hZ⟩ := id C0
  intro x1 S ad H locs ls hP hD hS hl hf
  rw [f_Pn_makeRoom_0] at hf
  refine lv_aload_n hx hb d_Pn_makeRoom_0 rfl (lv_at hl 0 rfl) ?_
  refine va_get (D := D) (ci := 0) (v := .ref (ob 1)) (C := R_Pn) (T := F_Pn) (N := 8) hx hb hts (fun w h => List.mem_cons_of_mem _ (in_Pn w h)) hown hK hP 0 rfl rfl 0 (by decide) (hts _ (List.mem_cons_of_mem _ wd_249)) (fun _ h9 => h9) rfl d_Pn_makeRoom_1 ?_
  refine lv_iload_n hx hb d_Pn_makeRoom_4 rfl (lv_at hl 1 rfl) ?_
  obtain ⟨q_1, hq_1, hf⟩ := bd_some hf
  refine kc_v (va_runV (As := [.int x1]) (rest := []) ⟨hx, hb, hml, hown, hts⟩ (c_Pt_makeRoom l D cA cP ob ad x1  S hq_1 H.size) ⟨callB_of 1 hts (gd_Pt_makeRoom) rfl rfl rfl (hts _ (List.mem_cons_of_mem _ wd_65)) (hts _ (List.mem_cons_of_mem _ wd_533)) dd_Pt_makeRoom ⟨Nat.le_of_ble_eq_true rfl, Nat.le_of_ble_eq_true rfl⟩, (hts _ (List.mem_cons_of_mem _ wd_534)), (hts _ (List.mem_cons_of_mem _ wd_535))⟩ (kpV hK hP hD hN hZ hS 1 1 rfl rfl) rfl rfl hl.1 rfl (lv_room (Nat.le_of_ble_eq_true rfl)) d_Pn_makeRoom_5 ⟨by decide +kernel, by decide +kernel⟩) hP hD hS hA (fun w H locs hw hP hD hS => ?_)
  obtain ⟨ad, rfl⟩ := hw
  refine W.widen (k := 2) (n := 64) (by decide +kernel) (by decide +kernel) ?_
  refine lv_aload_n hx hb d_Pn_makeRoom_8 rfl (lv_at hl 0 rfl) ?_
  refine va_get (D := D) (ci := 0) (v := .ref (ob 3)) (C := R_Pn) (T := F_Pn) (N := 8) hx hb hts (fun w h => List.mem_cons_of_mem _ (in_Pn w h)) hown hK hP 0 rfl rfl 1 (by decide) (hts _ (List.mem_cons_of_mem _ wd_250)) (fun _ h9 => h9) rfl d_Pn_makeRoom_9 ?_
  refine lv_iload_n hx hb d_Pn_makeRoom_12 rfl (lv_at hl 1 rfl) ?_
  obtain ⟨q_2, hq_2, hf⟩ := bd_some hf
  refine kc_v (va_runV (As := [.int x1]) (rest := []) ⟨hx, hb, hml, hown, hts⟩ (c_Nt_makeRoom l D cA cP ob ad x1  q_1 hq_2 H.size) ⟨callB_of 1 hts (gd_Nt_makeRoom) rfl rfl rfl (hts _ (List.mem_cons_of_mem _ wd_69)) (hts _ (List.mem_cons_of_mem _ wd_541)) dd_Nt_makeRoom ⟨Nat.le_of_ble_eq_true rfl, Nat.le_of_ble_eq_true rfl⟩, (hts _ (List.mem_cons_of_mem _ wd_542)), (hts _ (List.mem_cons_of_mem _ wd_543))⟩ (kpV hK hP hD hN hZ hS 3 3 rfl rfl) rfl rfl hl.1 rfl (lv_room (Nat.le_of_ble_eq_true rfl)) d_Pn_makeRoom_13 ⟨by decide +kernel, by decide +kernel⟩) hP hD hS hA (fun w H locs hw hP hD hS => ?_)
  obtain ⟨ad, rfl⟩ := hw
  refine W.widen (k := 8) (n := 256) (by decide +kernel) (by decide +kernel) ?_
  refine lv_aload_n hx hb d_Pn_makeRoom_16 rfl (lv_at hl 0 rfl) ?_
  refine va_get (D := D) (ci := 0) (v := .ref (ob 4)) (C := R_Pn) (T := F_Pn) (N := 8) hx hb hts (fun w h => List.mem_cons_of_mem _ (in_Pn w h)) hown hK hP 0 rfl rfl 2 (by decide) (hts _ (List.mem_cons_of_mem _ wd_251)) (fun _ h9 => h9) rfl d_Pn_makeRoom_17 ?_
  refine lv_iload_n hx hb d_Pn_makeRoom_20 rfl (lv_at hl 1 rfl) ?_
  obtain ⟨q_3, hq_3, hf⟩ := bd_some hf
  refine kc_v (va_runV (As := [.int x1]) (rest := []) ⟨hx, hb, hml, hown, hts⟩ (c_Rl_makeRoom l D cA cP ob ad x1  q_2 hq_3 H.size) ⟨callB_of 1 hts (gd_Rl_makeRoom) rfl rfl rfl (hts _ (List.mem_cons_of_mem _ wd_70)) (hts _ (List.mem_cons_of_mem _ wd_546)) dd_Rl_makeRoom ⟨Nat.le_of_ble_eq_true rfl, Nat.le_of_ble_eq_true rfl⟩, (hts _ (List.mem_cons_of_mem _ wd_547)), (hts _ (List.mem_cons_of_mem _ wd_548))⟩ (kpV hK hP hD hN hZ hS 4 4 rfl rfl) rfl rfl hl.1 rfl (lv_room (Nat.le_of_ble_eq_true rfl)) d_Pn_makeRoom_21 ⟨by decide +kernel, by decide +kernel⟩) hP hD hS hA (fun w H locs hw hP hD hS => ?_)
  obtain ⟨ad, rfl⟩ := hw
  refine W.widen (k := 11) (n := 352) (by decide +kernel) (by decide +kernel) ?_
  refine lv_aload_n hx hb d_Pn_makeRoom_24 rfl (lv_at hl 0 rfl) ?_
  refine va_get (D := D) (ci := 0) (v := .ref (ob 5)) (C := R_Pn) (T := F_Pn) (N := 8) hx hb hts (fun w h => List.mem_cons_of_mem _ (in_Pn w h)) hown hK hP 0 rfl rfl 3 (by decide) (hts _ (List.mem_cons_of_mem _ wd_252)) (fun _ h9 => h9) rfl d_Pn_makeRoom_25 ?_
  refine lv_iload_n hx hb d_Pn_makeRoom_28 rfl (lv_at hl 1 rfl) ?_
  obtain ⟨q_4, hq_4, hf⟩ := bd_some hf
  refine kc_v (va_runV (As := [.int x1]) (rest := []) ⟨hx, hb, hml, hown, hts⟩ (c_Ol_makeRoom l D cA cP ob ad x1  q_3 hq_4 H.size) ⟨callB_of 1 hts (gd_Ol_makeRoom) rfl rfl rfl (hts _ (List.mem_cons_of_mem _ wd_71)) (hts _ (List.mem_cons_of_mem _ wd_551)) dd_Ol_makeRoom ⟨Nat.le_of_ble_eq_true rfl, Nat.le_of_ble_eq_true rfl⟩, (hts _ (List.mem_cons_of_mem _ wd_552)), (hts _ (List.mem_cons_of_mem _ wd_553))⟩ (kpV hK hP hD hN hZ hS 5 5 rfl rfl) rfl rfl hl.1 rfl (lv_room (Nat.le_of_ble_eq_true rfl)) d_Pn_makeRoom_29 ⟨by decide +kernel, by decide +kernel⟩) hP hD hS hA (fun w H locs hw hP hD hS => ?_)
  obtain ⟨ad, rfl⟩ := hw
  refine W.widen (k := 12) (n := 384) (by decide +kernel) (by decide +kernel) ?_
  cases hf
  exact hret _ _ _ _ _ ⟨ad, rfl⟩ hP hD hS d_Pn_makeRoom_32
def f_Pn_makeRoom (x1 : Int32) (S : St) : Option St := f_Pn_makeRoom_0  x1 S
theorem c_Pn_makeRoom (l : Launch) (D : va_G) (cA cP : ClassId) (ob : Nat → Nat) (ad : Nat → Nat → Nat) (x1 : Int32)  (S : St) {res : St} (hf : f_Pn_makeRoom x1 S = some res) : CTv l y_Pn_makeRoom w_Pn_makeRoom rm_Pn_makeRoom 12 384 D clC (TY cA cP) [.ref (ob 0), .int x1] (cw cA cP ob ad S) (fun w => ∃ ad, w = cw cA cP ob ad res) :=
  mk_v (cc := b_Pn_makeRoom) (maxL := 2) (own := R_Pn) (by decide) rfl rfl (Nat.le_of_ble_eq_true rfl) (fun p e s m below meth c A Q C0 hret ls hl hP hD hS => w_Pn_makeRoom_0 C0 hret   x1 S ad _ _ ls hP hD hS (lv_sub hl [0, 1] rfl) hf)
end
