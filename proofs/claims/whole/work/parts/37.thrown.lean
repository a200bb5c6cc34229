section
variable {p : Program} {l : Launch} {e : Env} {s : State} {m : MethodId} {args : Array Value} {below : List Frame} {meth : Method} {c : Code} {Q : State → Prop} {D : va_G} {cA cP : ClassId} {ob : Nat → Nat} {ad : Nat → Nat → Nat} {A : Nat → Prop}
def rt_Pn_checkPlace : Room := { frames := 6, cells := 1, slots := 6, locals := 100 }
def t_Pn_checkPlace_24    (S : St) : Option (Nat × St) :=
  some (1, S)
set_option maxHeartbeats 4000000 in
set_option maxRecDepth 100000 in
theorem wt_Pn_checkPlace_24 (C0 : CX p s m args c b_Pn_checkPlace 2 R_Pn w_Pn_checkPlace D clC cA cP A) {res : (Nat × St)} (htr : l.flags = pinnedFlags ++ [noTraceFlag] ∧ e.platform.stackTraces = false) (hno : c.exceptionTable.isEmpty = true) (hlk : meth.locks = false)    : ∀  (S : St) (H : Heap) (locs : List Loc) (ls : Array Slot), va_P D clC (cw cA cP ob ad S) H → va_D A (cw cA cP ob ad S) → va_S A s.heap H locs → lv_has ls 2 [] → t_Pn_checkPlace_24    S = some res → W p l e rt_Pn_checkPlace s m args below meth c H locs 0 0 (MQT below (QTA D clC (TY cA cP) A (exN res.1) (fun w => w = cw cA cP ob ad res.2)) args s 1 6 A) (F0 m 24 ls []) := by
  obtain ⟨hx, hb, hml, hown, hts, hK, hA, hN, hZ⟩ := id C0
  intro  S H locs ls hP hD hS hl hf
  rw [t_Pn_checkPlace_24] at hf
  cases hf
  exact th_new (X := "java/lang/IllegalArgumentException") (tx := "x and y are from -1000000000 to 1000000000") (names := thN) (ic := 187) (ik := 183) (ix := 185) C0 htr hno hlk hl.1 (fun _ h => List.mem_cons_of_mem _ h) wd_429 wd_430 wd_76 ws_470 at_1 (by decide +kernel) (by decide +kernel) d_Pn_checkPlace_24 d_Pn_checkPlace_27 d_Pn_checkPlace_28 d_Pn_checkPlace_30 d_Pn_checkPlace_33 rfl (Nat.le_of_ble_eq_true rfl) (Nat.le_of_ble_eq_true rfl) (Nat.le_of_ble_eq_true rfl) (Nat.le_of_ble_eq_true rfl) rfl hP hD hS
def t_Pn_checkPlace_0   (x0 : Int32) (x1 : Int32) (S : St) : Option (Nat × St) :=
  (if x0 < (-1000000000) then
    t_Pn_checkPlace_24    S
    else
    (if 1000000000 < x0 then
      t_Pn_checkPlace_24    S
      else
      (if x1 < (-1000000000) then
        t_Pn_checkPlace_24    S
        else
        (if x1 ≤ 1000000000 then
          none
          else
          t_Pn_checkPlace_24    S))))
set_option maxHeartbeats 4000000 in
set_option maxRecDepth 100000 in
theorem wt_Pn_checkPlace_0 (C0 : CX p s m args c b_Pn_checkPlace 2 R_Pn w_Pn_checkPlace D clC cA cP A) {res : (Nat × St)} (htr : l.flags = pinnedFlags ++ [noTraceFlag] ∧ e.platform.stackTraces = false) (hno : c.exceptionTable.isEmpty = true) (hlk : meth.locks = false)    : ∀ (x0 : Int32) (x1 : Int32) (S : St) (H : Heap) (locs : List Loc) (ls : Array Slot), va_P D clC (cw cA cP ob ad S) H → va_D A (cw cA cP ob ad S) → va_S A s.heap H locs → lv_has ls 2 [(0, .int x0), (1, .int x1)] → t_Pn_checkPlace_0   x0 x1 S = some res → W p l e rt_Pn_checkPlace s m args below meth c H locs 0 0 (MQT below (QTA D clC (TY cA cP) A (exN res.1) (fun w => w = cw cA cP ob ad res.2)) args s 1 6 A) (F0 m 0 ls []) := by
  obtain ⟨hx, hb, hml, hown, hts, hK, hA, hN, hZ⟩ := id C0
  intro x0 x1 S H locs ls hP hD hS hl hf
  rw [t_Pn_checkPlace_0] at hf
  refine lv_iload_n hx hb d_Pn_checkPlace_0 rfl (lv_at hl 0 rfl) ?_
  refine lv_ldc (v := (-1000000000)) hx hb hown (hts _ (List.mem_cons_of_mem _ wd_427)) d_Pn_checkPlace_1 ?_
  refine lv_icmp_lt (tgt := 24) hx hb d_Pn_checkPlace_3 (by decide) (fun c_1 => ?_) (fun c_1 => ?_)
  · rw [if_pos c_1] at hf
    exact wt_Pn_checkPlace_24 C0 htr hno hlk     S H locs ls hP hD hS (lv_sub hl [] rfl) hf
  · rw [if_neg c_1] at hf
    refine lv_iload_n hx hb d_Pn_checkPlace_6 rfl (lv_at hl 0 rfl) ?_
    refine lv_ldc (v := 1000000000) hx hb hown (hts _ (List.mem_cons_of_mem _ wd_428)) d_Pn_checkPlace_7 ?_
    refine lv_icmp_gt (tgt := 24) hx hb d_Pn_checkPlace_9 (by decide) (fun c_2 => ?_) (fun c_2 => ?_)
    · rw [if_pos c_2] at hf
      exact wt_Pn_checkPlace_24 C0 htr hno hlk     S H locs ls hP hD hS (lv_sub hl [] rfl) hf
    · rw [if_neg c_2] at hf
      refine lv_iload_n hx hb d_Pn_checkPlace_12 rfl (lv_at hl 1 rfl) ?_
      refine lv_ldc (v := (-1000000000)) hx hb hown (hts _ (List.mem_cons_of_mem _ wd_427)) d_Pn_checkPlace_13 ?_
      refine lv_icmp_lt (tgt := 24) hx hb d_Pn_checkPlace_15 (by decide) (fun c_3 => ?_) (fun c_3 => ?_)
      · rw [if_pos c_3] at hf
        exact wt_Pn_checkPlace_24 C0 htr hno hlk     S H locs ls hP hD hS (lv_sub hl [] rfl) hf
      · rw [if_neg c_3] at hf
        refine lv_iload_n hx hb d_Pn_checkPlace_18 rfl (lv_at hl 1 rfl) ?_
        refine lv_ldc (v := 1000000000) hx hb hown (hts _ (List.mem_cons_of_mem _ wd_428)) d_Pn_checkPlace_19 ?_
        refine lv_icmp_le (tgt := 34) hx hb d_Pn_checkPlace_21 (by decide) (fun c_4 => ?_) (fun c_4 => ?_)
        · rw [if_pos c_4] at hf
          cases hf
        · rw [if_neg c_4] at hf
          exact wt_Pn_checkPlace_24 C0 htr hno hlk     S H locs ls hP hD hS (lv_sub hl [] rfl) hf
def t_Pn_checkPlace (x0 : Int32) (x1 : Int32) (S : St) : Option (Nat × St) := t_Pn_checkPlace_0  x0 x1 S
theorem ct_Pn_checkPlace (l : Launch) (hl0 : l.flags = pinnedFlags ++ [noTraceFlag]) (D : va_G) (cA cP : ClassId) (ob : Nat → Nat) (ad : Nat → Nat → Nat) (x0 : Int32) (x1 : Int32)  (S : St) {res : (Nat × St)} (hf : t_Pn_checkPlace x0 x1 S = some res) : CTt l y_Pn_checkPlace w_Pn_checkPlace rt_Pn_checkPlace 1 6 D clC (TY cA cP) [.int x0, .int x1] (cw cA cP ob ad S) (exN res.1) (fun w => w = cw cA cP ob ad res.2) :=
  mk_t (cc := b_Pn_checkPlace) (maxL := 2) (own := R_Pn) (ret := none) hl0 (by decide) rfl rfl (Nat.le_of_ble_eq_true rfl) (fun p e s m below meth c A C0 htr hno hlk ls hl hP hD hS => wt_Pn_checkPlace_0 C0 htr hno hlk   x0 x1 S _ _ ls hP hD hS (lv_sub hl [0, 1] rfl) hf)
def rt_Pn_add : Room := { frames := 7, cells := 1, slots := 6, locals := 155 }
def t_Pn_add_0   (x1 : Int32) (x2 : Int32) (S : St) : Option (Nat × St) :=
  orT (t_Pn_checkPlace x1 x2 S) (bd (f_Pn_checkPlace x1 x2 S) (fun q_1 => bd (f_Pt_nearestOf (gi q_1 3) x1 x2 q_1) (fun q_3 => bd (f_Pt_isAt q_3.1 x1 x2 q_3.2) (fun q_4 => (if q_4.1 = 0 then
    bd (f_Pt_isFull  q_4.2) (fun q_6 => (if q_6.1 = 0 then
      none
      else
      some (2, q_6.2)))
    else
    none)))))
set_option maxHeartbeats 4000000 in
set_option maxRecDepth 100000 in
theorem wt_Pn_add_0 (C0 : CX p s m args c b_Pn_add 5 R_Pn w_Pn_add D clC cA cP A) {res : (Nat × St)} (htr : l.flags = pinnedFlags ++ [noTraceFlag] ∧ e.platform.stackTraces = false) (hno : c.exceptionTable.isEmpty = true) (hlk : meth.locks = false)    : ∀ (x1 : Int32) (x2 : Int32) (S : St) (H : Heap) (locs : List Loc) (ls : Array Slot), va_P D clC (cw cA cP ob ad S) H → va_D A (cw cA cP ob ad S) → va_S A s.heap H locs → lv_has ls 5 [(0, .ref (ob 0)), (1, .int x1), (2, .int x2)] → t_Pn_add_0   x1 x2 S = some res → W p l e rt_Pn_add s m args below meth c H locs 0 0 (MQT below (QTA D clC (TY cA cP) A (exN res.1) (fun w => w = cw cA cP ob ad res.2)) args s 1 6 A) (F0 m 0 ls []) := by
  obtain ⟨hx, hb, hml, hown, hts, hK, hA, hN, hZ⟩ := id C0
  intro x1 x2 S H locs ls hP hD hS hl hf
  rw [t_Pn_add_0] at hf
  refine lv_iload_n hx hb d_Pn_add_0 rfl (lv_at hl 1 rfl) ?_
  refine lv_iload_n hx hb d_Pn_add_1 rfl (lv_at hl 2 rfl) ?_
  rcases orT_some hf with ht_2 | hf
  · exact th_passW (th_runS (As := [.int x1, .int x2]) (rest := []) ⟨hx, hb, hml, hown, hts⟩ (ct_Pn_checkPlace l htr.1 D cA cP ob ad x1 x2 S ht_2 H.size) ⟨callB_of 2 hts (gd_Pn_checkPlace) rfl rfl rfl (hts _ (List.mem_cons_of_mem _ wd_64)) (hts _ (List.mem_cons_of_mem _ wd_424)) dd_Pn_checkPlace ⟨Nat.le_of_ble_eq_true rfl, Nat.le_of_ble_eq_true rfl⟩, (hts _ (List.mem_cons_of_mem _ wd_425))⟩ (kpS hK hP hD hN hZ hS) rfl rfl hl.1 rfl (lv_room (Nat.le_of_ble_eq_true rfl)) d_Pn_add_2 ⟨Nat.le_of_ble_eq_true rfl, Nat.le_of_ble_eq_true rfl⟩) hno hlk hP hD hS hA
  obtain ⟨q_1, hq_1, hf⟩ := bd_some hf
  refine kc_v (va_runS (As := [.int x1, .int x2]) (rest := []) ⟨hx, hb, hml, hown, hts⟩ (c_Pn_checkPlace l D cA cP ob ad x1 x2  S hq_1 H.size) ⟨callB_of 2 hts (gd_Pn_checkPlace) rfl rfl rfl (hts _ (List.mem_cons_of_mem _ wd_64)) (hts _ (List.mem_cons_of_mem _ wd_424)) dd_Pn_checkPlace ⟨Nat.le_of_ble_eq_true rfl, Nat.le_of_ble_eq_true rfl⟩, (hts _ (List.mem_cons_of_mem _ wd_425))⟩ (kpS hK hP hD hN hZ hS) rfl rfl hl.1 rfl (lv_room (Nat.le_of_ble_eq_true rfl)) d_Pn_add_2 ⟨by decide +kernel, by decide +kernel⟩) hP hD hS hA (fun w H locs hw hP hD hS => ?_)
  obtain rfl := hw
  refine lv_aload_n hx hb d_Pn_add_5 rfl (lv_at hl 0 rfl) ?_
  refine va_get (D := D) (ci := 0) (v := .ref (ob 1)) (C := R_Pn) (T := F_Pn) (N := 8) hx hb hts (fun w h => List.mem_cons_of_mem _ (in_Pn w h)) hown hK hP 0 rfl rfl 0 (by decide) (hts _ (List.mem_cons_of_mem _ wd_249)) (fun _ h9 => h9) rfl d_Pn_add_6 ?_
  refine lv_aload_n hx hb d_Pn_add_9 rfl (lv_at hl 0 rfl) ?_
  refine va_get (D := D) (ci := 0) (v := .ref (ob 1)) (C := R_Pn) (T := F_Pn) (N := 8) hx hb hts (fun w h => List.mem_cons_of_mem _ (in_Pn w h)) hown hK hP 0 rfl rfl 0 (by decide) (hts _ (List.mem_cons_of_mem _ wd_249)) (fun _ h9 => h9) rfl d_Pn_add_10 ?_
  refine va_get (D := D) (ci := 1) (v := .int (gi q_1 3)) (C := R_Pt) (T := F_Pt) (N := 5) hx hb hts (fun w h => List.mem_cons_of_mem _ (in_Pt w h)) hown hK hP 1 rfl rfl 1 (by decide) (hts _ (List.mem_cons_of_mem _ wd_133)) (fun _ h9 => h9) rfl d_Pn_add_13 ?_
  refine lv_iload_n hx hb d_Pn_add_16 rfl (lv_at hl 1 rfl) ?_
  refine lv_iload_n hx hb d_Pn_add_17 rfl (lv_at hl 2 rfl) ?_
  obtain ⟨q_3, hq_3, hf⟩ := bd_some hf
  refine kc_i (va_runV (As := [.int (gi q_1 3), .int x1, .int x2]) (rest := []) ⟨hx, hb, hml, hown, hts⟩ (c_Pt_nearestOf l D cA cP ob ad (gi q_1 3) x1 x2  q_1 hq_3 H.size) ⟨callB_of 3 hts (gd_Pt_nearestOf) rfl rfl rfl (hts _ (List.mem_cons_of_mem _ wd_65)) (hts _ (List.mem_cons_of_mem _ wd_497)) dd_Pt_nearestOf ⟨Nat.le_of_ble_eq_true rfl, Nat.le_of_ble_eq_true rfl⟩, (hts _ (List.mem_cons_of_mem _ wd_498)), (hts _ (List.mem_cons_of_mem _ wd_499))⟩ (kpV hK hP hD hN hZ hS 1 1 rfl rfl) rfl rfl hl.1 rfl (lv_room (Nat.le_of_ble_eq_true rfl)) d_Pn_add_18 ⟨by decide +kernel, by decide +kernel⟩) hP hD hS hA (fun r w H locs hw hP hD hS => ?_)
  obtain ⟨rfl, rfl⟩ := hw
  refine lv_istore_n (lv' := [(3, .int q_3.1), (0, .ref (ob 0)), (1, .int x1), (2, .int x2)]) hx hb d_Pn_add_21 rfl hl (by decide) rfl (fun ls hl => ?_)
  refine lv_aload_n hx hb d_Pn_add_22 rfl (lv_at hl 1 rfl) ?_
  refine va_get (D := D) (ci := 0) (v := .ref (ob 1)) (C := R_Pn) (T := F_Pn) (N := 8) hx hb hts (fun w h => List.mem_cons_of_mem _ (in_Pn w h)) hown hK hP 0 rfl rfl 0 (by decide) (hts _ (List.mem_cons_of_mem _ wd_249)) (fun _ h9 => h9) rfl d_Pn_add_23 ?_
  refine lv_iload_n hx hb d_Pn_add_26 rfl (lv_at hl 0 rfl) ?_
  refine lv_iload_n hx hb d_Pn_add_27 rfl (lv_at hl 2 rfl) ?_
  refine lv_iload_n hx hb d_Pn_add_28 rfl (lv_at hl 3 rfl) ?_
  obtain ⟨q_4, hq_4, hf⟩ := bd_some hf
  refine kc_i (va_runV (As := [.int q_3.1, .int x1, .int x2]) (rest := []) ⟨hx, hb, hml, hown, hts⟩ (c_Pt_isAt l D cA cP ob ad q_3.1 x1 x2  q_3.2 hq_4 H.size) ⟨callB_of 3 hts (gd_Pt_isAt) rfl rfl rfl (hts _ (List.mem_cons_of_mem _ wd_65)) (hts _ (List.mem_cons_of_mem _ wd_505)) dd_Pt_isAt ⟨Nat.le_of_ble_eq_true rfl, Nat.le_of_ble_eq_true rfl⟩, (hts _ (List.mem_cons_of_mem _ wd_506)), (hts _ (List.mem_cons_of_mem _ wd_507))⟩ (kpV hK hP hD hN hZ hS 1 1 rfl rfl) rfl rfl hl.1 rfl (lv_room (Nat.le_of_ble_eq_true rfl)) d_Pn_add_29 ⟨by decide +kernel, by decide +kernel⟩) hP hD hS hA (fun r w H locs hw hP hD hS => ?_)
  obtain ⟨rfl, rfl⟩ := hw
  refine lv_if_eq (tgt := 37) hx hb d_Pn_add_32 (by decide) (fun c_5 => ?_) (fun c_5 => ?_)
  · rw [if_pos c_5] at hf
    refine lv_aload_n hx hb d_Pn_add_37 rfl (lv_at hl 1 rfl) ?_
    refine va_get (D := D) (ci := 0) (v := .ref (ob 1)) (C := R_Pn) (T := F_Pn) (N := 8) hx hb hts (fun w h => List.mem_cons_of_mem _ (in_Pn w h)) hown hK hP 0 rfl rfl 0 (by decide) (hts _ (List.mem_cons_of_mem _ wd_249)) (fun _ h9 => h9) rfl d_Pn_add_38 ?_
    obtain ⟨q_6, hq_6, hf⟩ := bd_some hf
    refine kc_i (va_runV (As := []) (rest := []) ⟨hx, hb, hml, hown, hts⟩ (c_Pt_isFull l D cA cP ob ad   q_4.2 hq_6 H.size) ⟨callB_of 0 hts (gd_Pt_isFull) rfl rfl rfl (hts _ (List.mem_cons_of_mem _ wd_65)) (hts _ (List.mem_cons_of_mem _ wd_509)) dd_Pt_isFull ⟨Nat.le_of_ble_eq_true rfl, Nat.le_of_ble_eq_true rfl⟩, (hts _ (List.mem_cons_of_mem _ wd_510)), (hts _ (List.mem_cons_of_mem _ wd_511))⟩ (kpV hK hP hD hN hZ hS 1 1 rfl rfl) rfl rfl hl.1 rfl (lv_room (Nat.le_of_ble_eq_true rfl)) d_Pn_add_41 ⟨by decide +kernel, by decide +kernel⟩) hP hD hS hA (fun r w H locs hw hP hD hS => ?_)
    obtain ⟨rfl, rfl⟩ := hw
    refine lv_if_eq (tgt := 57) hx hb d_Pn_add_44 (by decide) (fun c_7 => ?_) (fun c_7 => ?_)
    · rw [if_pos c_7] at hf
      cases hf
    · rw [if_neg c_7] at hf
      cases hf
      exact th_new (X := "java/lang/IllegalStateException") (tx := "there are as many points as may be") (names := thN) (ic := 90) (ik := 86) (ix := 88) C0 htr hno hlk hl.1 (fun _ h => List.mem_cons_of_mem _ h) wd_513 wd_514 wd_77 ws_522 at_2 (by decide +kernel) (by decide +kernel) d_Pn_add_47 d_Pn_add_50 d_Pn_add_51 d_Pn_add_53 d_Pn_add_56 rfl (Nat.le_of_ble_eq_true rfl) (Nat.le_of_ble_eq_true rfl) (Nat.le_of_ble_eq_true rfl) (Nat.le_of_ble_eq_true rfl) rfl hP hD hS
  · rw [if_neg c_5] at hf
    cases hf
def t_Pn_add (x1 : Int32) (x2 : Int32) (S : St) : Option (Nat × St) := t_Pn_add_0  x1 x2 S
theorem ct_Pn_add (l : Launch) (hl0 : l.flags = pinnedFlags ++ [noTraceFlag]) (D : va_G) (cA cP : ClassId) (ob : Nat → Nat) (ad : Nat → Nat → Nat) (x1 : Int32) (x2 : Int32)  (S : St) {res : (Nat × St)} (hf : t_Pn_add x1 x2 S = some res) : CTt l y_Pn_add w_Pn_add rt_Pn_add 1 6 D clC (TY cA cP) [.ref (ob 0), .int x1, .int x2] (cw cA cP ob ad S) (exN res.1) (fun w => w = cw cA cP ob ad res.2) :=
  mk_t (cc := b_Pn_add) (maxL := 5) (own := R_Pn) (ret := (some .int)) hl0 (by decide) rfl rfl (Nat.le_of_ble_eq_true rfl) (fun p e s m below meth c A C0 htr hno hlk ls hl hP hD hS => wt_Pn_add_0 C0 htr hno hlk   x1 x2 S _ _ ls hP hD hS (lv_sub hl [0, 1, 2] rfl) hf)
def rt_Pn_find : Room := { frames := 7, cells := 1, slots := 6, locals := 121 }
def t_Pn_find_0   (x1 : Int32) (x2 : Int32) (S : St) : Option (Nat × St) :=
  orT (t_Pn_checkPlace x1 x2 S) (bd (f_Pn_checkPlace x1 x2 S) (fun q_1 => none))
set_option maxHeartbeats 4000000 in
set_option maxRecDepth 100000 in
theorem wt_Pn_find_0 (C0 : CX p s m args c b_Pn_find 4 R_Pn w_Pn_find D clC cA cP A) {res : (Nat × St)} (htr : l.flags = pinnedFlags ++ [noTraceFlag] ∧ e.platform.stackTraces = false) (hno : c.exceptionTable.isEmpty = true) (hlk : meth.locks = false)    : ∀ (x1 : Int32) (x2 : Int32) (S : St) (H : Heap) (locs : List Loc) (ls : Array Slot), va_P D clC (cw cA cP ob ad S) H → va_D A (cw cA cP ob ad S) → va_S A s.heap H locs → lv_has ls 4 [(0, .ref (ob 0)), (1, .int x1), (2, .int x2)] → t_Pn_find_0   x1 x2 S = some res → W p l e rt_Pn_find s m args below meth c H locs 0 0 (MQT below (QTA D clC (TY cA cP) A (exN res.1) (fun w => w = cw cA cP ob ad res.2)) args s 1 6 A) (F0 m 0 ls []) := by
  obtain ⟨hx, hb, hml, hown, hts, hK, hA, hN, hZ⟩ := id C0
  intro x1 x2 S H locs ls hP hD hS hl hf
  rw [t_Pn_find_0] at hf
  refine lv_iload_n hx hb d_Pn_find_0 rfl (lv_at hl 1 rfl) ?_
  refine lv_iload_n hx hb d_Pn_find_1 rfl (lv_at hl 2 rfl) ?_
  rcases orT_some hf with ht_2 | hf
  · exact th_passW (th_runS (As := [.int x1, .int x2]) (rest := []) ⟨hx, hb, hml, hown, hts⟩ (ct_Pn_checkPlace l htr.1 D cA cP ob ad x1 x2 S ht_2 H.size) ⟨callB_of 2 hts (gd_Pn_checkPlace) rfl rfl rfl (hts _ (List.mem_cons_of_mem _ wd_64)) (hts _ (List.mem_cons_of_mem _ wd_424)) dd_Pn_checkPlace ⟨Nat.le_of_ble_eq_true rfl, Nat.le_of_ble_eq_true rfl⟩, (hts _ (List.mem_cons_of_mem _ wd_425))⟩ (kpS hK hP hD hN hZ hS) rfl rfl hl.1 rfl (lv_room (Nat.le_of_ble_eq_true rfl)) d_Pn_find_2 ⟨Nat.le_of_ble_eq_true rfl, Nat.le_of_ble_eq_true rfl⟩) hno hlk hP hD hS hA
  obtain ⟨q_1, hq_1, hf⟩ := bd_some hf
  refine kc_v (va_runS (As := [.int x1, .int x2]) (rest := []) ⟨hx, hb, hml, hown, hts⟩ (c_Pn_checkPlace l D cA cP ob ad x1 x2  S hq_1 H.size) ⟨callB_of 2 hts (gd_Pn_checkPlace) rfl rfl rfl (hts _ (List.mem_cons_of_mem _ wd_64)) (hts _ (List.mem_cons_of_mem _ wd_424)) dd_Pn_checkPlace ⟨Nat.le_of_ble_eq_true rfl, Nat.le_of_ble_eq_true rfl⟩, (hts _ (List.mem_cons_of_mem _ wd_425))⟩ (kpS hK hP hD hN hZ hS) rfl rfl hl.1 rfl (lv_room (Nat.le_of_ble_eq_true rfl)) d_Pn_find_2 ⟨Nat.le_of_ble_eq_true rfl, Nat.le_of_ble_eq_true rfl⟩) hP hD hS hA (fun w H locs hw hP hD hS => ?_)
  obtain rfl := hw
  cases hf
def t_Pn_find (x1 : Int32) (x2 : Int32) (S : St) : Option (Nat × St) := t_Pn_find_0  x1 x2 S
theorem ct_Pn_find (l : Launch) (hl0 : l.flags = pinnedFlags ++ [noTraceFlag]) (D : va_G) (cA cP : ClassId) (ob : Nat → Nat) (ad : Nat → Nat → Nat) (x1 : Int32) (x2 : Int32)  (S : St) {res : (Nat × St)} (hf : t_Pn_find x1 x2 S = some res) : CTt l y_Pn_find w_Pn_find rt_Pn_find 1 6 D clC (TY cA cP) [.ref (ob 0), .int x1, .int x2] (cw cA cP ob ad S) (exN res.1) (fun w => w = cw cA cP ob ad res.2) :=
  mk_t (cc := b_Pn_find) (maxL := 4) (own := R_Pn) (ret := (some .int)) hl0 (by decide) rfl rfl (Nat.le_of_ble_eq_true rfl) (fun p e s m below meth c A C0 htr hno hlk ls hl hP hD hS => wt_Pn_find_0 C0 htr hno hlk   x1 x2 S _ _ ls hP hD hS (lv_sub hl [0, 1, 2] rfl) hf)
def rt_Pn_triangle : Room := { frames := 6, cells := 1, slots := 6, locals := 132 }
def t_Pn_triangle_24    (S : St) : Option (Nat × St) :=
  some (3, S)
set_option maxHeartbeats 4000000 in
set_option maxRecDepth 100000 in
theorem wt_Pn_triangle_24 (C0 : CX p s m args c b_Pn_triangle 3 R_Pn w_Pn_triangle D clC cA cP A) {res : (Nat × St)} (htr : l.flags = pinnedFlags ++ [noTraceFlag] ∧ e.platform.stackTraces = false) (hno : c.exceptionTable.isEmpty = true) (hlk : meth.locks = false)    : ∀  (S : St) (H : Heap) (locs : List Loc) (ls : Array Slot), va_P D clC (cw cA cP ob ad S) H → va_D A (cw cA cP ob ad S) → va_S A s.heap H locs → lv_has ls 3 [] → t_Pn_triangle_24    S = some res → W p l e rt_Pn_triangle s m args below meth c H locs 0 0 (MQT below (QTA D clC (TY cA cP) A (exN res.1) (fun w => w = cw cA cP ob ad res.2)) args s 1 6 A) (F0 m 24 ls []) := by
  obtain ⟨hx, hb, hml, hown, hts, hK, hA, hN, hZ⟩ := id C0
  intro  S H locs ls hP hD hS hl hf
  rw [t_Pn_triangle_24] at hf
  cases hf
  exact th_new (X := "java/lang/IndexOutOfBoundsException") (tx := "no such triangle or point of it") (names := thN) (ic := 125) (ik := 121) (ix := 123) C0 htr hno hlk hl.1 (fun _ h => List.mem_cons_of_mem _ h) wd_666 wd_667 wd_79 ws_675 at_3 (by decide +kernel) (by decide +kernel) d_Pn_triangle_24 d_Pn_triangle_27 d_Pn_triangle_28 d_Pn_triangle_30 d_Pn_triangle_33 rfl (Nat.le_of_ble_eq_true rfl) (Nat.le_of_ble_eq_true rfl) (Nat.le_of_ble_eq_true rfl) (Nat.le_of_ble_eq_true rfl) rfl hP hD hS
def t_Pn_triangle_0   (x1 : Int32) (x2 : Int32) (S : St) : Option (Nat × St) :=
  (if x1 < 0 then
    t_Pn_triangle_24    S
    else
    bd (f_Nt_solidCount  S) (fun q_2 => (if q_2.1 ≤ x1 then
      t_Pn_triangle_24    q_2.2
      else
      (if x2 < 0 then
        t_Pn_triangle_24    q_2.2
        else
        (if x2 ≤ 2 then
          none
          else
          t_Pn_triangle_24    q_2.2)))))
set_option maxHeartbeats 4000000 in
set_option maxRecDepth 100000 in
theorem wt_Pn_triangle_0 (C0 : CX p s m args c b_Pn_triangle 3 R_Pn w_Pn_triangle D clC cA cP A) {res : (Nat × St)} (htr : l.flags = pinnedFlags ++ [noTraceFlag] ∧ e.platform.stackTraces = false) (hno : c.exceptionTable.isEmpty = true) (hlk : meth.locks = false)    : ∀ (x1 : Int32) (x2 : Int32) (S : St) (H : Heap) (locs : List Loc) (ls : Array Slot), va_P D clC (cw cA cP ob ad S) H → va_D A (cw cA cP ob ad S) → va_S A s.heap H locs → lv_has ls 3 [(0, .ref (ob 0)), (1, .int x1), (2, .int x2)] → t_Pn_triangle_0   x1 x2 S = some res → W p l e rt_Pn_triangle s m args below meth c H locs 0 0 (MQT below (QTA D clC (TY cA cP) A (exN res.1) (fun w => w = cw cA cP ob ad res.2)) args s 1 6 A) (F0 m 0 ls []) := by
  obtain ⟨hx, hb, hml, hown, hts, hK, hA, hN, hZ⟩ := id C0
  intro x1 x2 S H locs ls hP hD hS hl hf
  rw [t_Pn_triangle_0] at hf
  refine lv_iload_n hx hb d_Pn_triangle_0 rfl (lv_at hl 1 rfl) ?_
  refine lv_if_lt (tgt := 24) hx hb d_Pn_triangle_1 (by decide) (fun c_1 => ?_) (fun c_1 => ?_)
  · rw [if_pos c_1] at hf
    exact wt_Pn_triangle_24 C0 htr hno hlk     S H locs ls hP hD hS (lv_sub hl [] rfl) hf
  · rw [if_neg c_1] at hf
    refine lv_iload_n hx hb d_Pn_triangle_4 rfl (lv_at hl 1 rfl) ?_
    refine lv_aload_n hx hb d_Pn_triangle_5 rfl (lv_at hl 0 rfl) ?_
    refine va_get (D := D) (ci := 0) (v := .ref (ob 3)) (C := R_Pn) (T := F_Pn) (N := 8) hx hb hts (fun w h => List.mem_cons_of_mem _ (in_Pn w h)) hown hK hP 0 rfl rfl 1 (by decide) (hts _ (List.mem_cons_of_mem _ wd_250)) (fun _ h9 => h9) rfl d_Pn_triangle_6 ?_
    obtain ⟨q_2, hq_2, hf⟩ := bd_some hf
    refine kc_i (va_runV (As := []) (rest := [.int x1]) ⟨hx, hb, hml, hown, hts⟩ (c_Nt_solidCount l D cA cP ob ad   S hq_2 H.size) ⟨callB_of 0 hts (gd_Nt_solidCount) rfl rfl rfl (hts _ (List.mem_cons_of_mem _ wd_69)) (hts _ (List.mem_cons_of_mem _ wd_310)) dd_Nt_solidCount ⟨Nat.le_of_ble_eq_true rfl, Nat.le_of_ble_eq_true rfl⟩, (hts _ (List.mem_cons_of_mem _ wd_311)), (hts _ (List.mem_cons_of_mem _ wd_312))⟩ (kpV hK hP hD hN hZ hS 3 3 rfl rfl) rfl rfl hl.1 rfl (lv_room (Nat.le_of_ble_eq_true rfl)) d_Pn_triangle_9 ⟨Nat.le_of_ble_eq_true rfl, Nat.le_of_ble_eq_true rfl⟩) hP hD hS hA (fun r w H locs hw hP hD hS => ?_)
    obtain ⟨rfl, rfl⟩ := hw
    refine lv_icmp_ge (tgt := 24) hx hb d_Pn_triangle_12 (by decide) (fun c_3 => ?_) (fun c_3 => ?_)
    · rw [if_pos c_3] at hf
      exact wt_Pn_triangle_24 C0 htr hno hlk     q_2.2 H locs ls hP hD hS (lv_sub hl [] rfl) hf
    · rw [if_neg c_3] at hf
      refine lv_iload_n hx hb d_Pn_triangle_15 rfl (lv_at hl 2 rfl) ?_
      refine lv_if_lt (tgt := 24) hx hb d_Pn_triangle_16 (by decide) (fun c_4 => ?_) (fun c_4 => ?_)
      · rw [if_pos c_4] at hf
        exact wt_Pn_triangle_24 C0 htr hno hlk     q_2.2 H locs ls hP hD hS (lv_sub hl [] rfl) hf
      · rw [if_neg c_4] at hf
        refine lv_iload_n hx hb d_Pn_triangle_19 rfl (lv_at hl 2 rfl) ?_
        refine lv_iconst (v := 2) hx hb d_Pn_triangle_20 (by decide) ?_
        refine lv_icmp_le (tgt := 34) hx hb d_Pn_triangle_21 (by decide) (fun c_5 => ?_) (fun c_5 => ?_)
        · rw [if_pos c_5] at hf
          cases hf
        · rw [if_neg c_5] at hf
          exact wt_Pn_triangle_24 C0 htr hno hlk     q_2.2 H locs ls hP hD hS (lv_sub hl [] rfl) hf
def t_Pn_triangle (x1 : Int32) (x2 : Int32) (S : St) : Option (Nat × St) := t_Pn_triangle_0  x1 x2 S
theorem ct_Pn_triangle (l : Launch) (hl0 : l.flags = pinnedFlags ++ [noTraceFlag]) (D : va_G) (cA cP : ClassId) (ob : Nat → Nat) (ad : Nat → Nat → Nat) (x1 : Int32) (x2 : Int32)  (S : St) {res : (Nat × St)} (hf : t_Pn_triangle x1 x2 S = some res) : CTt l y_Pn_triangle w_Pn_triangle rt_Pn_triangle 1 6 D clC (TY cA cP) [.ref (ob 0), .int x1, .int x2] (cw cA cP ob ad S) (exN res.1) (fun w => w = cw cA cP ob ad res.2) :=
  mk_t (cc := b_Pn_triangle) (maxL := 3) (own := R_Pn) (ret := (some .int)) hl0 (by decide) rfl rfl (Nat.le_of_ble_eq_true rfl) (fun p e s m below meth c A C0 htr hno hlk ls hl hP hD hS => wt_Pn_triangle_0 C0 htr hno hlk   x1 x2 S _ _ ls hP hD hS (lv_sub hl [0, 1, 2] rfl) hf)
def rt_Pn_checkNumber : Room := { frames := 6, cells := 1, slots := 6, locals := 100 }
def t_Pn_checkNumber_15    (S : St) : Option (Nat × St) :=
  some (3, S)
set_option maxHeartbeats 4000000 in
set_option maxRecDepth 100000 in
theorem wt_Pn_checkNumber_15 (C0 : CX p s m args c b_Pn_checkNumber 2 R_Pn w_Pn_checkNumber D clC cA cP A) {res : (Nat × St)} (htr : l.flags = pinnedFlags ++ [noTraceFlag] ∧ e.platform.stackTraces = false) (hno : c.exceptionTable.isEmpty = true) (hlk : meth.locks = false)    : ∀  (S : St) (H : Heap) (locs : List Loc) (ls : Array Slot), va_P D clC (cw cA cP ob ad S) H → va_D A (cw cA cP ob ad S) → va_S A s.heap H locs → lv_has ls 2 [] → t_Pn_checkNumber_15    S = some res → W p l e rt_Pn_checkNumber s m args below meth c H locs 0 0 (MQT below (QTA D clC (TY cA cP) A (exN res.1) (fun w => w = cw cA cP ob ad res.2)) args s 1 6 A) (F0 m 15 ls []) := by
  obtain ⟨hx, hb, hml, hown, hts, hK, hA, hN, hZ⟩ := id C0
  intro  S H locs ls hP hD hS hl hf
  rw [t_Pn_checkNumber_15] at hf
  cases hf
  exact th_new (X := "java/lang/IndexOutOfBoundsException") (tx := "no such point") (names := thN) (ic := 125) (ik := 121) (ix := 188) C0 htr hno hlk hl.1 (fun _ h => List.mem_cons_of_mem _ h) wd_666 wd_667 wd_79 ws_724 at_3 (by decide +kernel) (by decide +kernel) d_Pn_checkNumber_15 d_Pn_checkNumber_18 d_Pn_checkNumber_19 d_Pn_checkNumber_21 d_Pn_checkNumber_24 rfl (Nat.le_of_ble_eq_true rfl) (Nat.le_of_ble_eq_true rfl) (Nat.le_of_ble_eq_true rfl) (Nat.le_of_ble_eq_true rfl) rfl hP hD hS
def t_Pn_checkNumber_0   (x1 : Int32) (S : St) : Option (Nat × St) :=
  (if x1 < 0 then
    t_Pn_checkNumber_15    S
    else
    (if x1 < (gi S 3) then
      none
      else
      t_Pn_checkNumber_15    S))
set_option maxHeartbeats 4000000 in
set_option maxRecDepth 100000 in
theorem wt_Pn_checkNumber_0 (C0 : CX p s m args c b_Pn_checkNumber 2 R_Pn w_Pn_checkNumber D clC cA cP A) {res : (Nat × St)} (htr : l.flags = pinnedFlags ++ [noTraceFlag] ∧ e.platform.stackTraces = false) (hno : c.exceptionTable.isEmpty = true) (hlk : meth.locks = false)    : ∀ (x1 : Int32) (S : St) (H : Heap) (locs : List Loc) (ls : Array Slot), va_P D clC (cw cA cP ob ad S) H → va_D A (cw cA cP ob ad S) → va_S A s.heap H locs → lv_has ls 2 [(0, .ref (ob 0)), (1, .int x1)] → t_Pn_checkNumber_0   x1 S = some res → W p l e rt_Pn_checkNumber s m args below meth c H locs 0 0 (MQT below (QTA D clC (TY cA cP) A (exN res.1) (fun w => w = cw cA cP ob ad res.2)) args s 1 6 A) (F0 m 0 ls []) := by
  obtain ⟨hx, hb, hml, hown, hts, hK, hA, hN, hZ⟩ := id C0
  intro x1 S H locs ls hP hD hS hl hf
  rw [t_Pn_checkNumber_0] at hf
  refine lv_iload_n hx hb d_Pn_checkNumber_0 rfl (lv_at hl 1 rfl) ?_
  refine lv_if_lt (tgt := 15) hx hb d_Pn_checkNumber_1 (by decide) (fun c_1 => ?_) (fun c_1 => ?_)
  · rw [if_pos c_1] at hf
    exact wt_Pn_checkNumber_15 C0 htr hno hlk     S H locs ls hP hD hS (lv_sub hl [] rfl) hf
  · rw [if_neg c_1] at hf
    refine lv_iload_n hx hb d_Pn_checkNumber_4 rfl (lv_at hl 1 rfl) ?_
    refine lv_aload_n hx hb d_Pn_checkNumber_5 rfl (lv_at hl 0 rfl) ?_
    refine va_get (D := D) (ci := 0) (v := .ref (ob 1)) (C := R_Pn) (T := F_Pn) (N := 8) hx hb hts (fun w h => List.mem_cons_of_mem _ (in_Pn w h)) hown hK hP 0 rfl rfl 0 (by decide) (hts _ (List.mem_cons_of_mem _ wd_249)) (fun _ h9 => h9) rfl d_Pn_checkNumber_6 ?_
    refine va_get (D := D) (ci := 1) (v := .int (gi S 3)) (C := R_Pt) (T := F_Pt) (N := 5) hx hb hts (fun w h => List.mem_cons_of_mem _ (in_Pt w h)) hown hK hP 1 rfl rfl 1 (by decide) (hts _ (List.mem_cons_of_mem _ wd_133)) (fun _ h9 => h9) rfl d_Pn_checkNumber_9 ?_
    refine lv_icmp_lt (tgt := 25) hx hb d_Pn_checkNumber_12 (by decide) (fun c_2 => ?_) (fun c_2 => ?_)
    · rw [if_pos c_2] at hf
      cases hf
    · rw [if_neg c_2] at hf
      exact wt_Pn_checkNumber_15 C0 htr hno hlk     S H locs ls hP hD hS (lv_sub hl [] rfl) hf
def t_Pn_checkNumber (x1 : Int32) (S : St) : Option (Nat × St) := t_Pn_checkNumber_0  x1 S
theorem ct_Pn_checkNumber (l : Launch) (hl0 : l.flags = pinnedFlags ++ [noTraceFlag]) (D : va_G) (cA cP : ClassId) (ob : Nat → Nat) (ad : Nat → Nat → Nat) (x1 : Int32)  (S : St) {res : (Nat × St)} (hf : t_Pn_checkNumber x1 S = some res) : CTt l y_Pn_checkNumber w_Pn_checkNumber rt_Pn_checkNumber 1 6 D clC (TY cA cP) [.ref (ob 0), .int x1] (cw cA cP ob ad S) (exN res.1) (fun w => w = cw cA cP ob ad res.2) :=
  mk_t (cc := b_Pn_checkNumber) (maxL := 2) (own := R_Pn) (ret := none) hl0 (by decide) rfl rfl (Nat.le_of_ble_eq_true rfl) (fun p e s m below meth c A C0 htr hno hlk ls hl hP hD hS => wt_Pn_checkNumber_0 C0 htr hno hlk   x1 S _ _ ls hP hD hS (lv_sub hl [0, 1] rfl) hf)
def rt_Pn_neighbours : Room := { frames := 7, cells := 1, slots := 6, locals := 121 }
def t_Pn_neighbours_0   (x1 : Int32) (S : St) : Option (Nat × St) :=
  orT (t_Pn_checkNumber x1 S) (bd (f_Pn_checkNumber x1 S) (fun q_1 => none))
set_option maxHeartbeats 4000000 in
set_option maxRecDepth 100000 in
theorem wt_Pn_neighbours_0 (C0 : CX p s m args c b_Pn_neighbours 2 R_Pn w_Pn_neighbours D clC cA cP A) {res : (Nat × St)} (htr : l.flags = pinnedFlags ++ [noTraceFlag] ∧ e.platform.stackTraces = false) (hno : c.exceptionTable.isEmpty = true) (hlk : meth.locks = false)    : ∀ (x1 : Int32) (S : St) (H : Heap) (locs : List Loc) (ls : Array Slot), va_P D clC (cw cA cP ob ad S) H → va_D A (cw cA cP ob ad S) → va_S A s.heap H locs → lv_has ls 2 [(0, .ref (ob 0)), (1, .int x1)] → t_Pn_neighbours_0   x1 S = some res → W p l e rt_Pn_neighbours s m args below meth c H locs 0 0 (MQT below (QTA D clC (TY cA cP) A (exN res.1) (fun w => w = cw cA cP ob ad res.2)) args s 1 6 A) (F0 m 0 ls []) := by
  obtain ⟨hx, hb, hml, hown, hts, hK, hA, hN, hZ⟩ := id C0
  intro x1 S H locs ls hP hD hS hl hf
  rw [t_Pn_neighbours_0] at hf
  refine lv_aload_n hx hb d_Pn_neighbours_0 rfl (lv_at hl 0 rfl) ?_
  refine lv_iload_n hx hb d_Pn_neighbours_1 rfl (lv_at hl 1 rfl) ?_
  rcases orT_some hf with ht_2 | hf
  · exact th_passW (th_runV (As := [.int x1]) (rest := []) ⟨hx, hb, hml, hown, hts⟩ (ct_Pn_checkNumber l htr.1 D cA cP ob ad x1 S ht_2 H.size) ⟨callB_of 1 hts (gd_Pn_checkNumber) rfl rfl rfl (hts _ (List.mem_cons_of_mem _ wd_64)) (hts _ (List.mem_cons_of_mem _ wd_720)) dd_Pn_checkNumber ⟨Nat.le_of_ble_eq_true rfl, Nat.le_of_ble_eq_true rfl⟩, (hts _ (List.mem_cons_of_mem _ wd_722)), (hts _ (List.mem_cons_of_mem _ wd_27))⟩ (kpV hK hP hD hN hZ hS 0 0 rfl rfl) rfl rfl hl.1 rfl (lv_room (Nat.le_of_ble_eq_true rfl)) d_Pn_neighbours_2 ⟨Nat.le_of_ble_eq_true rfl, Nat.le_of_ble_eq_true rfl⟩) hno hlk hP hD hS hA
  obtain ⟨q_1, hq_1, hf⟩ := bd_some hf
  refine kc_v (va_runV (As := [.int x1]) (rest := []) ⟨hx, hb, hml, hown, hts⟩ (c_Pn_checkNumber l D cA cP ob ad x1  S hq_1 H.size) ⟨callB_of 1 hts (gd_Pn_checkNumber) rfl rfl rfl (hts _ (List.mem_cons_of_mem _ wd_64)) (hts _ (List.mem_cons_of_mem _ wd_720)) dd_Pn_checkNumber ⟨Nat.le_of_ble_eq_true rfl, Nat.le_of_ble_eq_true rfl⟩, (hts _ (List.mem_cons_of_mem _ wd_722)), (hts _ (List.mem_cons_of_mem _ wd_27))⟩ (kpV hK hP hD hN hZ hS 0 0 rfl rfl) rfl rfl hl.1 rfl (lv_room (Nat.le_of_ble_eq_true rfl)) d_Pn_neighbours_2 ⟨Nat.le_of_ble_eq_true rfl, Nat.le_of_ble_eq_true rfl⟩) hP hD hS hA (fun w H locs hw hP hD hS => ?_)
  obtain rfl := hw
  cases hf
def t_Pn_neighbours (x1 : Int32) (S : St) : Option (Nat × St) := t_Pn_neighbours_0  x1 S
theorem ct_Pn_neighbours (l : Launch) (hl0 : l.flags = pinnedFlags ++ [noTraceFlag]) (D : va_G) (cA cP : ClassId) (ob : Nat → Nat) (ad : Nat → Nat → Nat) (x1 : Int32)  (S : St) {res : (Nat × St)} (hf : t_Pn_neighbours x1 S = some res) : CTt l y_Pn_neighbours w_Pn_neighbours rt_Pn_neighbours 1 6 D clC (TY cA cP) [.ref (ob 0), .int x1] (cw cA cP ob ad S) (exN res.1) (fun w => w = cw cA cP ob ad res.2) :=
  mk_t (cc := b_Pn_neighbours) (maxL := 2) (own := R_Pn) (ret := (some .int)) hl0 (by decide) rfl rfl (Nat.le_of_ble_eq_true rfl) (fun p e s m below meth c A C0 htr hno hlk ls hl hP hD hS => wt_Pn_neighbours_0 C0 htr hno hlk   x1 S _ _ ls hP hD hS (lv_sub hl [0, 1] rfl) hf)
def rt_Pn_neighbour : Room := { frames := 7, cells := 1, slots := 6, locals := 121 }
def t_Pn_neighbour_18    (S : St) : Option (Nat × St) :=
  some (3, S)
set_option maxHeartbeats 4000000 in
set_option maxRecDepth 100000 in
theorem wt_Pn_neighbour_18 (C0 : CX p s m args c b_Pn_neighbour 3 R_Pn w_Pn_neighbour D clC cA cP A) {res : (Nat × St)} (htr : l.flags = pinnedFlags ++ [noTraceFlag] ∧ e.platform.stackTraces = false) (hno : c.exceptionTable.isEmpty = true) (hlk : meth.locks = false)    : ∀  (S : St) (H : Heap) (locs : List Loc) (ls : Array Slot), va_P D clC (cw cA cP ob ad S) H → va_D A (cw cA cP ob ad S) → va_S A s.heap H locs → lv_has ls 3 [] → t_Pn_neighbour_18    S = some res → W p l e rt_Pn_neighbour s m args below meth c H locs 0 0 (MQT below (QTA D clC (TY cA cP) A (exN res.1) (fun w => w = cw cA cP ob ad res.2)) args s 1 6 A) (F0 m 18 ls []) := by
  obtain ⟨hx, hb, hml, hown, hts, hK, hA, hN, hZ⟩ := id C0
  intro  S H locs ls hP hD hS hl hf
  rw [t_Pn_neighbour_18] at hf
  cases hf
  exact th_new (X := "java/lang/IndexOutOfBoundsException") (tx := "no such neighbour") (names := thN) (ic := 125) (ik := 121) (ix := 142) C0 htr hno hlk hl.1 (fun _ h => List.mem_cons_of_mem _ h) wd_666 wd_667 wd_79 ws_742 at_3 (by decide +kernel) (by decide +kernel) d_Pn_neighbour_18 d_Pn_neighbour_21 d_Pn_neighbour_22 d_Pn_neighbour_24 d_Pn_neighbour_27 rfl (Nat.le_of_ble_eq_true rfl) (Nat.le_of_ble_eq_true rfl) (Nat.le_of_ble_eq_true rfl) (Nat.le_of_ble_eq_true rfl) rfl hP hD hS
def t_Pn_neighbour_0   (x1 : Int32) (x2 : Int32) (S : St) : Option (Nat × St) :=
  orT (t_Pn_checkNumber x1 S) (bd (f_Pn_checkNumber x1 S) (fun q_1 => (if x2 < 0 then
    t_Pn_neighbour_18    q_1
    else
    bd (f_Pn_neighbourCount x1 q_1) (fun q_4 => (if x2 < q_4.1 then
      none
      else
      t_Pn_neighbour_18    q_4.2)))))
set_option maxHeartbeats 4000000 in
set_option maxRecDepth 100000 in
theorem wt_Pn_neighbour_0 (C0 : CX p s m args c b_Pn_neighbour 3 R_Pn w_Pn_neighbour D clC cA cP A) {res : (Nat × St)} (htr : l.flags = pinnedFlags ++ [noTraceFlag] ∧ e.platform.stackTraces = false) (hno : c.exceptionTable.isEmpty = true) (hlk : meth.locks = false)    : ∀ (x1 : Int32) (x2 : Int32) (S : St) (H : Heap) (locs : List Loc) (ls : Array Slot), va_P D clC (cw cA cP ob ad S) H → va_D A (cw cA cP ob ad S) → va_S A s.heap H locs → lv_has ls 3 [(0, .ref (ob 0)), (1, .int x1), (2, .int x2)] → t_Pn_neighbour_0   x1 x2 S = some res → W p l e rt_Pn_neighbour s m args below meth c H locs 0 0 (MQT below (QTA D clC (TY cA cP) A (exN res.1) (fun w => w = cw cA cP ob ad res.2)) args s 1 6 A) (F0 m 0 ls []) := by
  obtain ⟨hx, hb, hml, hown, hts, hK, hA, hN, hZ⟩ := id C0
  intro x1 x2 S H locs ls hP hD hS hl hf
  rw [t_Pn_neighbour_0] at hf
  refine lv_aload_n hx hb d_Pn_neighbour_0 rfl (lv_at hl 0 rfl) ?_
  refine lv_iload_n hx hb d_Pn_neighbour_1 rfl (lv_at hl 1 rfl) ?_
  rcases orT_some hf with ht_2 | hf
  · exact th_passW (th_runV (As := [.int x1]) (rest := []) ⟨hx, hb, hml, hown, hts⟩ (ct_Pn_checkNumber l htr.1 D cA cP ob ad x1 S ht_2 H.size) ⟨callB_of 1 hts (gd_Pn_checkNumber) rfl rfl rfl (hts _ (List.mem_cons_of_mem _ wd_64)) (hts _ (List.mem_cons_of_mem _ wd_720)) dd_Pn_checkNumber ⟨Nat.le_of_ble_eq_true rfl, Nat.le_of_ble_eq_true rfl⟩, (hts _ (List.mem_cons_of_mem _ wd_722)), (hts _ (List.mem_cons_of_mem _ wd_27))⟩ (kpV hK hP hD hN hZ hS 0 0 rfl rfl) rfl rfl hl.1 rfl (lv_room (Nat.le_of_ble_eq_true rfl)) d_Pn_neighbour_2 ⟨Nat.le_of_ble_eq_true rfl, Nat.le_of_ble_eq_true rfl⟩) hno hlk hP hD hS hA
  obtain ⟨q_1, hq_1, hf⟩ := bd_some hf
  refine kc_v (va_runV (As := [.int x1]) (rest := []) ⟨hx, hb, hml, hown, hts⟩ (c_Pn_checkNumber l D cA cP ob ad x1  S hq_1 H.size) ⟨callB_of 1 hts (gd_Pn_checkNumber) rfl rfl rfl (hts _ (List.mem_cons_of_mem _ wd_64)) (hts _ (List.mem_cons_of_mem _ wd_720)) dd_Pn_checkNumber ⟨Nat.le_of_ble_eq_true rfl, Nat.le_of_ble_eq_true rfl⟩, (hts _ (List.mem_cons_of_mem _ wd_722)), (hts _ (List.mem_cons_of_mem _ wd_27))⟩ (kpV hK hP hD hN hZ hS 0 0 rfl rfl) rfl rfl hl.1 rfl (lv_room (Nat.le_of_ble_eq_true rfl)) d_Pn_neighbour_2 ⟨Nat.le_of_ble_eq_true rfl, Nat.le_of_ble_eq_true rfl⟩) hP hD hS hA (fun w H locs hw hP hD hS => ?_)
  obtain rfl := hw
  refine lv_iload_n hx hb d_Pn_neighbour_5 rfl (lv_at hl 2 rfl) ?_
  refine lv_if_lt (tgt := 18) hx hb d_Pn_neighbour_6 (by decide) (fun c_3 => ?_) (fun c_3 => ?_)
  · rw [if_pos c_3] at hf
    exact wt_Pn_neighbour_18 C0 htr hno hlk     q_1 H locs ls hP hD hS (lv_sub hl [] rfl) hf
  · rw [if_neg c_3] at hf
    refine lv_iload_n hx hb d_Pn_neighbour_9 rfl (lv_at hl 2 rfl) ?_
    refine lv_aload_n hx hb d_Pn_neighbour_10 rfl (lv_at hl 0 rfl) ?_
    refine lv_iload_n hx hb d_Pn_neighbour_11 rfl (lv_at hl 1 rfl) ?_
    obtain ⟨q_4, hq_4, hf⟩ := bd_some hf
    refine kc_i (va_runV (As := [.int x1]) (rest := [.int x2]) ⟨hx, hb, hml, hown, hts⟩ (c_Pn_neighbourCount l D cA cP ob ad x1  q_1 hq_4 H.size) ⟨callB_of 1 hts (gd_Pn_neighbourCount) rfl rfl rfl (hts _ (List.mem_cons_of_mem _ wd_64)) (hts _ (List.mem_cons_of_mem _ wd_725)) dd_Pn_neighbourCount ⟨Nat.le_of_ble_eq_true rfl, Nat.le_of_ble_eq_true rfl⟩, (hts _ (List.mem_cons_of_mem _ wd_727)), (hts _ (List.mem_cons_of_mem _ wd_28))⟩ (kpV hK hP hD hN hZ hS 0 0 rfl rfl) rfl rfl hl.1 rfl (lv_room (Nat.le_of_ble_eq_true rfl)) d_Pn_neighbour_12 ⟨Nat.le_of_ble_eq_true rfl, Nat.le_of_ble_eq_true rfl⟩) hP hD hS hA (fun r w H locs hw hP hD hS => ?_)
    obtain ⟨rfl, rfl⟩ := hw
    refine lv_icmp_lt (tgt := 28) hx hb d_Pn_neighbour_15 (by decide) (fun c_5 => ?_) (fun c_5 => ?_)
    · rw [if_pos c_5] at hf
      cases hf
    · rw [if_neg c_5] at hf
      exact wt_Pn_neighbour_18 C0 htr hno hlk     q_4.2 H locs ls hP hD hS (lv_sub hl [] rfl) hf
def t_Pn_neighbour (x1 : Int32) (x2 : Int32) (S : St) : Option (Nat × St) := t_Pn_neighbour_0  x1 x2 S
theorem ct_Pn_neighbour (l : Launch) (hl0 : l.flags = pinnedFlags ++ [noTraceFlag]) (D : va_G) (cA cP : ClassId) (ob : Nat → Nat) (ad : Nat → Nat → Nat) (x1 : Int32) (x2 : Int32)  (S : St) {res : (Nat × St)} (hf : t_Pn_neighbour x1 x2 S = some res) : CTt l y_Pn_neighbour w_Pn_neighbour rt_Pn_neighbour 1 6 D clC (TY cA cP) [.ref (ob 0), .int x1, .int x2] (cw cA cP ob ad S) (exN res.1) (fun w => w = cw cA cP ob ad res.2) :=
  mk_t (cc := b_Pn_neighbour) (maxL := 3) (own := R_Pn) (ret := (some .int)) hl0 (by decide) rfl rfl (Nat.le_of_ble_eq_true rfl) (fun p e s m below meth c A C0 htr hno hlk ls hl hP hD hS => wt_Pn_neighbour_0 C0 htr hno hlk   x1 x2 S _ _ ls hP hD hS (lv_sub hl [0, 1, 2] rfl) hf)
def rt_Pn_corner : Room := { frames := 6, cells := 1, slots := 6, locals := 145 }
def t_Pn_corner_15    (S : St) : Option (Nat × St) :=
  some (3, S)
set_option maxHeartbeats 4000000 in
set_option maxRecDepth 100000 in
theorem wt_Pn_corner_15 (C0 : CX p s m args c b_Pn_corner 2 R_Pn w_Pn_corner D clC cA cP A) {res : (Nat × St)} (htr : l.flags = pinnedFlags ++ [noTraceFlag] ∧ e.platform.stackTraces = false) (hno : c.exceptionTable.isEmpty = true) (hlk : meth.locks = false)    : ∀  (S : St) (H : Heap) (locs : List Loc) (ls : Array Slot), va_P D clC (cw cA cP ob ad S) H → va_D A (cw cA cP ob ad S) → va_S A s.heap H locs → lv_has ls 2 [] → t_Pn_corner_15    S = some res → W p l e rt_Pn_corner s m args below meth c H locs 0 0 (MQT below (QTA D clC (TY cA cP) A (exN res.1) (fun w => w = cw cA cP ob ad res.2)) args s 1 6 A) (F0 m 15 ls []) := by
  obtain ⟨hx, hb, hml, hown, hts, hK, hA, hN, hZ⟩ := id C0
  intro  S H locs ls hP hD hS hl hf
  rw [t_Pn_corner_15] at hf
  cases hf
  exact th_new (X := "java/lang/IndexOutOfBoundsException") (tx := "no such corner") (names := thN) (ic := 125) (ik := 121) (ix := 153) C0 htr hno hlk hl.1 (fun _ h => List.mem_cons_of_mem _ h) wd_666 wd_667 wd_79 ws_762 at_3 (by decide +kernel) (by decide +kernel) d_Pn_corner_15 d_Pn_corner_18 d_Pn_corner_19 d_Pn_corner_21 d_Pn_corner_24 rfl (Nat.le_of_ble_eq_true rfl) (Nat.le_of_ble_eq_true rfl) (Nat.le_of_ble_eq_true rfl) (Nat.le_of_ble_eq_true rfl) rfl hP hD hS
def t_Pn_corner_0   (x1 : Int32) (S : St) : Option (Nat × St) :=
  (if x1 < 0 then
    t_Pn_corner_15    S
    else
    bd (f_Ol_many  S) (fun q_2 => (if x1 < q_2.1 then
      none
      else
      t_Pn_corner_15    q_2.2)))
set_option maxHeartbeats 4000000 in
set_option maxRecDepth 100000 in
theorem wt_Pn_corner_0 (C0 : CX p s m args c b_Pn_corner 2 R_Pn w_Pn_corner D clC cA cP A) {res : (Nat × St)} (htr : l.flags = pinnedFlags ++ [noTraceFlag] ∧ e.platform.stackTraces = false) (hno : c.exceptionTable.isEmpty = true) (hlk : meth.locks = false)    : ∀ (x1 : Int32) (S : St) (H : Heap) (locs : List Loc) (ls : Array Slot), va_P D clC (cw cA cP ob ad S) H → va_D A (cw cA cP ob ad S) → va_S A s.heap H locs → lv_has ls 2 [(0, .ref (ob 0)), (1, .int x1)] → t_Pn_corner_0   x1 S = some res → W p l e rt_Pn_corner s m args below meth c H locs 0 0 (MQT below (QTA D clC (TY cA cP) A (exN res.1) (fun w => w = cw cA cP ob ad res.2)) args s 1 6 A) (F0 m 0 ls []) := by
  obtain ⟨hx, hb, hml, hown, hts, hK, hA, hN, hZ⟩ := id C0
  intro x1 S H locs ls hP hD hS hl hf
  rw [t_Pn_corner_0] at hf
  refine lv_iload_n hx hb d_Pn_corner_0 rfl (lv_at hl 1 rfl) ?_
  refine lv_if_lt (tgt := 15) hx hb d_Pn_corner_1 (by decide) (fun c_1 => ?_) (fun c_1 => ?_)
  · rw [if_pos c_1] at hf
    exact wt_Pn_corner_15 C0 htr hno hlk     S H locs ls hP hD hS (lv_sub hl [] rfl) hf
  · rw [if_neg c_1] at hf
    refine lv_iload_n hx hb d_Pn_corner_4 rfl (lv_at hl 1 rfl) ?_
    refine lv_aload_n hx hb d_Pn_corner_5 rfl (lv_at hl 0 rfl) ?_
    refine va_get (D := D) (ci := 0) (v := .ref (ob 5)) (C := R_Pn) (T := F_Pn) (N := 8) hx hb hts (fun w h => List.mem_cons_of_mem _ (in_Pn w h)) hown hK hP 0 rfl rfl 3 (by decide) (hts _ (List.mem_cons_of_mem _ wd_252)) (fun _ h9 => h9) rfl d_Pn_corner_6 ?_
    obtain ⟨q_2, hq_2, hf⟩ := bd_some hf
    refine kc_i (va_runV (As := []) (rest := [.int x1]) ⟨hx, hb, hml, hown, hts⟩ (c_Ol_many l D cA cP ob ad   S hq_2 H.size) ⟨callB_of 0 hts (gd_Ol_many) rfl rfl rfl (hts _ (List.mem_cons_of_mem _ wd_71)) (hts _ (List.mem_cons_of_mem _ wd_314)) dd_Ol_many ⟨Nat.le_of_ble_eq_true rfl, Nat.le_of_ble_eq_true rfl⟩, (hts _ (List.mem_cons_of_mem _ wd_315)), (hts _ (List.mem_cons_of_mem _ wd_316))⟩ (kpV hK hP hD hN hZ hS 5 5 rfl rfl) rfl rfl hl.1 rfl (lv_room (Nat.le_of_ble_eq_true rfl)) d_Pn_corner_9 ⟨Nat.le_of_ble_eq_true rfl, Nat.le_of_ble_eq_true rfl⟩) hP hD hS hA (fun r w H locs hw hP hD hS => ?_)
    obtain ⟨rfl, rfl⟩ := hw
    refine lv_icmp_lt (tgt := 25) hx hb d_Pn_corner_12 (by decide) (fun c_3 => ?_) (fun c_3 => ?_)
    · rw [if_pos c_3] at hf
      cases hf
    · rw [if_neg c_3] at hf
      exact wt_Pn_corner_15 C0 htr hno hlk     q_2.2 H locs ls hP hD hS (lv_sub hl [] rfl) hf
def t_Pn_corner (x1 : Int32) (S : St) : Option (Nat × St) := t_Pn_corner_0  x1 S
theorem ct_Pn_corner (l : Launch) (hl0 : l.flags = pinnedFlags ++ [noTraceFlag]) (D : va_G) (cA cP : ClassId) (ob : Nat → Nat) (ad : Nat → Nat → Nat) (x1 : Int32)  (S : St) {res : (Nat × St)} (hf : t_Pn_corner x1 S = some res) : CTt l y_Pn_corner w_Pn_corner rt_Pn_corner 1 6 D clC (TY cA cP) [.ref (ob 0), .int x1] (cw cA cP ob ad S) (exN res.1) (fun w => w = cw cA cP ob ad res.2) :=
  mk_t (cc := b_Pn_corner) (maxL := 2) (own := R_Pn) (ret := (some .int)) hl0 (by decide) rfl rfl (Nat.le_of_ble_eq_true rfl) (fun p e s m below meth c A C0 htr hno hlk ls hl hP hD hS => wt_Pn_corner_0 C0 htr hno hlk   x1 S _ _ ls hP hD hS (lv_sub hl [0, 1] rfl) hf)
def rt_Pn_locate : Room := { frames := 7, cells := 1, slots := 6, locals := 132 }
def t_Pn_locate_0   (x1 : Int32) (x2 : Int32) (S : St) : Option (Nat × St) :=
  orT (t_Pn_checkPlace x1 x2 S) (bd (f_Pn_checkPlace x1 x2 S) (fun q_1 => none))
set_option maxHeartbeats 4000000 in
set_option maxRecDepth 100000 in
theorem wt_Pn_locate_0 (C0 : CX p s m args c b_Pn_locate 4 R_Pn w_Pn_locate D clC cA cP A) {res : (Nat × St)} (htr : l.flags = pinnedFlags ++ [noTraceFlag] ∧ e.platform.stackTraces = false) (hno : c.exceptionTable.isEmpty = true) (hlk : meth.locks = false)    : ∀ (x1 : Int32) (x2 : Int32) (S : St) (H : Heap) (locs : List Loc) (ls : Array Slot), va_P D clC (cw cA cP ob ad S) H → va_D A (cw cA cP ob ad S) → va_S A s.heap H locs → lv_has ls 4 [(0, .ref (ob 0)), (1, .int x1), (2, .int x2)] → t_Pn_locate_0   x1 x2 S = some res → W p l e rt_Pn_locate s m args below meth c H locs 0 0 (MQT below (QTA D clC (TY cA cP) A (exN res.1) (fun w => w = cw cA cP ob ad res.2)) args s 1 6 A) (F0 m 0 ls []) := by
  obtain ⟨hx, hb, hml, hown, hts, hK, hA, hN, hZ⟩ := id C0
  intro x1 x2 S H locs ls hP hD hS hl hf
  rw [t_Pn_locate_0] at hf
  refine lv_iload_n hx hb d_Pn_locate_0 rfl (lv_at hl 1 rfl) ?_
  refine lv_iload_n hx hb d_Pn_locate_1 rfl (lv_at hl 2 rfl) ?_
  rcases orT_some hf with ht_2 | hf
  · exact th_passW (th_runS (As := [.int x1, .int x2]) (rest := []) ⟨hx, hb, hml, hown, hts⟩ (ct_Pn_checkPlace l htr.1 D cA cP ob ad x1 x2 S ht_2 H.size) ⟨callB_of 2 hts (gd_Pn_checkPlace) rfl rfl rfl (hts _ (List.mem_cons_of_mem _ wd_64)) (hts _ (List.mem_cons_of_mem _ wd_424)) dd_Pn_checkPlace ⟨Nat.le_of_ble_eq_true rfl, Nat.le_of_ble_eq_true rfl⟩, (hts _ (List.mem_cons_of_mem _ wd_425))⟩ (kpS hK hP hD hN hZ hS) rfl rfl hl.1 rfl (lv_room (Nat.le_of_ble_eq_true rfl)) d_Pn_locate_2 ⟨Nat.le_of_ble_eq_true rfl, Nat.le_of_ble_eq_true rfl⟩) hno hlk hP hD hS hA
  obtain ⟨q_1, hq_1, hf⟩ := bd_some hf
  refine kc_v (va_runS (As := [.int x1, .int x2]) (rest := []) ⟨hx, hb, hml, hown, hts⟩ (c_Pn_checkPlace l D cA cP ob ad x1 x2  S hq_1 H.size) ⟨callB_of 2 hts (gd_Pn_checkPlace) rfl rfl rfl (hts _ (List.mem_cons_of_mem _ wd_64)) (hts _ (List.mem_cons_of_mem _ wd_424)) dd_Pn_checkPlace ⟨Nat.le_of_ble_eq_true rfl, Nat.le_of_ble_eq_true rfl⟩, (hts _ (List.mem_cons_of_mem _ wd_425))⟩ (kpS hK hP hD hN hZ hS) rfl rfl hl.1 rfl (lv_room (Nat.le_of_ble_eq_true rfl)) d_Pn_locate_2 ⟨Nat.le_of_ble_eq_true rfl, Nat.le_of_ble_eq_true rfl⟩) hP hD hS hA (fun w H locs hw hP hD hS => ?_)
  obtain rfl := hw
  cases hf
def t_Pn_locate (x1 : Int32) (x2 : Int32) (S : St) : Option (Nat × St) := t_Pn_locate_0  x1 x2 S
theorem ct_Pn_locate (l : Launch) (hl0 : l.flags = pinnedFlags ++ [noTraceFlag]) (D : va_G) (cA cP : ClassId) (ob : Nat → Nat) (ad : Nat → Nat → Nat) (x1 : Int32) (x2 : Int32)  (S : St) {res : (Nat × St)} (hf : t_Pn_locate x1 x2 S = some res) : CTt l y_Pn_locate w_Pn_locate rt_Pn_locate 1 6 D clC (TY cA cP) [.ref (ob 0), .int x1, .int x2] (cw cA cP ob ad S) (exN res.1) (fun w => w = cw cA cP ob ad res.2) :=
  mk_t (cc := b_Pn_locate) (maxL := 4) (own := R_Pn) (ret := (some .int)) hl0 (by decide) rfl rfl (Nat.le_of_ble_eq_true rfl) (fun p e s m below meth c A C0 htr hno hlk ls hl hP hD hS => wt_Pn_locate_0 C0 htr hno hlk   x1 x2 S _ _ ls hP hD hS (lv_sub hl [0, 1, 2] rfl) hf)
def rt_Pn_nearest : Room := { frames := 7, cells := 1, slots := 6, locals := 121 }
def t_Pn_nearest_0   (x1 : Int32) (x2 : Int32) (S : St) : Option (Nat × St) :=
  orT (t_Pn_checkPlace x1 x2 S) (bd (f_Pn_checkPlace x1 x2 S) (fun q_1 => (if (gi q_1 3) = 0 then
    some (2, q_1)
    else
    none)))
set_option maxHeartbeats 4000000 in
set_option maxRecDepth 100000 in
theorem wt_Pn_nearest_0 (C0 : CX p s m args c b_Pn_nearest 3 R_Pn w_Pn_nearest D clC cA cP A) {res : (Nat × St)} (htr : l.flags = pinnedFlags ++ [noTraceFlag] ∧ e.platform.stackTraces = false) (hno : c.exceptionTable.isEmpty = true) (hlk : meth.locks = false)    : ∀ (x1 : Int32) (x2 : Int32) (S : St) (H : Heap) (locs : List Loc) (ls : Array Slot), va_P D clC (cw cA cP ob ad S) H → va_D A (cw cA cP ob ad S) → va_S A s.heap H locs → lv_has ls 3 [(0, .ref (ob 0)), (1, .int x1), (2, .int x2)] → t_Pn_nearest_0   x1 x2 S = some res → W p l e rt_Pn_nearest s m args below meth c H locs 0 0 (MQT below (QTA D clC (TY cA cP) A (exN res.1) (fun w => w = cw cA cP ob ad res.2)) args s 1 6 A) (F0 m 0 ls []) := by
  obtain ⟨hx, hb, hml, hown, hts, hK, hA, hN, hZ⟩ := id C0
  intro x1 x2 S H locs ls hP hD hS hl hf
  rw [t_Pn_nearest_0] at hf
  refine lv_iload_n hx hb d_Pn_nearest_0 rfl (lv_at hl 1 rfl) ?_
  refine lv_iload_n hx hb d_Pn_nearest_1 rfl (lv_at hl 2 rfl) ?_
  rcases orT_some hf with ht_2 | hf
  · exact th_passW (th_runS (As := [.int x1, .int x2]) (rest := []) ⟨hx, hb, hml, hown, hts⟩ (ct_Pn_checkPlace l htr.1 D cA cP ob ad x1 x2 S ht_2 H.size) ⟨callB_of 2 hts (gd_Pn_checkPlace) rfl rfl rfl (hts _ (List.mem_cons_of_mem _ wd_64)) (hts _ (List.mem_cons_of_mem _ wd_424)) dd_Pn_checkPlace ⟨Nat.le_of_ble_eq_true rfl, Nat.le_of_ble_eq_true rfl⟩, (hts _ (List.mem_cons_of_mem _ wd_425))⟩ (kpS hK hP hD hN hZ hS) rfl rfl hl.1 rfl (lv_room (Nat.le_of_ble_eq_true rfl)) d_Pn_nearest_2 ⟨Nat.le_of_ble_eq_true rfl, Nat.le_of_ble_eq_true rfl⟩) hno hlk hP hD hS hA
  obtain ⟨q_1, hq_1, hf⟩ := bd_some hf
  refine kc_v (va_runS (As := [.int x1, .int x2]) (rest := []) ⟨hx, hb, hml, hown, hts⟩ (c_Pn_checkPlace l D cA cP ob ad x1 x2  S hq_1 H.size) ⟨callB_of 2 hts (gd_Pn_checkPlace) rfl rfl rfl (hts _ (List.mem_cons_of_mem _ wd_64)) (hts _ (List.mem_cons_of_mem _ wd_424)) dd_Pn_checkPlace ⟨Nat.le_of_ble_eq_true rfl, Nat.le_of_ble_eq_true rfl⟩, (hts _ (List.mem_cons_of_mem _ wd_425))⟩ (kpS hK hP hD hN hZ hS) rfl rfl hl.1 rfl (lv_room (Nat.le_of_ble_eq_true rfl)) d_Pn_nearest_2 ⟨Nat.le_of_ble_eq_true rfl, Nat.le_of_ble_eq_true rfl⟩) hP hD hS hA (fun w H locs hw hP hD hS => ?_)
  obtain rfl := hw
  refine lv_aload_n hx hb d_Pn_nearest_5 rfl (lv_at hl 0 rfl) ?_
  refine va_get (D := D) (ci := 0) (v := .ref (ob 1)) (C := R_Pn) (T := F_Pn) (N := 8) hx hb hts (fun w h => List.mem_cons_of_mem _ (in_Pn w h)) hown hK hP 0 rfl rfl 0 (by decide) (hts _ (List.mem_cons_of_mem _ wd_249)) (fun _ h9 => h9) rfl d_Pn_nearest_6 ?_
  refine va_get (D := D) (ci := 1) (v := .int (gi q_1 3)) (C := R_Pt) (T := F_Pt) (N := 5) hx hb hts (fun w h => List.mem_cons_of_mem _ (in_Pt w h)) hown hK hP 1 rfl rfl 1 (by decide) (hts _ (List.mem_cons_of_mem _ wd_133)) (fun _ h9 => h9) rfl d_Pn_nearest_9 ?_
  refine lv_if_ne (tgt := 25) hx hb d_Pn_nearest_12 (by decide) (fun c_3 => ?_) (fun c_3 => ?_)
  · rw [if_neg c_3] at hf
    cases hf
  · rw [if_pos c_3] at hf
    cases hf
    exact th_new (X := "java/lang/IllegalStateException") (tx := "there are no points") (names := thN) (ic := 90) (ik := 86) (ix := 167) C0 htr hno hlk hl.1 (fun _ h => List.mem_cons_of_mem _ h) wd_513 wd_514 wd_77 ws_798 at_2 (by decide +kernel) (by decide +kernel) d_Pn_nearest_15 d_Pn_nearest_18 d_Pn_nearest_19 d_Pn_nearest_21 d_Pn_nearest_24 rfl (Nat.le_of_ble_eq_true rfl) (Nat.le_of_ble_eq_true rfl) (Nat.le_of_ble_eq_true rfl) (Nat.le_of_ble_eq_true rfl) rfl hP hD hS
def t_Pn_nearest (x1 : Int32) (x2 : Int32) (S : St) : Option (Nat × St) := t_Pn_nearest_0  x1 x2 S
theorem ct_Pn_nearest (l : Launch) (hl0 : l.flags = pinnedFlags ++ [noTraceFlag]) (D : va_G) (cA cP : ClassId) (ob : Nat → Nat) (ad : Nat → Nat → Nat) (x1 : Int32) (x2 : Int32)  (S : St) {res : (Nat × St)} (hf : t_Pn_nearest x1 x2 S = some res) : CTt l y_Pn_nearest w_Pn_nearest rt_Pn_nearest 1 6 D clC (TY cA cP) [.ref (ob 0), .int x1, .int x2] (cw cA cP ob ad S) (exN res.1) (fun w => w = cw cA cP ob ad res.2) :=
  mk_t (cc := b_Pn_nearest) (maxL := 3) (own := R_Pn) (ret := (some .int)) hl0 (by decide) rfl rfl (Nat.le_of_ble_eq_true rfl) (fun p e s m below meth c A C0 htr hno hlk ls hl hP hD hS => wt_Pn_nearest_0 C0 htr hno hlk   x1 x2 S _ _ ls hP hD hS (lv_sub hl [0, 1, 2] rfl) hf)
def rt_Pn_closest : Room := { frames := 6, cells := 1, slots := 6, locals := 100 }
def t_Pn_closest_9    (S : St) : Option (Nat × St) :=
  some (3, S)
set_option maxHeartbeats 4000000 in
set_option maxRecDepth 100000 in
theorem wt_Pn_closest_9 (C0 : CX p s m args c b_Pn_closest 2 R_Pn w_Pn_closest D clC cA cP A) {res : (Nat × St)} (htr : l.flags = pinnedFlags ++ [noTraceFlag] ∧ e.platform.stackTraces = false) (hno : c.exceptionTable.isEmpty = true) (hlk : meth.locks = false)    : ∀  (S : St) (H : Heap) (locs : List Loc) (ls : Array Slot), va_P D clC (cw cA cP ob ad S) H → va_D A (cw cA cP ob ad S) → va_S A s.heap H locs → lv_has ls 2 [] → t_Pn_closest_9    S = some res → W p l e rt_Pn_closest s m args below meth c H locs 0 0 (MQT below (QTA D clC (TY cA cP) A (exN res.1) (fun w => w = cw cA cP ob ad res.2)) args s 1 6 A) (F0 m 9 ls []) := by
  obtain ⟨hx, hb, hml, hown, hts, hK, hA, hN, hZ⟩ := id C0
  intro  S H locs ls hP hD hS hl hf
  rw [t_Pn_closest_9] at hf
  cases hf
  exact th_new (X := "java/lang/IndexOutOfBoundsException") (tx := "what is 0, 1 or 2") (names := thN) (ic := 125) (ik := 121) (ix := 169) C0 htr hno hlk hl.1 (fun _ h => List.mem_cons_of_mem _ h) wd_666 wd_667 wd_79 ws_806 at_3 (by decide +kernel) (by decide +kernel) d_Pn_closest_9 d_Pn_closest_12 d_Pn_closest_13 d_Pn_closest_15 d_Pn_closest_18 rfl (Nat.le_of_ble_eq_true rfl) (Nat.le_of_ble_eq_true rfl) (Nat.le_of_ble_eq_true rfl) (Nat.le_of_ble_eq_true rfl) rfl hP hD hS
def t_Pn_closest_0   (x1 : Int32) (S : St) : Option (Nat × St) :=
  (if x1 < 0 then
    t_Pn_closest_9    S
    else
    (if x1 ≤ 2 then
      (if 2 ≤ (gi S 3) then
        none
        else
        some (2, S))
      else
      t_Pn_closest_9    S))
set_option maxHeartbeats 4000000 in
set_option maxRecDepth 100000 in
theorem wt_Pn_closest_0 (C0 : CX p s m args c b_Pn_closest 2 R_Pn w_Pn_closest D clC cA cP A) {res : (Nat × St)} (htr : l.flags = pinnedFlags ++ [noTraceFlag] ∧ e.platform.stackTraces = false) (hno : c.exceptionTable.isEmpty = true) (hlk : meth.locks = false)    : ∀ (x1 : Int32) (S : St) (H : Heap) (locs : List Loc) (ls : Array Slot), va_P D clC (cw cA cP ob ad S) H → va_D A (cw cA cP ob ad S) → va_S A s.heap H locs → lv_has ls 2 [(0, .ref (ob 0)), (1, .int x1)] → t_Pn_closest_0   x1 S = some res → W p l e rt_Pn_closest s m args below meth c H locs 0 0 (MQT below (QTA D clC (TY cA cP) A (exN res.1) (fun w => w = cw cA cP ob ad res.2)) args s 1 6 A) (F0 m 0 ls []) := by
  obtain ⟨hx, hb, hml, hown, hts, hK, hA, hN, hZ⟩ := id C0
  intro x1 S H locs ls hP hD hS hl hf
  rw [t_Pn_closest_0] at hf
  refine lv_iload_n hx hb d_Pn_closest_0 rfl (lv_at hl 1 rfl) ?_
  refine lv_if_lt (tgt := 9) hx hb d_Pn_closest_1 (by decide) (fun c_1 => ?_) (fun c_1 => ?_)
  · rw [if_pos c_1] at hf
    exact wt_Pn_closest_9 C0 htr hno hlk     S H locs ls hP hD hS (lv_sub hl [] rfl) hf
  · rw [if_neg c_1] at hf
    refine lv_iload_n hx hb d_Pn_closest_4 rfl (lv_at hl 1 rfl) ?_
    refine lv_iconst (v := 2) hx hb d_Pn_closest_5 (by decide) ?_
    refine lv_icmp_le (tgt := 19) hx hb d_Pn_closest_6 (by decide) (fun c_2 => ?_) (fun c_2 => ?_)
    · rw [if_pos c_2] at hf
      refine lv_aload_n hx hb d_Pn_closest_19 rfl (lv_at hl 0 rfl) ?_
      refine va_get (D := D) (ci := 0) (v := .ref (ob 1)) (C := R_Pn) (T := F_Pn) (N := 8) hx hb hts (fun w h => List.mem_cons_of_mem _ (in_Pn w h)) hown hK hP 0 rfl rfl 0 (by decide) (hts _ (List.mem_cons_of_mem _ wd_249)) (fun _ h9 => h9) rfl d_Pn_closest_20 ?_
      refine va_get (D := D) (ci := 1) (v := .int (gi S 3)) (C := R_Pt) (T := F_Pt) (N := 5) hx hb hts (fun w h => List.mem_cons_of_mem _ (in_Pt w h)) hown hK hP 1 rfl rfl 1 (by decide) (hts _ (List.mem_cons_of_mem _ wd_133)) (fun _ h9 => h9) rfl d_Pn_closest_23 ?_
      refine lv_iconst (v := 2) hx hb d_Pn_closest_26 (by decide) ?_
      refine lv_icmp_ge (tgt := 40) hx hb d_Pn_closest_27 (by decide) (fun c_3 => ?_) (fun c_3 => ?_)
      · rw [if_pos c_3] at hf
        cases hf
      · rw [if_neg c_3] at hf
        cases hf
        exact th_new (X := "java/lang/IllegalStateException") (tx := "there are not two points") (names := thN) (ic := 90) (ik := 86) (ix := 171) C0 htr hno hlk hl.1 (fun _ h => List.mem_cons_of_mem _ h) wd_513 wd_514 wd_77 ws_807 at_2 (by decide +kernel) (by decide +kernel) d_Pn_closest_30 d_Pn_closest_33 d_Pn_closest_34 d_Pn_closest_36 d_Pn_closest_39 rfl (Nat.le_of_ble_eq_true rfl) (Nat.le_of_ble_eq_true rfl) (Nat.le_of_ble_eq_true rfl) (Nat.le_of_ble_eq_true rfl) rfl hP hD hS
    · rw [if_neg c_2] at hf
      exact wt_Pn_closest_9 C0 htr hno hlk     S H locs ls hP hD hS (lv_sub hl [] rfl) hf
def t_Pn_closest (x1 : Int32) (S : St) : Option (Nat × St) := t_Pn_closest_0  x1 S
theorem ct_Pn_closest (l : Launch) (hl0 : l.flags = pinnedFlags ++ [noTraceFlag]) (D : va_G) (cA cP : ClassId) (ob : Nat → Nat) (ad : Nat → Nat → Nat) (x1 : Int32)  (S : St) {res : (Nat × St)} (hf : t_Pn_closest x1 S = some res) : CTt l y_Pn_closest w_Pn_closest rt_Pn_closest 1 6 D clC (TY cA cP) [.ref (ob 0), .int x1] (cw cA cP ob ad S) (exN res.1) (fun w => w = cw cA cP ob ad res.2) :=
  mk_t (cc := b_Pn_closest) (maxL := 2) (own := R_Pn) (ret := (some .long)) hl0 (by decide) rfl rfl (Nat.le_of_ble_eq_true rfl) (fun p e s m below meth c A C0 htr hno hlk ls hl hP hD hS => wt_Pn_closest_0 C0 htr hno hlk   x1 S _ _ ls hP hD hS (lv_sub hl [0, 1] rfl) hf)
def rt_Pn_point : Room := { frames := 7, cells := 1, slots := 6, locals := 121 }
def t_Pn_point_14    (S : St) : Option (Nat × St) :=
  some (3, S)
set_option maxHeartbeats 4000000 in
set_option maxRecDepth 100000 in
theorem wt_Pn_point_14 (C0 : CX p s m args c b_Pn_point 3 R_Pn w_Pn_point D clC cA cP A) {res : (Nat × St)} (htr : l.flags = pinnedFlags ++ [noTraceFlag] ∧ e.platform.stackTraces = false) (hno : c.exceptionTable.isEmpty = true) (hlk : meth.locks = false)    : ∀  (S : St) (H : Heap) (locs : List Loc) (ls : Array Slot), va_P D clC (cw cA cP ob ad S) H → va_D A (cw cA cP ob ad S) → va_S A s.heap H locs → lv_has ls 3 [] → t_Pn_point_14    S = some res → W p l e rt_Pn_point s m args below meth c H locs 0 0 (MQT below (QTA D clC (TY cA cP) A (exN res.1) (fun w => w = cw cA cP ob ad res.2)) args s 1 6 A) (F0 m 14 ls []) := by
  obtain ⟨hx, hb, hml, hown, hts, hK, hA, hN, hZ⟩ := id C0
  intro  S H locs ls hP hD hS hl hf
  rw [t_Pn_point_14] at hf
  cases hf
  exact th_new (X := "java/lang/IndexOutOfBoundsException") (tx := "what is 0 or 1") (names := thN) (ic := 125) (ik := 121) (ix := 173) C0 htr hno hlk hl.1 (fun _ h => List.mem_cons_of_mem _ h) wd_666 wd_667 wd_79 ws_815 at_3 (by decide +kernel) (by decide +kernel) d_Pn_point_14 d_Pn_point_17 d_Pn_point_18 d_Pn_point_20 d_Pn_point_23 rfl (Nat.le_of_ble_eq_true rfl) (Nat.le_of_ble_eq_true rfl) (Nat.le_of_ble_eq_true rfl) (Nat.le_of_ble_eq_true rfl) rfl hP hD hS
def t_Pn_point_0   (x1 : Int32) (x2 : Int32) (S : St) : Option (Nat × St) :=
  orT (t_Pn_checkNumber x1 S) (bd (f_Pn_checkNumber x1 S) (fun q_1 => (if x2 < 0 then
    t_Pn_point_14    q_1
    else
    (if x2 ≤ 1 then
      none
      else
      t_Pn_point_14    q_1))))
set_option maxHeartbeats 4000000 in
set_option maxRecDepth 100000 in
theorem wt_Pn_point_0 (C0 : CX p s m args c b_Pn_point 3 R_Pn w_Pn_point D clC cA cP A) {res : (Nat × St)} (htr : l.flags = pinnedFlags ++ [noTraceFlag] ∧ e.platform.stackTraces = false) (hno : c.exceptionTable.isEmpty = true) (hlk : meth.locks = false)    : ∀ (x1 : Int32) (x2 : Int32) (S : St) (H : Heap) (locs : List Loc) (ls : Array Slot), va_P D clC (cw cA cP ob ad S) H → va_D A (cw cA cP ob ad S) → va_S A s.heap H locs → lv_has ls 3 [(0, .ref (ob 0)), (1, .int x1), (2, .int x2)] → t_Pn_point_0   x1 x2 S = some res → W p l e rt_Pn_point s m args below meth c H locs 0 0 (MQT below (QTA D clC (TY cA cP) A (exN res.1) (fun w => w = cw cA cP ob ad res.2)) args s 1 6 A) (F0 m 0 ls []) := by
  obtain ⟨hx, hb, hml, hown, hts, hK, hA, hN, hZ⟩ := id C0
  intro x1 x2 S H locs ls hP hD hS hl hf
  rw [t_Pn_point_0] at hf
  refine lv_aload_n hx hb d_Pn_point_0 rfl (lv_at hl 0 rfl) ?_
  refine lv_iload_n hx hb d_Pn_point_1 rfl (lv_at hl 1 rfl) ?_
  rcases orT_some hf with ht_2 | hf
  · exact th_passW (th_runV (As := [.int x1]) (rest := []) ⟨hx, hb, hml, hown, hts⟩ (ct_Pn_checkNumber l htr.1 D cA cP ob ad x1 S ht_2 H.size) ⟨callB_of 1 hts (gd_Pn_checkNumber) rfl rfl rfl (hts _ (List.mem_cons_of_mem _ wd_64)) (hts _ (List.mem_cons_of_mem _ wd_720)) dd_Pn_checkNumber ⟨Nat.le_of_ble_eq_true rfl, Nat.le_of_ble_eq_true rfl⟩, (hts _ (List.mem_cons_of_mem _ wd_722)), (hts _ (List.mem_cons_of_mem _ wd_27))⟩ (kpV hK hP hD hN hZ hS 0 0 rfl rfl) rfl rfl hl.1 rfl (lv_room (Nat.le_of_ble_eq_true rfl)) d_Pn_point_2 ⟨Nat.le_of_ble_eq_true rfl, Nat.le_of_ble_eq_true rfl⟩) hno hlk hP hD hS hA
  obtain ⟨q_1, hq_1, hf⟩ := bd_some hf
  refine kc_v (va_runV (As := [.int x1]) (rest := []) ⟨hx, hb, hml, hown, hts⟩ (c_Pn_checkNumber l D cA cP ob ad x1  S hq_1 H.size) ⟨callB_of 1 hts (gd_Pn_checkNumber) rfl rfl rfl (hts _ (List.mem_cons_of_mem _ wd_64)) (hts _ (List.mem_cons_of_mem _ wd_720)) dd_Pn_checkNumber ⟨Nat.le_of_ble_eq_true rfl, Nat.le_of_ble_eq_true rfl⟩, (hts _ (List.mem_cons_of_mem _ wd_722)), (hts _ (List.mem_cons_of_mem _ wd_27))⟩ (kpV hK hP hD hN hZ hS 0 0 rfl rfl) rfl rfl hl.1 rfl (lv_room (Nat.le_of_ble_eq_true rfl)) d_Pn_point_2 ⟨Nat.le_of_ble_eq_true rfl, Nat.le_of_ble_eq_true rfl⟩) hP hD hS hA (fun w H locs hw hP hD hS => ?_)
  obtain rfl := hw
  refine lv_iload_n hx hb d_Pn_point_5 rfl (lv_at hl 2 rfl) ?_
  refine lv_if_lt (tgt := 14) hx hb d_Pn_point_6 (by decide) (fun c_3 => ?_) (fun c_3 => ?_)
  · rw [if_pos c_3] at hf
    exact wt_Pn_point_14 C0 htr hno hlk     q_1 H locs ls hP hD hS (lv_sub hl [] rfl) hf
  · rw [if_neg c_3] at hf
    refine lv_iload_n hx hb d_Pn_point_9 rfl (lv_at hl 2 rfl) ?_
    refine lv_iconst (v := 1) hx hb d_Pn_point_10 (by decide) ?_
    refine lv_icmp_le (tgt := 24) hx hb d_Pn_point_11 (by decide) (fun c_4 => ?_) (fun c_4 => ?_)
    · rw [if_pos c_4] at hf
      cases hf
    · rw [if_neg c_4] at hf
      exact wt_Pn_point_14 C0 htr hno hlk     q_1 H locs ls hP hD hS (lv_sub hl [] rfl) hf
def t_Pn_point (x1 : Int32) (x2 : Int32) (S : St) : Option (Nat × St) := t_Pn_point_0  x1 x2 S
theorem ct_Pn_point (l : Launch) (hl0 : l.flags = pinnedFlags ++ [noTraceFlag]) (D : va_G) (cA cP : ClassId) (ob : Nat → Nat) (ad : Nat → Nat → Nat) (x1 : Int32) (x2 : Int32)  (S : St) {res : (Nat × St)} (hf : t_Pn_point x1 x2 S = some res) : CTt l y_Pn_point w_Pn_point rt_Pn_point 1 6 D clC (TY cA cP) [.ref (ob 0), .int x1, .int x2] (cw cA cP ob ad S) (exN res.1) (fun w => w = cw cA cP ob ad res.2) :=
  mk_t (cc := b_Pn_point) (maxL := 3) (own := R_Pn) (ret := (some .int)) hl0 (by decide) rfl rfl (Nat.le_of_ble_eq_true rfl) (fun p e s m below meth c A C0 htr hno hlk ls hl hP hD hS => wt_Pn_point_0 C0 htr hno hlk   x1 x2 S _ _ ls hP hD hS (lv_sub hl [0, 1, 2] rfl) hf)
end
