section
variable {p : Program} {l : Launch} {e : Env} {s : State} {m : MethodId} {args : Array Value} {below : List Frame} {meth : Method} {c : Code} {Q : State → Prop} {D : va_G} {cA cP : ClassId} {ob : Nat → Nat} {ad : Nat → Nat → Nat} {A : Nat → Prop}
def f_Nt_degree_45  (k21 : Int32 → Int32 → Int32 → Int32 → St → Option (Int32 × St)) (x2 : Int32) (x3 : Int32) (x4 : Int32) (x5 : Int32) (S : St) : Option (Int32 × St) :=
  bd (f_Nt_leftOf x3 S) (fun q_1 => (if q_1.1 = x2 then
    some (x4, q_1.2)
    else
    bn (x5 + 1) (fun x5_3 => k21 x2 q_1.1 x4 x5_3 q_1.2)))
set_option maxHeartbeats 4000000 in
set_option maxRecDepth 100000 in
theorem w_Nt_degree_45 (C0 : CX p s m args c b_Nt_degree 6 R_Nt w_Nt_degree D clC cA cP A) {res : (Int32 × St)} (hret : RTi p l e rm_Nt_degree s m args below meth c Q D clC A b_Nt_degree 0 0 (fun r w => r = res.1 ∧ w = cw cA cP ob ad res.2))   (k21 : Int32 → Int32 → Int32 → Int32 → St → Option (Int32 × St)) (hk21 : ∀ (x2 : Int32) (x3 : Int32) (x4 : Int32) (x5 : Int32) (S : St) (H : Heap) (locs : List Loc) (ls : Array Slot), va_P D clC (cw cA cP ob ad S) H → va_D A (cw cA cP ob ad S) → va_S A s.heap H locs → lv_has ls 6 [(0, .ref (ob 3)), (2, .int x2), (3, .int x3), (4, .int x4), (5, .int x5)] → k21 x2 x3 x4 x5 S = some res → W p l e rm_Nt_degree s m args below meth c H locs 0 0 Q (F0 m 21 ls [])) : ∀ (x2 : Int32) (x3 : Int32) (x4 : Int32) (x5 : Int32) (S : St) (H : Heap) (locs : List Loc) (ls : Array Slot), va_P D clC (cw cA cP ob ad S) H → va_D A (cw cA cP ob ad S) → va_S A s.heap H locs → lv_has ls 6 [(0, .ref (ob 3)), (2, .int x2), (3, .int x3), (4, .int x4), (5, .int x5)] → f_Nt_degree_45  k21 x2 x3 x4 x5 S = some res → W p l e rm_Nt_degree s m args below meth c H locs 0 0 Q (F0 m 45 ls []) := by
  obtain ⟨hx, hb, hml, hown, hts, hK, hA, hN, hZ⟩ := id C0
  intro x2 x3 x4 x5 S H locs ls hP hD hS hl hf
  rw [f_Nt_degree_45] at hf
  refine lv_aload_n hx hb d_Nt_degree_45 rfl (lv_at hl 0 rfl) ?_
  refine lv_iload_n hx hb d_Nt_degree_46 rfl (lv_at hl 2 rfl) ?_
  obtain ⟨q_1, hq_1, hf⟩ := bd_some hf
  refine kc_i (va_runV (As := [.int x3]) (rest := []) ⟨hx, hb, hml, hown, hts⟩ (c_Nt_leftOf l D cA cP ob ad x3  S hq_1 H.size) ⟨callB_of 1 hts (gd_Nt_leftOf) rfl rfl rfl (hts _ (List.mem_cons_of_mem _ wd_69)) (hts _ (List.mem_cons_of_mem _ wd_384)) dd_Nt_leftOf ⟨Nat.le_of_ble_eq_true rfl, Nat.le_of_ble_eq_true rfl⟩, (hts _ (List.mem_cons_of_mem _ wd_386)), (hts _ (List.mem_cons_of_mem _ wd_9))⟩ (kpV hK hP hD hN hZ hS 3 3 rfl rfl) rfl rfl hl.1 rfl (lv_room (Nat.le_of_ble_eq_true rfl)) d_Nt_degree_47 ⟨Nat.le_of_ble_eq_true rfl, Nat.le_of_ble_eq_true rfl⟩) hP hD hS hA (fun r w H locs hw hP hD hS => ?_)
  obtain ⟨rfl, rfl⟩ := hw
  refine lv_istore_n (lv' := [(3, .int q_1.1), (0, .ref (ob 3)), (2, .int x2), (4, .int x4), (5, .int x5)]) hx hb d_Nt_degree_50 rfl hl (by decide) rfl (fun ls hl => ?_)
  refine lv_iload_n hx hb d_Nt_degree_51 rfl (lv_at hl 0 rfl) ?_
  refine lv_iload_n hx hb d_Nt_degree_52 rfl (lv_at hl 2 rfl) ?_
  refine lv_icmp_ne (tgt := 59) hx hb d_Nt_degree_53 (by decide) (fun c_2 => ?_) (fun c_2 => ?_)
  · rw [if_neg c_2] at hf
    obtain ⟨x5_3, ex5_3, hf⟩ := bn_some hf
    refine lv_iinc (v := x5_3) (lv' := [(5, .int x5_3), (3, .int q_1.1), (0, .ref (ob 3)), (2, .int x2), (4, .int x4)]) hx hb d_Nt_degree_59 hl (k := 4) rfl (by rw [ex5_3]; rfl) (by decide) rfl (fun ls hl => ?_)
    refine lv_goto (tgt := 21) hx hb d_Nt_degree_62 (by decide) ?_
    exact hk21 x2 q_1.1 x4 x5_3 q_1.2 H locs ls hP hD hS (lv_sub hl [2, 3, 1, 4, 0] rfl) hf
  · rw [if_pos c_2] at hf
    refine lv_goto (tgt := 65) hx hb d_Nt_degree_56 (by decide) ?_
    refine lv_iload hx hb d_Nt_degree_65 (lv_at hl 3 rfl) ?_
    cases hf
    exact hret _ _ _ _ _ _ ⟨rfl, rfl⟩ hP hD hS d_Nt_degree_67
def f_Nt_degree_21   : Nat → Int32 → Int32 → Int32 → Int32 → St → Option (Int32 × St)
  | 0 => fun _ _ _ _ _ => none
  | n + 1 => fun x2 x3 x4 x5 S => (if (gi S 4) < x5 then
      some (x4, S)
      else
      bd (f_Nt_endOf x3 S) (fun q_2 => (if q_2.1 = (gi q_2.2 4) then
        f_Nt_degree_45  (f_Nt_degree_21  n) x2 x3 x4 x5 q_2.2
        else
        bn (x4 + 1) (fun x4_4 => f_Nt_degree_45  (f_Nt_degree_21  n) x2 x3 x4_4 x5 q_2.2))))
set_option maxHeartbeats 4000000 in
set_option maxRecDepth 100000 in
theorem w_Nt_degree_21 (C0 : CX p s m args c b_Nt_degree 6 R_Nt w_Nt_degree D clC cA cP A) {res : (Int32 × St)} (hret : RTi p l e rm_Nt_degree s m args below meth c Q D clC A b_Nt_degree 0 0 (fun r w => r = res.1 ∧ w = cw cA cP ob ad res.2))    : ∀ (n : Nat) (x2 : Int32) (x3 : Int32) (x4 : Int32) (x5 : Int32) (S : St) (H : Heap) (locs : List Loc) (ls : Array Slot), va_P D clC (cw cA cP ob ad S) H → va_D A (cw cA cP ob ad S) → va_S A s.heap H locs → lv_has ls 6 [(0, .ref (ob 3)), (2, .int x2), (3, .int x3), (4, .int x4), (5, .int x5)] → f_Nt_degree_21   n x2 x3 x4 x5 S = some res → W p l e rm_Nt_degree s m args below meth c H locs 0 0 Q (F0 m 21 ls []) := by
  obtain ⟨hx, hb, hml, hown, hts, hK, hA, hN, hZ⟩ := id C0
  intro n
  induction n with
  | zero =>
    intro x2 x3 x4 x5 S H locs ls hP hD hS hl hf
    cases hf
  | succ n ih =>
    intro x2 x3 x4 x5 S H locs ls hP hD hS hl hf
    rw [f_Nt_degree_21] at hf
    try dsimp only at hf
    refine lv_iload hx hb d_Nt_degree_21 (lv_at hl 4 rfl) ?_
    refine lv_aload_n hx hb d_Nt_degree_23 rfl (lv_at hl 0 rfl) ?_
    refine va_get (D := D) (ci := 3) (v := .int (gi S 4)) (C := R_Nt) (T := F_Nt) (N := 13) hx hb hts (fun w h => List.mem_cons_of_mem _ (in_Nt w h)) hown hK hP 3 rfl rfl 1 (by decide) (hts _ (List.mem_cons_of_mem _ wd_159)) (fun _ h9 => h9) rfl d_Nt_degree_24 ?_
    refine lv_icmp_gt (tgt := 65) hx hb d_Nt_degree_27 (by decide) (fun c_1 => ?_) (fun c_1 => ?_)
    · rw [if_pos c_1] at hf
      refine lv_iload hx hb d_Nt_degree_65 (lv_at hl 3 rfl) ?_
      cases hf
      exact hret _ _ _ _ _ _ ⟨rfl, rfl⟩ hP hD hS d_Nt_degree_67
    · rw [if_neg c_1] at hf
      refine lv_aload_n hx hb d_Nt_degree_30 rfl (lv_at hl 0 rfl) ?_
      refine lv_iload_n hx hb d_Nt_degree_31 rfl (lv_at hl 2 rfl) ?_
      obtain ⟨q_2, hq_2, hf⟩ := bd_some hf
      refine kc_i (va_runV (As := [.int x3]) (rest := []) ⟨hx, hb, hml, hown, hts⟩ (c_Nt_endOf l D cA cP ob ad x3  S hq_2 H.size) ⟨callB_of 1 hts (gd_Nt_endOf) rfl rfl rfl (hts _ (List.mem_cons_of_mem _ wd_69)) (hts _ (List.mem_cons_of_mem _ wd_377)) dd_Nt_endOf ⟨Nat.le_of_ble_eq_true rfl, Nat.le_of_ble_eq_true rfl⟩, (hts _ (List.mem_cons_of_mem _ wd_378)), (hts _ (List.mem_cons_of_mem _ wd_379))⟩ (kpV hK hP hD hN hZ hS 3 3 rfl rfl) rfl rfl hl.1 rfl (lv_room (Nat.le_of_ble_eq_true rfl)) d_Nt_degree_32 ⟨Nat.le_of_ble_eq_true rfl, Nat.le_of_ble_eq_true rfl⟩) hP hD hS hA (fun r w H locs hw hP hD hS => ?_)
      obtain ⟨rfl, rfl⟩ := hw
      refine lv_aload_n hx hb d_Nt_degree_35 rfl (lv_at hl 0 rfl) ?_
      refine va_get (D := D) (ci := 3) (v := .int (gi q_2.2 4)) (C := R_Nt) (T := F_Nt) (N := 13) hx hb hts (fun w h => List.mem_cons_of_mem _ (in_Nt w h)) hown hK hP 3 rfl rfl 1 (by decide) (hts _ (List.mem_cons_of_mem _ wd_159)) (fun _ h9 => h9) rfl d_Nt_degree_36 ?_
      refine lv_icmp_eq (tgt := 45) hx hb d_Nt_degree_39 (by decide) (fun c_3 => ?_) (fun c_3 => ?_)
      · rw [if_pos c_3] at hf
        exact w_Nt_degree_45 C0 hret   (f_Nt_degree_21  n) ih x2 x3 x4 x5 q_2.2 H locs ls hP hD hS (lv_sub hl [0, 1, 2, 3, 4] rfl) hf
      · rw [if_neg c_3] at hf
        obtain ⟨x4_4, ex4_4, hf⟩ := bn_some hf
        refine lv_iinc (v := x4_4) (lv' := [(4, .int x4_4), (0, .ref (ob 3)), (2, .int x2), (3, .int x3), (5, .int x5)]) hx hb d_Nt_degree_42 hl (k := 3) rfl (by rw [ex4_4]; rfl) (by decide) rfl (fun ls hl => ?_)
        exact w_Nt_degree_45 C0 hret   (f_Nt_degree_21  n) ih x2 x3 x4_4 x5 q_2.2 H locs ls hP hD hS (lv_sub hl [1, 2, 3, 0, 4] rfl) hf
def f_Nt_degree_0   (x1 : Int32) (S : St) : Option (Int32 × St) :=
  bd (f_Nt_placeOf x1 S) (fun q_1 => bd (f_Rw_get 10 q_1.1 q_1.2) (fun q_2 => f_Nt_degree_21   FU q_2.1 q_2.1 0 0 q_2.2))
set_option maxHeartbeats 4000000 in
set_option maxRecDepth 100000 in
theorem w_Nt_degree_0 (C0 : CX p s m args c b_Nt_degree 6 R_Nt w_Nt_degree D clC cA cP A) {res : (Int32 × St)} (hret : RTi p l e rm_Nt_degree s m args below meth c Q D clC A b_Nt_degree 0 0 (fun r w => r = res.1 ∧ w = cw cA cP ob ad res.2))    : ∀ (x1 : Int32) (S : St) (H : Heap) (locs : List Loc) (ls : Array Slot), va_P D clC (cw cA cP ob ad S) H → va_D A (cw cA cP ob ad S) → va_S A s.heap H locs → lv_has ls 6 [(0, .ref (ob 3)), (1, .int x1)] → f_Nt_degree_0   x1 S = some res → W p l e rm_Nt_degree s m args below meth c H locs 0 0 Q (F0 m 0 ls []) := by
  obtain ⟨hx, hb, hml, hown, hts, hK, hA, hN, hZ⟩ := id C0
  intro x1 S H locs ls hP hD hS hl hf
  rw [f_Nt_degree_0] at hf
  refine lv_aload_n hx hb d_Nt_degree_0 rfl (lv_at hl 0 rfl) ?_
  refine va_get (D := D) (ci := 3) (v := .ref (ob 10)) (C := R_Nt) (T := F_Nt) (N := 13) hx hb hts (fun w h => List.mem_cons_of_mem _ (in_Nt w h)) hown hK hP 3 rfl rfl 4 (by decide) (hts _ (List.mem_cons_of_mem _ wd_162)) (fun _ h9 => h9) rfl d_Nt_degree_1 ?_
  refine lv_aload_n hx hb d_Nt_degree_4 rfl (lv_at hl 0 rfl) ?_
  refine lv_iload_n hx hb d_Nt_degree_5 rfl (lv_at hl 1 rfl) ?_
  obtain ⟨q_1, hq_1, hf⟩ := bd_some hf
  refine kc_i (va_runV (As := [.int x1]) (rest := [.ref (ob 10)]) ⟨hx, hb, hml, hown, hts⟩ (c_Nt_placeOf l D cA cP ob ad x1  S hq_1 H.size) ⟨callB_of 1 hts (gd_Nt_placeOf) rfl rfl rfl (hts _ (List.mem_cons_of_mem _ wd_69)) (hts _ (List.mem_cons_of_mem _ wd_372)) dd_Nt_placeOf ⟨Nat.le_of_ble_eq_true rfl, Nat.le_of_ble_eq_true rfl⟩, (hts _ (List.mem_cons_of_mem _ wd_374)), (hts _ (List.mem_cons_of_mem _ wd_8))⟩ (kpV hK hP hD hN hZ hS 3 3 rfl rfl) rfl rfl hl.1 rfl (lv_room (Nat.le_of_ble_eq_true rfl)) d_Nt_degree_6 ⟨Nat.le_of_ble_eq_true rfl, Nat.le_of_ble_eq_true rfl⟩) hP hD hS hA (fun r w H locs hw hP hD hS => ?_)
  obtain ⟨rfl, rfl⟩ := hw
  obtain ⟨q_2, hq_2, hf⟩ := bd_some hf
  refine kc_i (va_runV (As := [.int q_1.1]) (rest := []) ⟨hx, hb, hml, hown, hts⟩ (c_Rw_get l D cA cP ob ad 10 q_1.1 (by decide) q_1.2 hq_2 H.size) ⟨callB_of 1 hts (gd_Rw_get) rfl rfl rfl (hts _ (List.mem_cons_of_mem _ wd_67)) (hts _ (List.mem_cons_of_mem _ wd_376)) dd_Rw_get ⟨Nat.le_of_ble_eq_true rfl, Nat.le_of_ble_eq_true rfl⟩, (hts _ (List.mem_cons_of_mem _ wd_340)), (hts _ (List.mem_cons_of_mem _ wd_341))⟩ (kpV hK hP hD hN hZ hS 6 10 rfl rfl) rfl rfl hl.1 rfl (lv_room (Nat.le_of_ble_eq_true rfl)) d_Nt_degree_9 ⟨Nat.le_of_ble_eq_true rfl, Nat.le_of_ble_eq_true rfl⟩) hP hD hS hA (fun r w H locs hw hP hD hS => ?_)
  obtain ⟨rfl, rfl⟩ := hw
  refine lv_istore_n (lv' := [(2, .int q_2.1), (0, .ref (ob 3)), (1, .int x1)]) hx hb d_Nt_degree_12 rfl hl (by decide) rfl (fun ls hl => ?_)
  refine lv_iload_n hx hb d_Nt_degree_13 rfl (lv_at hl 0 rfl) ?_
  refine lv_istore_n (lv' := [(3, .int q_2.1), (2, .int q_2.1), (0, .ref (ob 3)), (1, .int x1)]) hx hb d_Nt_degree_14 rfl hl (by decide) rfl (fun ls hl => ?_)
  refine lv_iconst (v := 0) hx hb d_Nt_degree_15 (by decide) ?_
  refine lv_istore (lv' := [(4, .int 0), (3, .int q_2.1), (2, .int q_2.1), (0, .ref (ob 3)), (1, .int x1)]) hx hb d_Nt_degree_16 hl (by decide) rfl (fun ls hl => ?_)
  refine lv_iconst (v := 0) hx hb d_Nt_degree_18 (by decide) ?_
  refine lv_istore (lv' := [(5, .int 0), (4, .int 0), (3, .int q_2.1), (2, .int q_2.1), (0, .ref (ob 3)), (1, .int x1)]) hx hb d_Nt_degree_19 hl (by decide) rfl (fun ls hl => ?_)
  exact w_Nt_degree_21 C0 hret    FU q_2.1 q_2.1 0 0 q_2.2 H locs ls hP hD hS (lv_sub hl [4, 3, 2, 1, 0] rfl) hf
def f_Nt_degree (x1 : Int32) (S : St) : Option (Int32 × St) := f_Nt_degree_0  x1 S
theorem c_Nt_degree (l : Launch) (D : va_G) (cA cP : ClassId) (ob : Nat → Nat) (ad : Nat → Nat → Nat) (x1 : Int32)  (S : St) {res : (Int32 × St)} (hf : f_Nt_degree x1 S = some res) : CTi l y_Nt_degree w_Nt_degree rm_Nt_degree 0 0 D clC (TY cA cP) [.ref (ob 3), .int x1] (cw cA cP ob ad S) (fun r w => r = res.1 ∧ w = cw cA cP ob ad res.2) :=
  mk_i (cc := b_Nt_degree) (maxL := 6) (own := R_Nt) (by decide) rfl rfl (Nat.le_of_ble_eq_true rfl) (fun p e s m below meth c A Q C0 hret ls hl hP hD hS => w_Nt_degree_0 C0 hret   x1 S _ _ ls hP hD hS (lv_sub hl [0, 1] rfl) hf)
def f_Pt_isBelow_36    (S : St) : Option (Int32 × St) :=
  some (1, S)
set_option maxHeartbeats 4000000 in
set_option maxRecDepth 100000 in
theorem w_Pt_isBelow_36 (C0 : CX p s m args c b_Pt_isBelow 4 R_Pt w_Pt_isBelow D clC cA cP A) {res : (Int32 × St)} (hret : RTz p l e rm_Pt_isBelow s m args below meth c Q D clC A b_Pt_isBelow 0 0 (fun r w => r = res.1 ∧ w = cw cA cP ob ad res.2))    : ∀  (S : St) (H : Heap) (locs : List Loc) (ls : Array Slot), va_P D clC (cw cA cP ob ad S) H → va_D A (cw cA cP ob ad S) → va_S A s.heap H locs → lv_has ls 4 [] → f_Pt_isBelow_36    S = some res → W p l e rm_Pt_isBelow s m args below meth c H locs 0 0 Q (F0 m 36 ls []) := by
  obtain ⟨hx, hb, hml, hown, hts, hK, hA, hN, hZ⟩ := id C0
  intro  S H locs ls hP hD hS hl hf
  rw [f_Pt_isBelow_36] at hf
  refine lv_iconst (v := 1) hx hb d_Pt_isBelow_36 (by decide) ?_
  refine lv_goto (tgt := 41) hx hb d_Pt_isBelow_37 (by decide) ?_
  cases hf
  exact hret _ _ _ _ _ _ ⟨rfl, rfl⟩ rfl hP hD hS d_Pt_isBelow_41
def f_Pt_isBelow_0   (x1 : Int32) (x2 : Int32) (x3 : Int32) (S : St) : Option (Int32 × St) :=
  bd (f_Rw_get 6 x1 S) (fun q_1 => (if q_1.1 < x2 then
    f_Pt_isBelow_36    q_1.2
    else
    bd (f_Rw_get 6 x1 q_1.2) (fun q_3 => (if q_3.1 = x2 then
      bd (f_Rw_get 7 x1 q_3.2) (fun q_5 => (if x3 ≤ q_5.1 then
        some (0, q_5.2)
        else
        f_Pt_isBelow_36    q_5.2))
      else
      some (0, q_3.2)))))
set_option maxHeartbeats 4000000 in
set_option maxRecDepth 100000 in
theorem w_Pt_isBelow_0 (C0 : CX p s m args c b_Pt_isBelow 4 R_Pt w_Pt_isBelow D clC cA cP A) {res : (Int32 × St)} (hret : RTz p l e rm_Pt_isBelow s m args below meth c Q D clC A b_Pt_isBelow 0 0 (fun r w => r = res.1 ∧ w = cw cA cP ob ad res.2))    : ∀ (x1 : Int32) (x2 : Int32) (x3 : Int32) (S : St) (H : Heap) (locs : List Loc) (ls : Array Slot), va_P D clC (cw cA cP ob ad S) H → va_D A (cw cA cP ob ad S) → va_S A s.heap H locs → lv_has ls 4 [(0, .ref (ob 1)), (1, .int x1), (2, .int x2), (3, .int x3)] → f_Pt_isBelow_0   x1 x2 x3 S = some res → W p l e rm_Pt_isBelow s m args below meth c H locs 0 0 Q (F0 m 0 ls []) := by
  obtain ⟨hx, hb, hml, hown, hts, hK, hA, hN, hZ⟩ := id C0
  intro x1 x2 x3 S H locs ls hP hD hS hl hf
  rw [f_Pt_isBelow_0] at hf
  refine lv_aload_n hx hb d_Pt_isBelow_0 rfl (lv_at hl 0 rfl) ?_
  refine va_get (D := D) (ci := 1) (v := .ref (ob 6)) (C := R_Pt) (T := F_Pt) (N := 5) hx hb hts (fun w h => List.mem_cons_of_mem _ (in_Pt w h)) hown hK hP 1 rfl rfl 2 (by decide) (hts _ (List.mem_cons_of_mem _ wd_136)) (fun _ h9 => h9) rfl d_Pt_isBelow_1 ?_
  refine lv_iload_n hx hb d_Pt_isBelow_4 rfl (lv_at hl 1 rfl) ?_
  obtain ⟨q_1, hq_1, hf⟩ := bd_some hf
  refine kc_i (va_runV (As := [.int x1]) (rest := []) ⟨hx, hb, hml, hown, hts⟩ (c_Rw_get l D cA cP ob ad 6 x1 (by decide) S hq_1 H.size) ⟨callB_of 1 hts (gd_Rw_get) rfl rfl rfl (hts _ (List.mem_cons_of_mem _ wd_67)) (hts _ (List.mem_cons_of_mem _ wd_339)) dd_Rw_get ⟨Nat.le_of_ble_eq_true rfl, Nat.le_of_ble_eq_true rfl⟩, (hts _ (List.mem_cons_of_mem _ wd_340)), (hts _ (List.mem_cons_of_mem _ wd_341))⟩ (kpV hK hP hD hN hZ hS 6 6 rfl rfl) rfl rfl hl.1 rfl (lv_room (Nat.le_of_ble_eq_true rfl)) d_Pt_isBelow_5 ⟨Nat.le_of_ble_eq_true rfl, Nat.le_of_ble_eq_true rfl⟩) hP hD hS hA (fun r w H locs hw hP hD hS => ?_)
  obtain ⟨rfl, rfl⟩ := hw
  refine lv_iload_n hx hb d_Pt_isBelow_8 rfl (lv_at hl 2 rfl) ?_
  refine lv_icmp_lt (tgt := 36) hx hb d_Pt_isBelow_9 (by decide) (fun c_2 => ?_) (fun c_2 => ?_)
  · rw [if_pos c_2] at hf
    exact w_Pt_isBelow_36 C0 hret     q_1.2 H locs ls hP hD hS (lv_sub hl [] rfl) hf
  · rw [if_neg c_2] at hf
    refine lv_aload_n hx hb d_Pt_isBelow_12 rfl (lv_at hl 0 rfl) ?_
    refine va_get (D := D) (ci := 1) (v := .ref (ob 6)) (C := R_Pt) (T := F_Pt) (N := 5) hx hb hts (fun w h => List.mem_cons_of_mem _ (in_Pt w h)) hown hK hP 1 rfl rfl 2 (by decide) (hts _ (List.mem_cons_of_mem _ wd_136)) (fun _ h9 => h9) rfl d_Pt_isBelow_13 ?_
    refine lv_iload_n hx hb d_Pt_isBelow_16 rfl (lv_at hl 1 rfl) ?_
    obtain ⟨q_3, hq_3, hf⟩ := bd_some hf
    refine kc_i (va_runV (As := [.int x1]) (rest := []) ⟨hx, hb, hml, hown, hts⟩ (c_Rw_get l D cA cP ob ad 6 x1 (by decide) q_1.2 hq_3 H.size) ⟨callB_of 1 hts (gd_Rw_get) rfl rfl rfl (hts _ (List.mem_cons_of_mem _ wd_67)) (hts _ (List.mem_cons_of_mem _ wd_339)) dd_Rw_get ⟨Nat.le_of_ble_eq_true rfl, Nat.le_of_ble_eq_true rfl⟩, (hts _ (List.mem_cons_of_mem _ wd_340)), (hts _ (List.mem_cons_of_mem _ wd_341))⟩ (kpV hK hP hD hN hZ hS 6 6 rfl rfl) rfl rfl hl.1 rfl (lv_room (Nat.le_of_ble_eq_true rfl)) d_Pt_isBelow_17 ⟨Nat.le_of_ble_eq_true rfl, Nat.le_of_ble_eq_true rfl⟩) hP hD hS hA (fun r w H locs hw hP hD hS => ?_)
    obtain ⟨rfl, rfl⟩ := hw
    refine lv_iload_n hx hb d_Pt_isBelow_20 rfl (lv_at hl 2 rfl) ?_
    refine lv_icmp_ne (tgt := 40) hx hb d_Pt_isBelow_21 (by decide) (fun c_4 => ?_) (fun c_4 => ?_)
    · rw [if_neg c_4] at hf
      refine lv_iconst (v := 0) hx hb d_Pt_isBelow_40 (by decide) ?_
      cases hf
      exact hret _ _ _ _ _ _ ⟨rfl, rfl⟩ rfl hP hD hS d_Pt_isBelow_41
    · rw [if_pos c_4] at hf
      refine lv_aload_n hx hb d_Pt_isBelow_24 rfl (lv_at hl 0 rfl) ?_
      refine va_get (D := D) (ci := 1) (v := .ref (ob 7)) (C := R_Pt) (T := F_Pt) (N := 5) hx hb hts (fun w h => List.mem_cons_of_mem _ (in_Pt w h)) hown hK hP 1 rfl rfl 3 (by decide) (hts _ (List.mem_cons_of_mem _ wd_137)) (fun _ h9 => h9) rfl d_Pt_isBelow_25 ?_
      refine lv_iload_n hx hb d_Pt_isBelow_28 rfl (lv_at hl 1 rfl) ?_
      obtain ⟨q_5, hq_5, hf⟩ := bd_some hf
      refine kc_i (va_runV (As := [.int x1]) (rest := []) ⟨hx, hb, hml, hown, hts⟩ (c_Rw_get l D cA cP ob ad 7 x1 (by decide) q_3.2 hq_5 H.size) ⟨callB_of 1 hts (gd_Rw_get) rfl rfl rfl (hts _ (List.mem_cons_of_mem _ wd_67)) (hts _ (List.mem_cons_of_mem _ wd_339)) dd_Rw_get ⟨Nat.le_of_ble_eq_true rfl, Nat.le_of_ble_eq_true rfl⟩, (hts _ (List.mem_cons_of_mem _ wd_340)), (hts _ (List.mem_cons_of_mem _ wd_341))⟩ (kpV hK hP hD hN hZ hS 6 7 rfl rfl) rfl rfl hl.1 rfl (lv_room (Nat.le_of_ble_eq_true rfl)) d_Pt_isBelow_29 ⟨Nat.le_of_ble_eq_true rfl, Nat.le_of_ble_eq_true rfl⟩) hP hD hS hA (fun r w H locs hw hP hD hS => ?_)
      obtain ⟨rfl, rfl⟩ := hw
      refine lv_iload_n hx hb d_Pt_isBelow_32 rfl (lv_at hl 3 rfl) ?_
      refine lv_icmp_ge (tgt := 40) hx hb d_Pt_isBelow_33 (by decide) (fun c_6 => ?_) (fun c_6 => ?_)
      · rw [if_pos c_6] at hf
        refine lv_iconst (v := 0) hx hb d_Pt_isBelow_40 (by decide) ?_
        cases hf
        exact hret _ _ _ _ _ _ ⟨rfl, rfl⟩ rfl hP hD hS d_Pt_isBelow_41
      · rw [if_neg c_6] at hf
        exact w_Pt_isBelow_36 C0 hret     q_5.2 H locs ls hP hD hS (lv_sub hl [] rfl) hf
def f_Pt_isBelow (x1 : Int32) (x2 : Int32) (x3 : Int32) (S : St) : Option (Int32 × St) := f_Pt_isBelow_0  x1 x2 x3 S
theorem c_Pt_isBelow (l : Launch) (D : va_G) (cA cP : ClassId) (ob : Nat → Nat) (ad : Nat → Nat → Nat) (x1 : Int32) (x2 : Int32) (x3 : Int32)  (S : St) {res : (Int32 × St)} (hf : f_Pt_isBelow x1 x2 x3 S = some res) : CTi l y_Pt_isBelow w_Pt_isBelow rm_Pt_isBelow 0 0 D clC (TY cA cP) [.ref (ob 1), .int x1, .int x2, .int x3] (cw cA cP ob ad S) (fun r w => r = res.1 ∧ w = cw cA cP ob ad res.2) :=
  mk_z (cc := b_Pt_isBelow) (maxL := 4) (own := R_Pt) (by decide) rfl rfl (Nat.le_of_ble_eq_true rfl) (fun p e s m below meth c A Q C0 hret ls hl hP hD hS => w_Pt_isBelow_0 C0 hret   x1 x2 x3 S _ _ ls hP hD hS (lv_sub hl [0, 1, 2, 3] rfl) hf)
def f_Pt_greatestBelow_43  (k5 : Int32 → Int32 → Int32 → Int32 → St → Option (Int32 × St)) (x1 : Int32) (x2 : Int32) (x3 : Int32) (x4 : Int32) (S : St) : Option (Int32 × St) :=
  bn (x4 + 1) (fun x4_1 => k5 x1 x2 x3 x4_1 S)
set_option maxHeartbeats 4000000 in
set_option maxRecDepth 100000 in
theorem w_Pt_greatestBelow_43 (C0 : CX p s m args c b_Pt_greatestBelow 5 R_Pt w_Pt_greatestBelow D clC cA cP A) {res : (Int32 × St)} (hret : RTi p l e rm_Pt_greatestBelow s m args below meth c Q D clC A b_Pt_greatestBelow 0 0 (fun r w => r = res.1 ∧ w = cw cA cP ob ad res.2))   (k5 : Int32 → Int32 → Int32 → Int32 → St → Option (Int32 × St)) (hk5 : ∀ (x1 : Int32) (x2 : Int32) (x3 : Int32) (x4 : Int32) (S : St) (H : Heap) (locs : List Loc) (ls : Array Slot), va_P D clC (cw cA cP ob ad S) H → va_D A (cw cA cP ob ad S) → va_S A s.heap H locs → lv_has ls 5 [(0, .ref (ob 1)), (1, .int x1), (2, .int x2), (3, .int x3), (4, .int x4)] → k5 x1 x2 x3 x4 S = some res → W p l e rm_Pt_greatestBelow s m args below meth c H locs 0 0 Q (F0 m 5 ls [])) : ∀ (x1 : Int32) (x2 : Int32) (x3 : Int32) (x4 : Int32) (S : St) (H : Heap) (locs : List Loc) (ls : Array Slot), va_P D clC (cw cA cP ob ad S) H → va_D A (cw cA cP ob ad S) → va_S A s.heap H locs → lv_has ls 5 [(0, .ref (ob 1)), (1, .int x1), (2, .int x2), (3, .int x3), (4, .int x4)] → f_Pt_greatestBelow_43  k5 x1 x2 x3 x4 S = some res → W p l e rm_Pt_greatestBelow s m args below meth c H locs 0 0 Q (F0 m 43 ls []) := by
  obtain ⟨hx, hb, hml, hown, hts, hK, hA, hN, hZ⟩ := id C0
  intro x1 x2 x3 x4 S H locs ls hP hD hS hl hf
  rw [f_Pt_greatestBelow_43] at hf
  obtain ⟨x4_1, ex4_1, hf⟩ := bn_some hf
  refine lv_iinc (v := x4_1) (lv' := [(4, .int x4_1), (0, .ref (ob 1)), (1, .int x1), (2, .int x2), (3, .int x3)]) hx hb d_Pt_greatestBelow_43 hl (k := 4) rfl (by rw [ex4_1]; rfl) (by decide) rfl (fun ls hl => ?_)
  refine lv_goto (tgt := 5) hx hb d_Pt_greatestBelow_46 (by decide) ?_
  exact hk5 x1 x2 x3 x4_1 S H locs ls hP hD hS (lv_sub hl [1, 2, 3, 4, 0] rfl) hf
def f_Pt_greatestBelow_40  (k5 : Int32 → Int32 → Int32 → Int32 → St → Option (Int32 × St)) (x1 : Int32) (x2 : Int32) (x4 : Int32) (S : St) : Option (Int32 × St) :=
  f_Pt_greatestBelow_43  k5 x1 x2 x4 x4 S
set_option maxHeartbeats 4000000 in
set_option maxRecDepth 100000 in
theorem w_Pt_greatestBelow_40 (C0 : CX p s m args c b_Pt_greatestBelow 5 R_Pt w_Pt_greatestBelow D clC cA cP A) {res : (Int32 × St)} (hret : RTi p l e rm_Pt_greatestBelow s m args below meth c Q D clC A b_Pt_greatestBelow 0 0 (fun r w => r = res.1 ∧ w = cw cA cP ob ad res.2))   (k5 : Int32 → Int32 → Int32 → Int32 → St → Option (Int32 × St)) (hk5 : ∀ (x1 : Int32) (x2 : Int32) (x3 : Int32) (x4 : Int32) (S : St) (H : Heap) (locs : List Loc) (ls : Array Slot), va_P D clC (cw cA cP ob ad S) H → va_D A (cw cA cP ob ad S) → va_S A s.heap H locs → lv_has ls 5 [(0, .ref (ob 1)), (1, .int x1), (2, .int x2), (3, .int x3), (4, .int x4)] → k5 x1 x2 x3 x4 S = some res → W p l e rm_Pt_greatestBelow s m args below meth c H locs 0 0 Q (F0 m 5 ls [])) : ∀ (x1 : Int32) (x2 : Int32) (x4 : Int32) (S : St) (H : Heap) (locs : List Loc) (ls : Array Slot), va_P D clC (cw cA cP ob ad S) H → va_D A (cw cA cP ob ad S) → va_S A s.heap H locs → lv_has ls 5 [(0, .ref (ob 1)), (1, .int x1), (2, .int x2), (4, .int x4)] → f_Pt_greatestBelow_40  k5 x1 x2 x4 S = some res → W p l e rm_Pt_greatestBelow s m args below meth c H locs 0 0 Q (F0 m 40 ls []) := by
  obtain ⟨hx, hb, hml, hown, hts, hK, hA, hN, hZ⟩ := id C0
  intro x1 x2 x4 S H locs ls hP hD hS hl hf
  rw [f_Pt_greatestBelow_40] at hf
  refine lv_iload hx hb d_Pt_greatestBelow_40 (lv_at hl 3 rfl) ?_
  refine lv_istore_n (lv' := [(3, .int x4), (0, .ref (ob 1)), (1, .int x1), (2, .int x2), (4, .int x4)]) hx hb d_Pt_greatestBelow_42 rfl hl (by decide) rfl (fun ls hl => ?_)
  exact w_Pt_greatestBelow_43 C0 hret   k5 hk5 x1 x2 x4 x4 S H locs ls hP hD hS (lv_sub hl [1, 2, 3, 0, 4] rfl) hf
def f_Pt_greatestBelow_5   : Nat → Int32 → Int32 → Int32 → Int32 → St → Option (Int32 × St)
  | 0 => fun _ _ _ _ _ => none
  | n + 1 => fun x1 x2 x3 x4 S => (if (gi S 3) ≤ x4 then
      some (x3, S)
      else
      bd (f_Pt_isBelow x4 x1 x2 S) (fun q_2 => (if q_2.1 = 0 then
        f_Pt_greatestBelow_43  (f_Pt_greatestBelow_5  n) x1 x2 x3 x4 q_2.2
        else
        (if x3 = (-1) then
          f_Pt_greatestBelow_40  (f_Pt_greatestBelow_5  n) x1 x2 x4 q_2.2
          else
          bd (f_Pt_isLess x3 x4 q_2.2) (fun q_5 => (if q_5.1 = 0 then
            f_Pt_greatestBelow_43  (f_Pt_greatestBelow_5  n) x1 x2 x3 x4 q_5.2
            else
            f_Pt_greatestBelow_40  (f_Pt_greatestBelow_5  n) x1 x2 x4 q_5.2))))))
set_option maxHeartbeats 4000000 in
set_option maxRecDepth 100000 in
theorem w_Pt_greatestBelow_5 (C0 : CX p s m args c b_Pt_greatestBelow 5 R_Pt w_Pt_greatestBelow D clC cA cP A) {res : (Int32 × St)} (hret : RTi p l e rm_Pt_greatestBelow s m args below meth c Q D clC A b_Pt_greatestBelow 0 0 (fun r w => r = res.1 ∧ w = cw cA cP ob ad res.2))    : ∀ (n : Nat) (x1 : Int32) (x2 : Int32) (x3 : Int32) (x4 : Int32) (S : St) (H : Heap) (locs : List Loc) (ls : Array Slot), va_P D clC (cw cA cP ob ad S) H → va_D A (cw cA cP ob ad S) → va_S A s.heap H locs → lv_has ls 5 [(0, .ref (ob 1)), (1, .int x1), (2, .int x2), (3, .int x3), (4, .int x4)] → f_Pt_greatestBelow_5   n x1 x2 x3 x4 S = some res → W p l e rm_Pt_greatestBelow s m args below meth c H locs 0 0 Q (F0 m 5 ls []) := by
  obtain ⟨hx, hb, hml, hown, hts, hK, hA, hN, hZ⟩ := id C0
  intro n
  induction n with
  | zero =>
    intro x1 x2 x3 x4 S H locs ls hP hD hS hl hf
    cases hf
  | succ n ih =>
    intro x1 x2 x3 x4 S H locs ls hP hD hS hl hf
    rw [f_Pt_greatestBelow_5] at hf
    try dsimp only at hf
    refine lv_iload hx hb d_Pt_greatestBelow_5 (lv_at hl 4 rfl) ?_
    refine lv_aload_n hx hb d_Pt_greatestBelow_7 rfl (lv_at hl 0 rfl) ?_
    refine va_get (D := D) (ci := 1) (v := .int (gi S 3)) (C := R_Pt) (T := F_Pt) (N := 5) hx hb hts (fun w h => List.mem_cons_of_mem _ (in_Pt w h)) hown hK hP 1 rfl rfl 1 (by decide) (hts _ (List.mem_cons_of_mem _ wd_132)) (fun _ h9 => h9) rfl d_Pt_greatestBelow_8 ?_
    refine lv_icmp_ge (tgt := 49) hx hb d_Pt_greatestBelow_11 (by decide) (fun c_1 => ?_) (fun c_1 => ?_)
    · rw [if_pos c_1] at hf
      refine lv_iload_n hx hb d_Pt_greatestBelow_49 rfl (lv_at hl 3 rfl) ?_
      cases hf
      exact hret _ _ _ _ _ _ ⟨rfl, rfl⟩ hP hD hS d_Pt_greatestBelow_50
    · rw [if_neg c_1] at hf
      refine lv_aload_n hx hb d_Pt_greatestBelow_14 rfl (lv_at hl 0 rfl) ?_
      refine lv_iload hx hb d_Pt_greatestBelow_15 (lv_at hl 4 rfl) ?_
      refine lv_iload_n hx hb d_Pt_greatestBelow_17 rfl (lv_at hl 1 rfl) ?_
      refine lv_iload_n hx hb d_Pt_greatestBelow_18 rfl (lv_at hl 2 rfl) ?_
      obtain ⟨q_2, hq_2, hf⟩ := bd_some hf
      refine kc_i (va_runV (As := [.int x4, .int x1, .int x2]) (rest := []) ⟨hx, hb, hml, hown, hts⟩ (c_Pt_isBelow l D cA cP ob ad x4 x1 x2  S hq_2 H.size) ⟨callB_of 3 hts (gd_Pt_isBelow) rfl rfl rfl (hts _ (List.mem_cons_of_mem _ wd_65)) (hts _ (List.mem_cons_of_mem _ wd_352)) dd_Pt_isBelow ⟨Nat.le_of_ble_eq_true rfl, Nat.le_of_ble_eq_true rfl⟩, (hts _ (List.mem_cons_of_mem _ wd_354)), (hts _ (List.mem_cons_of_mem _ wd_5))⟩ (kpV hK hP hD hN hZ hS 1 1 rfl rfl) rfl rfl hl.1 rfl (lv_room (Nat.le_of_ble_eq_true rfl)) d_Pt_greatestBelow_19 ⟨Nat.le_of_ble_eq_true rfl, Nat.le_of_ble_eq_true rfl⟩) hP hD hS hA (fun r w H locs hw hP hD hS => ?_)
      obtain ⟨rfl, rfl⟩ := hw
      refine lv_if_eq (tgt := 43) hx hb d_Pt_greatestBelow_22 (by decide) (fun c_3 => ?_) (fun c_3 => ?_)
      · rw [if_pos c_3] at hf
        exact w_Pt_greatestBelow_43 C0 hret   (f_Pt_greatestBelow_5  n) ih x1 x2 x3 x4 q_2.2 H locs ls hP hD hS (lv_sub hl [0, 1, 2, 3, 4] rfl) hf
      · rw [if_neg c_3] at hf
        refine lv_iload_n hx hb d_Pt_greatestBelow_25 rfl (lv_at hl 3 rfl) ?_
        refine lv_iconst (v := (-1)) hx hb d_Pt_greatestBelow_26 (by decide) ?_
        refine lv_icmp_eq (tgt := 40) hx hb d_Pt_greatestBelow_27 (by decide) (fun c_4 => ?_) (fun c_4 => ?_)
        · rw [if_pos c_4] at hf
          exact w_Pt_greatestBelow_40 C0 hret   (f_Pt_greatestBelow_5  n) ih x1 x2 x4 q_2.2 H locs ls hP hD hS (lv_sub hl [0, 1, 2, 4] rfl) hf
        · rw [if_neg c_4] at hf
          refine lv_aload_n hx hb d_Pt_greatestBelow_30 rfl (lv_at hl 0 rfl) ?_
          refine lv_iload_n hx hb d_Pt_greatestBelow_31 rfl (lv_at hl 3 rfl) ?_
          refine lv_iload hx hb d_Pt_greatestBelow_32 (lv_at hl 4 rfl) ?_
          obtain ⟨q_5, hq_5, hf⟩ := bd_some hf
          refine kc_i (va_runV (As := [.int x3, .int x4]) (rest := []) ⟨hx, hb, hml, hown, hts⟩ (c_Pt_isLess l D cA cP ob ad x3 x4  q_2.2 hq_5 H.size) ⟨callB_of 2 hts (gd_Pt_isLess) rfl rfl rfl (hts _ (List.mem_cons_of_mem _ wd_65)) (hts _ (List.mem_cons_of_mem _ wd_343)) dd_Pt_isLess ⟨Nat.le_of_ble_eq_true rfl, Nat.le_of_ble_eq_true rfl⟩, (hts _ (List.mem_cons_of_mem _ wd_344)), (hts _ (List.mem_cons_of_mem _ wd_345))⟩ (kpV hK hP hD hN hZ hS 1 1 rfl rfl) rfl rfl hl.1 rfl (lv_room (Nat.le_of_ble_eq_true rfl)) d_Pt_greatestBelow_34 ⟨Nat.le_of_ble_eq_true rfl, Nat.le_of_ble_eq_true rfl⟩) hP hD hS hA (fun r w H locs hw hP hD hS => ?_)
          obtain ⟨rfl, rfl⟩ := hw
          refine lv_if_eq (tgt := 43) hx hb d_Pt_greatestBelow_37 (by decide) (fun c_6 => ?_) (fun c_6 => ?_)
          · rw [if_pos c_6] at hf
            exact w_Pt_greatestBelow_43 C0 hret   (f_Pt_greatestBelow_5  n) ih x1 x2 x3 x4 q_5.2 H locs ls hP hD hS (lv_sub hl [0, 1, 2, 3, 4] rfl) hf
          · rw [if_neg c_6] at hf
            exact w_Pt_greatestBelow_40 C0 hret   (f_Pt_greatestBelow_5  n) ih x1 x2 x4 q_5.2 H locs ls hP hD hS (lv_sub hl [0, 1, 2, 4] rfl) hf
def f_Pt_greatestBelow_0   (x1 : Int32) (x2 : Int32) (S : St) : Option (Int32 × St) :=
  f_Pt_greatestBelow_5   FU x1 x2 (-1) 0 S
set_option maxHeartbeats 4000000 in
set_option maxRecDepth 100000 in
theorem w_Pt_greatestBelow_0 (C0 : CX p s m args c b_Pt_greatestBelow 5 R_Pt w_Pt_greatestBelow D clC cA cP A) {res : (Int32 × St)} (hret : RTi p l e rm_Pt_greatestBelow s m args below meth c Q D clC A b_Pt_greatestBelow 0 0 (fun r w => r = res.1 ∧ w = cw cA cP ob ad res.2))    : ∀ (x1 : Int32) (x2 : Int32) (S : St) (H : Heap) (locs : List Loc) (ls : Array Slot), va_P D clC (cw cA cP ob ad S) H → va_D A (cw cA cP ob ad S) → va_S A s.heap H locs → lv_has ls 5 [(0, .ref (ob 1)), (1, .int x1), (2, .int x2)] → f_Pt_greatestBelow_0   x1 x2 S = some res → W p l e rm_Pt_greatestBelow s m args below meth c H locs 0 0 Q (F0 m 0 ls []) := by
  obtain ⟨hx, hb, hml, hown, hts, hK, hA, hN, hZ⟩ := id C0
  intro x1 x2 S H locs ls hP hD hS hl hf
  rw [f_Pt_greatestBelow_0] at hf
  refine lv_iconst (v := (-1)) hx hb d_Pt_greatestBelow_0 (by decide) ?_
  refine lv_istore_n (lv' := [(3, .int (-1)), (0, .ref (ob 1)), (1, .int x1), (2, .int x2)]) hx hb d_Pt_greatestBelow_1 rfl hl (by decide) rfl (fun ls hl => ?_)
  refine lv_iconst (v := 0) hx hb d_Pt_greatestBelow_2 (by decide) ?_
  refine lv_istore (lv' := [(4, .int 0), (3, .int (-1)), (0, .ref (ob 1)), (1, .int x1), (2, .int x2)]) hx hb d_Pt_greatestBelow_3 hl (by decide) rfl (fun ls hl => ?_)
  exact w_Pt_greatestBelow_5 C0 hret    FU x1 x2 (-1) 0 S H locs ls hP hD hS (lv_sub hl [2, 3, 4, 1, 0] rfl) hf
def f_Pt_greatestBelow (x1 : Int32) (x2 : Int32) (S : St) : Option (Int32 × St) := f_Pt_greatestBelow_0  x1 x2 S
theorem c_Pt_greatestBelow (l : Launch) (D : va_G) (cA cP : ClassId) (ob : Nat → Nat) (ad : Nat → Nat → Nat) (x1 : Int32) (x2 : Int32)  (S : St) {res : (Int32 × St)} (hf : f_Pt_greatestBelow x1 x2 S = some res) : CTi l y_Pt_greatestBelow w_Pt_greatestBelow rm_Pt_greatestBelow 0 0 D clC (TY cA cP) [.ref (ob 1), .int x1, .int x2] (cw cA cP ob ad S) (fun r w => r = res.1 ∧ w = cw cA cP ob ad res.2) :=
  mk_i (cc := b_Pt_greatestBelow) (maxL := 5) (own := R_Pt) (by decide) rfl rfl (Nat.le_of_ble_eq_true rfl) (fun p e s m below meth c A Q C0 hret ls hl hP hD hS => w_Pt_greatestBelow_0 C0 hret   x1 x2 S _ _ ls hP hD hS (lv_sub hl [0, 1, 2] rfl) hf)
def f_Pt_isAbove_36    (S : St) : Option (Int32 × St) :=
  some (1, S)
set_option maxHeartbeats 4000000 in
set_option maxRecDepth 100000 in
theorem w_Pt_isAbove_36 (C0 : CX p s m args c b_Pt_isAbove 4 R_Pt w_Pt_isAbove D clC cA cP A) {res : (Int32 × St)} (hret : RTz p l e rm_Pt_isAbove s m args below meth c Q D clC A b_Pt_isAbove 0 0 (fun r w => r = res.1 ∧ w = cw cA cP ob ad res.2))    : ∀  (S : St) (H : Heap) (locs : List Loc) (ls : Array Slot), va_P D clC (cw cA cP ob ad S) H → va_D A (cw cA cP ob ad S) → va_S A s.heap H locs → lv_has ls 4 [] → f_Pt_isAbove_36    S = some res → W p l e rm_Pt_isAbove s m args below meth c H locs 0 0 Q (F0 m 36 ls []) := by
  obtain ⟨hx, hb, hml, hown, hts, hK, hA, hN, hZ⟩ := id C0
  intro  S H locs ls hP hD hS hl hf
  rw [f_Pt_isAbove_36] at hf
  refine lv_iconst (v := 1) hx hb d_Pt_isAbove_36 (by decide) ?_
  refine lv_goto (tgt := 41) hx hb d_Pt_isAbove_37 (by decide) ?_
  cases hf
  exact hret _ _ _ _ _ _ ⟨rfl, rfl⟩ rfl hP hD hS d_Pt_isAbove_41
def f_Pt_isAbove_0   (x1 : Int32) (x2 : Int32) (x3 : Int32) (S : St) : Option (Int32 × St) :=
  bd (f_Rw_get 6 x1 S) (fun q_1 => (if x2 < q_1.1 then
    f_Pt_isAbove_36    q_1.2
    else
    bd (f_Rw_get 6 x1 q_1.2) (fun q_3 => (if q_3.1 = x2 then
      bd (f_Rw_get 7 x1 q_3.2) (fun q_5 => (if q_5.1 ≤ x3 then
        some (0, q_5.2)
        else
        f_Pt_isAbove_36    q_5.2))
      else
      some (0, q_3.2)))))
set_option maxHeartbeats 4000000 in
set_option maxRecDepth 100000 in
theorem w_Pt_isAbove_0 (C0 : CX p s m args c b_Pt_isAbove 4 R_Pt w_Pt_isAbove D clC cA cP A) {res : (Int32 × St)} (hret : RTz p l e rm_Pt_isAbove s m args below meth c Q D clC A b_Pt_isAbove 0 0 (fun r w => r = res.1 ∧ w = cw cA cP ob ad res.2))    : ∀ (x1 : Int32) (x2 : Int32) (x3 : Int32) (S : St) (H : Heap) (locs : List Loc) (ls : Array Slot), va_P D clC (cw cA cP ob ad S) H → va_D A (cw cA cP ob ad S) → va_S A s.heap H locs → lv_has ls 4 [(0, .ref (ob 1)), (1, .int x1), (2, .int x2), (3, .int x3)] → f_Pt_isAbove_0   x1 x2 x3 S = some res → W p l e rm_Pt_isAbove s m args below meth c H locs 0 0 Q (F0 m 0 ls []) := by
  obtain ⟨hx, hb, hml, hown, hts, hK, hA, hN, hZ⟩ := id C0
  intro x1 x2 x3 S H locs ls hP hD hS hl hf
  rw [f_Pt_isAbove_0] at hf
  refine lv_aload_n hx hb d_Pt_isAbove_0 rfl (lv_at hl 0 rfl) ?_
  refine va_get (D := D) (ci := 1) (v := .ref (ob 6)) (C := R_Pt) (T := F_Pt) (N := 5) hx hb hts (fun w h => List.mem_cons_of_mem _ (in_Pt w h)) hown hK hP 1 rfl rfl 2 (by decide) (hts _ (List.mem_cons_of_mem _ wd_136)) (fun _ h9 => h9) rfl d_Pt_isAbove_1 ?_
  refine lv_iload_n hx hb d_Pt_isAbove_4 rfl (lv_at hl 1 rfl) ?_
  obtain ⟨q_1, hq_1, hf⟩ := bd_some hf
  refine kc_i (va_runV (As := [.int x1]) (rest := []) ⟨hx, hb, hml, hown, hts⟩ (c_Rw_get l D cA cP ob ad 6 x1 (by decide) S hq_1 H.size) ⟨callB_of 1 hts (gd_Rw_get) rfl rfl rfl (hts _ (List.mem_cons_of_mem _ wd_67)) (hts _ (List.mem_cons_of_mem _ wd_339)) dd_Rw_get ⟨Nat.le_of_ble_eq_true rfl, Nat.le_of_ble_eq_true rfl⟩, (hts _ (List.mem_cons_of_mem _ wd_340)), (hts _ (List.mem_cons_of_mem _ wd_341))⟩ (kpV hK hP hD hN hZ hS 6 6 rfl rfl) rfl rfl hl.1 rfl (lv_room (Nat.le_of_ble_eq_true rfl)) d_Pt_isAbove_5 ⟨Nat.le_of_ble_eq_true rfl, Nat.le_of_ble_eq_true rfl⟩) hP hD hS hA (fun r w H locs hw hP hD hS => ?_)
  obtain ⟨rfl, rfl⟩ := hw
  refine lv_iload_n hx hb d_Pt_isAbove_8 rfl (lv_at hl 2 rfl) ?_
  refine lv_icmp_gt (tgt := 36) hx hb d_Pt_isAbove_9 (by decide) (fun c_2 => ?_) (fun c_2 => ?_)
  · rw [if_pos c_2] at hf
    exact w_Pt_isAbove_36 C0 hret     q_1.2 H locs ls hP hD hS (lv_sub hl [] rfl) hf
  · rw [if_neg c_2] at hf
    refine lv_aload_n hx hb d_Pt_isAbove_12 rfl (lv_at hl 0 rfl) ?_
    refine va_get (D := D) (ci := 1) (v := .ref (ob 6)) (C := R_Pt) (T := F_Pt) (N := 5) hx hb hts (fun w h => List.mem_cons_of_mem _ (in_Pt w h)) hown hK hP 1 rfl rfl 2 (by decide) (hts _ (List.mem_cons_of_mem _ wd_136)) (fun _ h9 => h9) rfl d_Pt_isAbove_13 ?_
    refine lv_iload_n hx hb d_Pt_isAbove_16 rfl (lv_at hl 1 rfl) ?_
    obtain ⟨q_3, hq_3, hf⟩ := bd_some hf
    refine kc_i (va_runV (As := [.int x1]) (rest := []) ⟨hx, hb, hml, hown, hts⟩ (c_Rw_get l D cA cP ob ad 6 x1 (by decide) q_1.2 hq_3 H.size) ⟨callB_of 1 hts (gd_Rw_get) rfl rfl rfl (hts _ (List.mem_cons_of_mem _ wd_67)) (hts _ (List.mem_cons_of_mem _ wd_339)) dd_Rw_get ⟨Nat.le_of_ble_eq_true rfl, Nat.le_of_ble_eq_true rfl⟩, (hts _ (List.mem_cons_of_mem _ wd_340)), (hts _ (List.mem_cons_of_mem _ wd_341))⟩ (kpV hK hP hD hN hZ hS 6 6 rfl rfl) rfl rfl hl.1 rfl (lv_room (Nat.le_of_ble_eq_true rfl)) d_Pt_isAbove_17 ⟨Nat.le_of_ble_eq_true rfl, Nat.le_of_ble_eq_true rfl⟩) hP hD hS hA (fun r w H locs hw hP hD hS => ?_)
    obtain ⟨rfl, rfl⟩ := hw
    refine lv_iload_n hx hb d_Pt_isAbove_20 rfl (lv_at hl 2 rfl) ?_
    refine lv_icmp_ne (tgt := 40) hx hb d_Pt_isAbove_21 (by decide) (fun c_4 => ?_) (fun c_4 => ?_)
    · rw [if_neg c_4] at hf
      refine lv_iconst (v := 0) hx hb d_Pt_isAbove_40 (by decide) ?_
      cases hf
      exact hret _ _ _ _ _ _ ⟨rfl, rfl⟩ rfl hP hD hS d_Pt_isAbove_41
    · rw [if_pos c_4] at hf
      refine lv_aload_n hx hb d_Pt_isAbove_24 rfl (lv_at hl 0 rfl) ?_
      refine va_get (D := D) (ci := 1) (v := .ref (ob 7)) (C := R_Pt) (T := F_Pt) (N := 5) hx hb hts (fun w h => List.mem_cons_of_mem _ (in_Pt w h)) hown hK hP 1 rfl rfl 3 (by decide) (hts _ (List.mem_cons_of_mem _ wd_137)) (fun _ h9 => h9) rfl d_Pt_isAbove_25 ?_
      refine lv_iload_n hx hb d_Pt_isAbove_28 rfl (lv_at hl 1 rfl) ?_
      obtain ⟨q_5, hq_5, hf⟩ := bd_some hf
      refine kc_i (va_runV (As := [.int x1]) (rest := []) ⟨hx, hb, hml, hown, hts⟩ (c_Rw_get l D cA cP ob ad 7 x1 (by decide) q_3.2 hq_5 H.size) ⟨callB_of 1 hts (gd_Rw_get) rfl rfl rfl (hts _ (List.mem_cons_of_mem _ wd_67)) (hts _ (List.mem_cons_of_mem _ wd_339)) dd_Rw_get ⟨Nat.le_of_ble_eq_true rfl, Nat.le_of_ble_eq_true rfl⟩, (hts _ (List.mem_cons_of_mem _ wd_340)), (hts _ (List.mem_cons_of_mem _ wd_341))⟩ (kpV hK hP hD hN hZ hS 6 7 rfl rfl) rfl rfl hl.1 rfl (lv_room (Nat.le_of_ble_eq_true rfl)) d_Pt_isAbove_29 ⟨Nat.le_of_ble_eq_true rfl, Nat.le_of_ble_eq_true rfl⟩) hP hD hS hA (fun r w H locs hw hP hD hS => ?_)
      obtain ⟨rfl, rfl⟩ := hw
      refine lv_iload_n hx hb d_Pt_isAbove_32 rfl (lv_at hl 3 rfl) ?_
      refine lv_icmp_le (tgt := 40) hx hb d_Pt_isAbove_33 (by decide) (fun c_6 => ?_) (fun c_6 => ?_)
      · rw [if_pos c_6] at hf
        refine lv_iconst (v := 0) hx hb d_Pt_isAbove_40 (by decide) ?_
        cases hf
        exact hret _ _ _ _ _ _ ⟨rfl, rfl⟩ rfl hP hD hS d_Pt_isAbove_41
      · rw [if_neg c_6] at hf
        exact w_Pt_isAbove_36 C0 hret     q_5.2 H locs ls hP hD hS (lv_sub hl [] rfl) hf
def f_Pt_isAbove (x1 : Int32) (x2 : Int32) (x3 : Int32) (S : St) : Option (Int32 × St) := f_Pt_isAbove_0  x1 x2 x3 S
theorem c_Pt_isAbove (l : Launch) (D : va_G) (cA cP : ClassId) (ob : Nat → Nat) (ad : Nat → Nat → Nat) (x1 : Int32) (x2 : Int32) (x3 : Int32)  (S : St) {res : (Int32 × St)} (hf : f_Pt_isAbove x1 x2 x3 S = some res) : CTi l y_Pt_isAbove w_Pt_isAbove rm_Pt_isAbove 0 0 D clC (TY cA cP) [.ref (ob 1), .int x1, .int x2, .int x3] (cw cA cP ob ad S) (fun r w => r = res.1 ∧ w = cw cA cP ob ad res.2) :=
  mk_z (cc := b_Pt_isAbove) (maxL := 4) (own := R_Pt) (by decide) rfl rfl (Nat.le_of_ble_eq_true rfl) (fun p e s m below meth c A Q C0 hret ls hl hP hD hS => w_Pt_isAbove_0 C0 hret   x1 x2 x3 S _ _ ls hP hD hS (lv_sub hl [0, 1, 2, 3] rfl) hf)
def f_Pt_leastAbove_43  (k5 : Int32 → Int32 → Int32 → Int32 → St → Option (Int32 × St)) (x1 : Int32) (x2 : Int32) (x3 : Int32) (x4 : Int32) (S : St) : Option (Int32 × St) :=
  bn (x4 + 1) (fun x4_1 => k5 x1 x2 x3 x4_1 S)
set_option maxHeartbeats 4000000 in
set_option maxRecDepth 100000 in
theorem w_Pt_leastAbove_43 (C0 : CX p s m args c b_Pt_leastAbove 5 R_Pt w_Pt_leastAbove D clC cA cP A) {res : (Int32 × St)} (hret : RTi p l e rm_Pt_leastAbove s m args below meth c Q D clC A b_Pt_leastAbove 0 0 (fun r w => r = res.1 ∧ w = cw cA cP ob ad res.2))   (k5 : Int32 → Int32 → Int32 → Int32 → St → Option (Int32 × St)) (hk5 : ∀ (x1 : Int32) (x2 : Int32) (x3 : Int32) (x4 : Int32) (S : St) (H : Heap) (locs : List Loc) (ls : Array Slot), va_P D clC (cw cA cP ob ad S) H → va_D A (cw cA cP ob ad S) → va_S A s.heap H locs → lv_has ls 5 [(0, .ref (ob 1)), (1, .int x1), (2, .int x2), (3, .int x3), (4, .int x4)] → k5 x1 x2 x3 x4 S = some res → W p l e rm_Pt_leastAbove s m args below meth c H locs 0 0 Q (F0 m 5 ls [])) : ∀ (x1 : Int32) (x2 : Int32) (x3 : Int32) (x4 : Int32) (S : St) (H : Heap) (locs : List Loc) (ls : Array Slot), va_P D clC (cw cA cP ob ad S) H → va_D A (cw cA cP ob ad S) → va_S A s.heap H locs → lv_has ls 5 [(0, .ref (ob 1)), (1, .int x1), (2, .int x2), (3, .int x3), (4, .int x4)] → f_Pt_leastAbove_43  k5 x1 x2 x3 x4 S = some res → W p l e rm_Pt_leastAbove s m args below meth c H locs 0 0 Q (F0 m 43 ls []) := by
  obtain ⟨hx, hb, hml, hown, hts, hK, hA, hN, hZ⟩ := id C0
  intro x1 x2 x3 x4 S H locs ls hP hD hS hl hf
  rw [f_Pt_leastAbove_43] at hf
  obtain ⟨x4_1, ex4_1, hf⟩ := bn_some hf
  refine lv_iinc (v := x4_1) (lv' := [(4, .int x4_1), (0, .ref (ob 1)), (1, .int x1), (2, .int x2), (3, .int x3)]) hx hb d_Pt_leastAbove_43 hl (k := 4) rfl (by rw [ex4_1]; rfl) (by decide) rfl (fun ls hl => ?_)
  refine lv_goto (tgt := 5) hx hb d_Pt_leastAbove_46 (by decide) ?_
  exact hk5 x1 x2 x3 x4_1 S H locs ls hP hD hS (lv_sub hl [1, 2, 3, 4, 0] rfl) hf
def f_Pt_leastAbove_40  (k5 : Int32 → Int32 → Int32 → Int32 → St → Option (Int32 × St)) (x1 : Int32) (x2 : Int32) (x4 : Int32) (S : St) : Option (Int32 × St) :=
  f_Pt_leastAbove_43  k5 x1 x2 x4 x4 S
set_option maxHeartbeats 4000000 in
set_option maxRecDepth 100000 in
theorem w_Pt_leastAbove_40 (C0 : CX p s m args c b_Pt_leastAbove 5 R_Pt w_Pt_leastAbove D clC cA cP A) {res : (Int32 × St)} (hret : RTi p l e rm_Pt_leastAbove s m args below meth c Q D clC A b_Pt_leastAbove 0 0 (fun r w => r = res.1 ∧ w = cw cA cP ob ad res.2))   (k5 : Int32 → Int32 → Int32 → Int32 → St → Option (Int32 × St)) (hk5 : ∀ (x1 : Int32) (x2 : Int32) (x3 : Int32) (x4 : Int32) (S : St) (H : Heap) (locs : List Loc) (ls : Array Slot), va_P D clC (cw cA cP ob ad S) H → va_D A (cw cA cP ob ad S) → va_S A s.heap H locs → lv_has ls 5 [(0, .ref (ob 1)), (1, .int x1), (2, .int x2), (3, .int x3), (4, .int x4)] → k5 x1 x2 x3 x4 S = some res → W p l e rm_Pt_leastAbove s m args below meth c H locs 0 0 Q (F0 m 5 ls [])) : ∀ (x1 : Int32) (x2 : Int32) (x4 : Int32) (S : St) (H : Heap) (locs : List Loc) (ls : Array Slot), va_P D clC (cw cA cP ob ad S) H → va_D A (cw cA cP ob ad S) → va_S A s.heap H locs → lv_has ls 5 [(0, .ref (ob 1)), (1, .int x1), (2, .int x2), (4, .int x4)] → f_Pt_leastAbove_40  k5 x1 x2 x4 S = some res → W p l e rm_Pt_leastAbove s m args below meth c H locs 0 0 Q (F0 m 40 ls []) := by
  obtain ⟨hx, hb, hml, hown, hts, hK, hA, hN, hZ⟩ := id C0
  intro x1 x2 x4 S H locs ls hP hD hS hl hf
  rw [f_Pt_leastAbove_40] at hf
  refine lv_iload hx hb d_Pt_leastAbove_40 (lv_at hl 3 rfl) ?_
  refine lv_istore_n (lv' := [(3, .int x4), (0, .ref (ob 1)), (1, .int x1), (2, .int x2), (4, .int x4)]) hx hb d_Pt_leastAbove_42 rfl hl (by decide) rfl (fun ls hl => ?_)
  exact w_Pt_leastAbove_43 C0 hret   k5 hk5 x1 x2 x4 x4 S H locs ls hP hD hS (lv_sub hl [1, 2, 3, 0, 4] rfl) hf
def f_Pt_leastAbove_5   : Nat → Int32 → Int32 → Int32 → Int32 → St → Option (Int32 × St)
  | 0 => fun _ _ _ _ _ => none
  | n + 1 => fun x1 x2 x3 x4 S => (if (gi S 3) ≤ x4 then
      some (x3, S)
      else
      bd (f_Pt_isAbove x4 x1 x2 S) (fun q_2 => (if q_2.1 = 0 then
        f_Pt_leastAbove_43  (f_Pt_leastAbove_5  n) x1 x2 x3 x4 q_2.2
        else
        (if x3 = (-1) then
          f_Pt_leastAbove_40  (f_Pt_leastAbove_5  n) x1 x2 x4 q_2.2
          else
          bd (f_Pt_isLess x4 x3 q_2.2) (fun q_5 => (if q_5.1 = 0 then
            f_Pt_leastAbove_43  (f_Pt_leastAbove_5  n) x1 x2 x3 x4 q_5.2
            else
            f_Pt_leastAbove_40  (f_Pt_leastAbove_5  n) x1 x2 x4 q_5.2))))))
set_option maxHeartbeats 4000000 in
set_option maxRecDepth 100000 in
theorem w_Pt_leastAbove_5 (C0 : CX p s m args c b_Pt_leastAbove 5 R_Pt w_Pt_leastAbove D clC cA cP A) {res : (Int32 × St)} (hret : RTi p l e rm_Pt_leastAbove s m args below meth c Q D clC A b_Pt_leastAbove 0 0 (fun r w => r = res.1 ∧ w = cw cA cP ob ad res.2))    : ∀ (n : Nat) (x1 : Int32) (x2 : Int32) (x3 : Int32) (x4 : Int32) (S : St) (H : Heap) (locs : List Loc) (ls : Array Slot), va_P D clC (cw cA cP ob ad S) H → va_D A (cw cA cP ob ad S) → va_S A s.heap H locs → lv_has ls 5 [(0, .ref (ob 1)), (1, .int x1), (2, .int x2), (3, .int x3), (4, .int x4)] → f_Pt_leastAbove_5   n x1 x2 x3 x4 S = some res → W p l e rm_Pt_leastAbove s m args below meth c H locs 0 0 Q (F0 m 5 ls []) := by
  obtain ⟨hx, hb, hml, hown, hts, hK, hA, hN, hZ⟩ := id C0
  intro n
  induction n with
  | zero =>
    intro x1 x2 x3 x4 S H locs ls hP hD hS hl hf
    cases hf
  | succ n ih =>
    intro x1 x2 x3 x4 S H locs ls hP hD hS hl hf
    rw [f_Pt_leastAbove_5] at hf
    try dsimp only at hf
    refine lv_iload hx hb d_Pt_leastAbove_5 (lv_at hl 4 rfl) ?_
    refine lv_aload_n hx hb d_Pt_leastAbove_7 rfl (lv_at hl 0 rfl) ?_
    refine va_get (D := D) (ci := 1) (v := .int (gi S 3)) (C := R_Pt) (T := F_Pt) (N := 5) hx hb hts (fun w h => List.mem_cons_of_mem _ (in_Pt w h)) hown hK hP 1 rfl rfl 1 (by decide) (hts _ (List.mem_cons_of_mem _ wd_132)) (fun _ h9 => h9) rfl d_Pt_leastAbove_8 ?_
    refine lv_icmp_ge (tgt := 49) hx hb d_Pt_leastAbove_11 (by decide) (fun c_1 => ?_) (fun c_1 => ?_)
    · rw [if_pos c_1] at hf
      refine lv_iload_n hx hb d_Pt_leastAbove_49 rfl (lv_at hl 3 rfl) ?_
      cases hf
      exact hret _ _ _ _ _ _ ⟨rfl, rfl⟩ hP hD hS d_Pt_leastAbove_50
    · rw [if_neg c_1] at hf
      refine lv_aload_n hx hb d_Pt_leastAbove_14 rfl (lv_at hl 0 rfl) ?_
      refine lv_iload hx hb d_Pt_leastAbove_15 (lv_at hl 4 rfl) ?_
      refine lv_iload_n hx hb d_Pt_leastAbove_17 rfl (lv_at hl 1 rfl) ?_
      refine lv_iload_n hx hb d_Pt_leastAbove_18 rfl (lv_at hl 2 rfl) ?_
      obtain ⟨q_2, hq_2, hf⟩ := bd_some hf
      refine kc_i (va_runV (As := [.int x4, .int x1, .int x2]) (rest := []) ⟨hx, hb, hml, hown, hts⟩ (c_Pt_isAbove l D cA cP ob ad x4 x1 x2  S hq_2 H.size) ⟨callB_of 3 hts (gd_Pt_isAbove) rfl rfl rfl (hts _ (List.mem_cons_of_mem _ wd_65)) (hts _ (List.mem_cons_of_mem _ wd_335)) dd_Pt_isAbove ⟨Nat.le_of_ble_eq_true rfl, Nat.le_of_ble_eq_true rfl⟩, (hts _ (List.mem_cons_of_mem _ wd_337)), (hts _ (List.mem_cons_of_mem _ wd_4))⟩ (kpV hK hP hD hN hZ hS 1 1 rfl rfl) rfl rfl hl.1 rfl (lv_room (Nat.le_of_ble_eq_true rfl)) d_Pt_leastAbove_19 ⟨Nat.le_of_ble_eq_true rfl, Nat.le_of_ble_eq_true rfl⟩) hP hD hS hA (fun r w H locs hw hP hD hS => ?_)
      obtain ⟨rfl, rfl⟩ := hw
      refine lv_if_eq (tgt := 43) hx hb d_Pt_leastAbove_22 (by decide) (fun c_3 => ?_) (fun c_3 => ?_)
      · rw [if_pos c_3] at hf
        exact w_Pt_leastAbove_43 C0 hret   (f_Pt_leastAbove_5  n) ih x1 x2 x3 x4 q_2.2 H locs ls hP hD hS (lv_sub hl [0, 1, 2, 3, 4] rfl) hf
      · rw [if_neg c_3] at hf
        refine lv_iload_n hx hb d_Pt_leastAbove_25 rfl (lv_at hl 3 rfl) ?_
        refine lv_iconst (v := (-1)) hx hb d_Pt_leastAbove_26 (by decide) ?_
        refine lv_icmp_eq (tgt := 40) hx hb d_Pt_leastAbove_27 (by decide) (fun c_4 => ?_) (fun c_4 => ?_)
        · rw [if_pos c_4] at hf
          exact w_Pt_leastAbove_40 C0 hret   (f_Pt_leastAbove_5  n) ih x1 x2 x4 q_2.2 H locs ls hP hD hS (lv_sub hl [0, 1, 2, 4] rfl) hf
        · rw [if_neg c_4] at hf
          refine lv_aload_n hx hb d_Pt_leastAbove_30 rfl (lv_at hl 0 rfl) ?_
          refine lv_iload hx hb d_Pt_leastAbove_31 (lv_at hl 4 rfl) ?_
          refine lv_iload_n hx hb d_Pt_leastAbove_33 rfl (lv_at hl 3 rfl) ?_
          obtain ⟨q_5, hq_5, hf⟩ := bd_some hf
          refine kc_i (va_runV (As := [.int x4, .int x3]) (rest := []) ⟨hx, hb, hml, hown, hts⟩ (c_Pt_isLess l D cA cP ob ad x4 x3  q_2.2 hq_5 H.size) ⟨callB_of 2 hts (gd_Pt_isLess) rfl rfl rfl (hts _ (List.mem_cons_of_mem _ wd_65)) (hts _ (List.mem_cons_of_mem _ wd_343)) dd_Pt_isLess ⟨Nat.le_of_ble_eq_true rfl, Nat.le_of_ble_eq_true rfl⟩, (hts _ (List.mem_cons_of_mem _ wd_344)), (hts _ (List.mem_cons_of_mem _ wd_345))⟩ (kpV hK hP hD hN hZ hS 1 1 rfl rfl) rfl rfl hl.1 rfl (lv_room (Nat.le_of_ble_eq_true rfl)) d_Pt_leastAbove_34 ⟨Nat.le_of_ble_eq_true rfl, Nat.le_of_ble_eq_true rfl⟩) hP hD hS hA (fun r w H locs hw hP hD hS => ?_)
          obtain ⟨rfl, rfl⟩ := hw
          refine lv_if_eq (tgt := 43) hx hb d_Pt_leastAbove_37 (by decide) (fun c_6 => ?_) (fun c_6 => ?_)
          · rw [if_pos c_6] at hf
            exact w_Pt_leastAbove_43 C0 hret   (f_Pt_leastAbove_5  n) ih x1 x2 x3 x4 q_5.2 H locs ls hP hD hS (lv_sub hl [0, 1, 2, 3, 4] rfl) hf
          · rw [if_neg c_6] at hf
            exact w_Pt_leastAbove_40 C0 hret   (f_Pt_leastAbove_5  n) ih x1 x2 x4 q_5.2 H locs ls hP hD hS (lv_sub hl [0, 1, 2, 4] rfl) hf
def f_Pt_leastAbove_0   (x1 : Int32) (x2 : Int32) (S : St) : Option (Int32 × St) :=
  f_Pt_leastAbove_5   FU x1 x2 (-1) 0 S
set_option maxHeartbeats 4000000 in
set_option maxRecDepth 100000 in
theorem w_Pt_leastAbove_0 (C0 : CX p s m args c b_Pt_leastAbove 5 R_Pt w_Pt_leastAbove D clC cA cP A) {res : (Int32 × St)} (hret : RTi p l e rm_Pt_leastAbove s m args below meth c Q D clC A b_Pt_leastAbove 0 0 (fun r w => r = res.1 ∧ w = cw cA cP ob ad res.2))    : ∀ (x1 : Int32) (x2 : Int32) (S : St) (H : Heap) (locs : List Loc) (ls : Array Slot), va_P D clC (cw cA cP ob ad S) H → va_D A (cw cA cP ob ad S) → va_S A s.heap H locs → lv_has ls 5 [(0, .ref (ob 1)), (1, .int x1), (2, .int x2)] → f_Pt_leastAbove_0   x1 x2 S = some res → W p l e rm_Pt_leastAbove s m args below meth c H locs 0 0 Q (F0 m 0 ls []) := by
  obtain ⟨hx, hb, hml, hown, hts, hK, hA, hN, hZ⟩ := id C0
  intro x1 x2 S H locs ls hP hD hS hl hf
  rw [f_Pt_leastAbove_0] at hf
  refine lv_iconst (v := (-1)) hx hb d_Pt_leastAbove_0 (by decide) ?_
  refine lv_istore_n (lv' := [(3, .int (-1)), (0, .ref (ob 1)), (1, .int x1), (2, .int x2)]) hx hb d_Pt_leastAbove_1 rfl hl (by decide) rfl (fun ls hl => ?_)
  refine lv_iconst (v := 0) hx hb d_Pt_leastAbove_2 (by decide) ?_
  refine lv_istore (lv' := [(4, .int 0), (3, .int (-1)), (0, .ref (ob 1)), (1, .int x1), (2, .int x2)]) hx hb d_Pt_leastAbove_3 hl (by decide) rfl (fun ls hl => ?_)
  exact w_Pt_leastAbove_5 C0 hret    FU x1 x2 (-1) 0 S H locs ls hP hD hS (lv_sub hl [2, 3, 4, 1, 0] rfl) hf
def f_Pt_leastAbove (x1 : Int32) (x2 : Int32) (S : St) : Option (Int32 × St) := f_Pt_leastAbove_0  x1 x2 S
theorem c_Pt_leastAbove (l : Launch) (D : va_G) (cA cP : ClassId) (ob : Nat → Nat) (ad : Nat → Nat → Nat) (x1 : Int32) (x2 : Int32)  (S : St) {res : (Int32 × St)} (hf : f_Pt_leastAbove x1 x2 S = some res) : CTi l y_Pt_leastAbove w_Pt_leastAbove rm_Pt_leastAbove 0 0 D clC (TY cA cP) [.ref (ob 1), .int x1, .int x2] (cw cA cP ob ad S) (fun r w => r = res.1 ∧ w = cw cA cP ob ad res.2) :=
  mk_i (cc := b_Pt_leastAbove) (maxL := 5) (own := R_Pt) (by decide) rfl rfl (Nat.le_of_ble_eq_true rfl) (fun p e s m below meth c A Q C0 hret ls hl hP hD hS => w_Pt_leastAbove_0 C0 hret   x1 x2 S _ _ ls hP hD hS (lv_sub hl [0, 1, 2] rfl) hf)
end
