section
variable {p : Program} {l : Launch} {e : Env} {s : State} {m : MethodId} {args : Array Value} {below : List Frame} {meth : Method} {c : Code} {Q : State → Prop} {D : va_G} {cA cP : ClassId} {ob : Nat → Nat} {ad : Nat → Nat → Nat} {A : Nat → Prop}
def f_Nt_holder_41   : Nat → Int32 → Int32 → Int32 → Int32 → St → Option (Int32 × St)
  | 0 => fun _ _ _ _ _ => none
  | n + 1 => fun x2 x3 x4 x5 S => (if (gi S 6) ≤ x5 then
      some (x4, S)
      else
      bd (f_Nt_isOuter x4 S) (fun q_2 => (if q_2.1 = 0 then
        bd (f_Nt_wayOut x4 x2 x3 q_2.2) (fun q_4 => (if q_4.1 = (-1) then
          some (x4, q_4.2)
          else
          bd (f_Rw_get 9 q_4.1 q_4.2) (fun q_6 => bn (x5 + 1) (fun x5_7 => f_Nt_holder_41  n x2 x3 q_6.1 x5_7 q_6.2))))
        else
        some (x4, q_2.2))))
set_option maxHeartbeats 4000000 in
set_option maxRecDepth 100000 in
theorem w_Nt_holder_41 (C0 : CX p s m args c b_Nt_holder 7 R_Nt w_Nt_holder D clC cA cP A) {res : (Int32 × St)} (hret : RTi p l e rm_Nt_holder s m args below meth c Q D clC A b_Nt_holder 0 0 (fun r w => r = res.1 ∧ w = cw cA cP ob ad res.2))    : ∀ (n : Nat) (x2 : Int32) (x3 : Int32) (x4 : Int32) (x5 : Int32) (S : St) (H : Heap) (locs : List Loc) (ls : Array Slot), va_P D clC (cw cA cP ob ad S) H → va_D A (cw cA cP ob ad S) → va_S A s.heap H locs → lv_has ls 7 [(0, .ref (ob 3)), (2, .int x2), (3, .int x3), (4, .int x4), (5, .int x5)] → f_Nt_holder_41   n x2 x3 x4 x5 S = some res → W p l e rm_Nt_holder s m args below meth c H locs 0 0 Q (F0 m 41 ls []) := by
  obtain ⟨hx, hb, hml, hown, hts, hK, hA, hN, hZ⟩ := id C0
  intro n
  induction n with
  | zero =>
    intro x2 x3 x4 x5 S H locs ls hP hD hS hl hf
    cases hf
  | succ n ih =>
    intro x2 x3 x4 x5 S H locs ls hP hD hS hl hf
    rw [f_Nt_holder_41] at hf
    try dsimp only at hf
    refine lv_iload hx hb d_Nt_holder_41 (lv_at hl 4 rfl) ?_
    refine lv_aload_n hx hb d_Nt_holder_43 rfl (lv_at hl 0 rfl) ?_
    refine va_get (D := D) (ci := 3) (v := .int (gi S 6)) (C := R_Nt) (T := F_Nt) (N := 13) hx hb hts (fun w h => List.mem_cons_of_mem _ (in_Nt w h)) hown hK hP 3 rfl rfl 9 (by decide) (hts _ (List.mem_cons_of_mem _ wd_167)) (fun _ h9 => h9) rfl d_Nt_holder_44 ?_
    refine lv_icmp_ge (tgt := 95) hx hb d_Nt_holder_47 (by decide) (fun c_1 => ?_) (fun c_1 => ?_)
    · rw [if_pos c_1] at hf
      refine lv_iload hx hb d_Nt_holder_95 (lv_at hl 3 rfl) ?_
      cases hf
      exact hret _ _ _ _ _ _ ⟨rfl, rfl⟩ hP hD hS d_Nt_holder_97
    · rw [if_neg c_1] at hf
      refine lv_aload_n hx hb d_Nt_holder_50 rfl (lv_at hl 0 rfl) ?_
      refine lv_iload hx hb d_Nt_holder_51 (lv_at hl 3 rfl) ?_
      obtain ⟨q_2, hq_2, hf⟩ := bd_some hf
      refine kc_i (va_runV (As := [.int x4]) (rest := []) ⟨hx, hb, hml, hown, hts⟩ (c_Nt_isOuter l D cA cP ob ad x4  S hq_2 H.size) ⟨callB_of 1 hts (gd_Nt_isOuter) rfl rfl rfl (hts _ (List.mem_cons_of_mem _ wd_69)) (hts _ (List.mem_cons_of_mem _ wd_597)) dd_Nt_isOuter ⟨Nat.le_of_ble_eq_true rfl, Nat.le_of_ble_eq_true rfl⟩, (hts _ (List.mem_cons_of_mem _ wd_598)), (hts _ (List.mem_cons_of_mem _ wd_599))⟩ (kpV hK hP hD hN hZ hS 3 3 rfl rfl) rfl rfl hl.1 rfl (lv_room (Nat.le_of_ble_eq_true rfl)) d_Nt_holder_53 ⟨Nat.le_of_ble_eq_true rfl, Nat.le_of_ble_eq_true rfl⟩) hP hD hS hA (fun r w H locs hw hP hD hS => ?_)
      obtain ⟨rfl, rfl⟩ := hw
      refine lv_if_ne (tgt := 95) hx hb d_Nt_holder_56 (by decide) (fun c_3 => ?_) (fun c_3 => ?_)
      · rw [if_neg c_3] at hf
        refine lv_iload hx hb d_Nt_holder_95 (lv_at hl 3 rfl) ?_
        cases hf
        exact hret _ _ _ _ _ _ ⟨rfl, rfl⟩ hP hD hS d_Nt_holder_97
      · rw [if_pos c_3] at hf
        refine lv_aload_n hx hb d_Nt_holder_59 rfl (lv_at hl 0 rfl) ?_
        refine lv_iload hx hb d_Nt_holder_60 (lv_at hl 3 rfl) ?_
        refine lv_iload_n hx hb d_Nt_holder_62 rfl (lv_at hl 1 rfl) ?_
        refine lv_iload_n hx hb d_Nt_holder_63 rfl (lv_at hl 2 rfl) ?_
        obtain ⟨q_4, hq_4, hf⟩ := bd_some hf
        refine kc_i (va_runV (As := [.int x4, .int x2, .int x3]) (rest := []) ⟨hx, hb, hml, hown, hts⟩ (c_Nt_wayOut l D cA cP ob ad x4 x2 x3  q_2.2 hq_4 H.size) ⟨callB_of 3 hts (gd_Nt_wayOut) rfl rfl rfl (hts _ (List.mem_cons_of_mem _ wd_69)) (hts _ (List.mem_cons_of_mem _ wd_605)) dd_Nt_wayOut ⟨Nat.le_of_ble_eq_true rfl, Nat.le_of_ble_eq_true rfl⟩, (hts _ (List.mem_cons_of_mem _ wd_607)), (hts _ (List.mem_cons_of_mem _ wd_18))⟩ (kpV hK hP hD hN hZ hS 3 3 rfl rfl) rfl rfl hl.1 rfl (lv_room (Nat.le_of_ble_eq_true rfl)) d_Nt_holder_64 ⟨Nat.le_of_ble_eq_true rfl, Nat.le_of_ble_eq_true rfl⟩) hP hD hS hA (fun r w H locs hw hP hD hS => ?_)
        obtain ⟨rfl, rfl⟩ := hw
        refine lv_istore (lv' := [(6, .int q_4.1), (0, .ref (ob 3)), (2, .int x2), (3, .int x3), (4, .int x4), (5, .int x5)]) hx hb d_Nt_holder_67 hl (by decide) rfl (fun ls hl => ?_)
        refine lv_iload hx hb d_Nt_holder_69 (lv_at hl 0 rfl) ?_
        refine lv_iconst (v := (-1)) hx hb d_Nt_holder_71 (by decide) ?_
        refine lv_icmp_ne (tgt := 78) hx hb d_Nt_holder_72 (by decide) (fun c_5 => ?_) (fun c_5 => ?_)
        · rw [if_neg c_5] at hf
          refine lv_aload_n hx hb d_Nt_holder_78 rfl (lv_at hl 1 rfl) ?_
          refine va_get (D := D) (ci := 3) (v := .ref (ob 9)) (C := R_Nt) (T := F_Nt) (N := 13) hx hb hts (fun w h => List.mem_cons_of_mem _ (in_Nt w h)) hown hK hP 3 rfl rfl 3 (by decide) (hts _ (List.mem_cons_of_mem _ wd_161)) (fun _ h9 => h9) rfl d_Nt_holder_79 ?_
          refine lv_iload hx hb d_Nt_holder_82 (lv_at hl 0 rfl) ?_
          obtain ⟨q_6, hq_6, hf⟩ := bd_some hf
          refine kc_i (va_runV (As := [.int q_4.1]) (rest := []) ⟨hx, hb, hml, hown, hts⟩ (c_Rw_get l D cA cP ob ad 9 q_4.1 (by decide) q_4.2 hq_6 H.size) ⟨callB_of 1 hts (gd_Rw_get) rfl rfl rfl (hts _ (List.mem_cons_of_mem _ wd_67)) (hts _ (List.mem_cons_of_mem _ wd_376)) dd_Rw_get ⟨Nat.le_of_ble_eq_true rfl, Nat.le_of_ble_eq_true rfl⟩, (hts _ (List.mem_cons_of_mem _ wd_340)), (hts _ (List.mem_cons_of_mem _ wd_341))⟩ (kpV hK hP hD hN hZ hS 6 9 rfl rfl) rfl rfl hl.1 rfl (lv_room (Nat.le_of_ble_eq_true rfl)) d_Nt_holder_84 ⟨Nat.le_of_ble_eq_true rfl, Nat.le_of_ble_eq_true rfl⟩) hP hD hS hA (fun r w H locs hw hP hD hS => ?_)
          obtain ⟨rfl, rfl⟩ := hw
          refine lv_istore (lv' := [(4, .int q_6.1), (6, .int q_4.1), (0, .ref (ob 3)), (2, .int x2), (3, .int x3), (5, .int x5)]) hx hb d_Nt_holder_87 hl (by decide) rfl (fun ls hl => ?_)
          obtain ⟨x5_7, ex5_7, hf⟩ := bn_some hf
          refine lv_iinc (v := x5_7) (lv' := [(5, .int x5_7), (4, .int q_6.1), (6, .int q_4.1), (0, .ref (ob 3)), (2, .int x2), (3, .int x3)]) hx hb d_Nt_holder_89 hl (k := 5) rfl (by rw [ex5_7]; rfl) (by decide) rfl (fun ls hl => ?_)
          refine lv_goto (tgt := 41) hx hb d_Nt_holder_92 (by decide) ?_
          exact ih x2 x3 q_6.1 x5_7 q_6.2 H locs ls hP hD hS (lv_sub hl [3, 4, 5, 1, 0] rfl) hf
        · rw [if_pos c_5] at hf
          refine lv_iload hx hb d_Nt_holder_75 (lv_at hl 4 rfl) ?_
          cases hf
          exact hret _ _ _ _ _ _ ⟨rfl, rfl⟩ hP hD hS d_Nt_holder_77
def f_Nt_holder_38   (x2 : Int32) (x3 : Int32) (x4 : Int32) (S : St) : Option (Int32 × St) :=
  f_Nt_holder_41   FU x2 x3 x4 0 S
set_option maxHeartbeats 4000000 in
set_option maxRecDepth 100000 in
theorem w_Nt_holder_38 (C0 : CX p s m args c b_Nt_holder 7 R_Nt w_Nt_holder D clC cA cP A) {res : (Int32 × St)} (hret : RTi p l e rm_Nt_holder s m args below meth c Q D clC A b_Nt_holder 0 0 (fun r w => r = res.1 ∧ w = cw cA cP ob ad res.2))    : ∀ (x2 : Int32) (x3 : Int32) (x4 : Int32) (S : St) (H : Heap) (locs : List Loc) (ls : Array Slot), va_P D clC (cw cA cP ob ad S) H → va_D A (cw cA cP ob ad S) → va_S A s.heap H locs → lv_has ls 7 [(0, .ref (ob 3)), (2, .int x2), (3, .int x3), (4, .int x4)] → f_Nt_holder_38   x2 x3 x4 S = some res → W p l e rm_Nt_holder s m args below meth c H locs 0 0 Q (F0 m 38 ls []) := by
  obtain ⟨hx, hb, hml, hown, hts, hK, hA, hN, hZ⟩ := id C0
  intro x2 x3 x4 S H locs ls hP hD hS hl hf
  rw [f_Nt_holder_38] at hf
  refine lv_iconst (v := 0) hx hb d_Nt_holder_38 (by decide) ?_
  refine lv_istore (lv' := [(5, .int 0), (0, .ref (ob 3)), (2, .int x2), (3, .int x3), (4, .int x4)]) hx hb d_Nt_holder_39 hl (by decide) rfl (fun ls hl => ?_)
  exact w_Nt_holder_41 C0 hret    FU x2 x3 x4 0 S H locs ls hP hD hS (lv_sub hl [1, 2, 3, 4, 0] rfl) hf
def f_Nt_holder_0   (x1 : Int32) (x2 : Int32) (x3 : Int32) (S : St) : Option (Int32 × St) :=
  bd (f_Nt_placeOf x1 S) (fun q_1 => bd (f_Rw_get 10 q_1.1 q_1.2) (fun q_2 => bd (f_Nt_isOuter q_2.1 q_2.2) (fun q_3 => (if q_3.1 = 0 then
    f_Nt_holder_38   x2 x3 q_2.1 q_3.2
    else
    bd (f_Nt_baseOf q_2.1 q_3.2) (fun q_5 => bd (f_Rw_get 9 q_5.1 q_5.2) (fun q_6 => f_Nt_holder_38   x2 x3 q_6.1 q_6.2))))))
set_option maxHeartbeats 4000000 in
set_option maxRecDepth 100000 in
theorem w_Nt_holder_0 (C0 : CX p s m args c b_Nt_holder 7 R_Nt w_Nt_holder D clC cA cP A) {res : (Int32 × St)} (hret : RTi p l e rm_Nt_holder s m args below meth c Q D clC A b_Nt_holder 0 0 (fun r w => r = res.1 ∧ w = cw cA cP ob ad res.2))    : ∀ (x1 : Int32) (x2 : Int32) (x3 : Int32) (S : St) (H : Heap) (locs : List Loc) (ls : Array Slot), va_P D clC (cw cA cP ob ad S) H → va_D A (cw cA cP ob ad S) → va_S A s.heap H locs → lv_has ls 7 [(0, .ref (ob 3)), (1, .int x1), (2, .int x2), (3, .int x3)] → f_Nt_holder_0   x1 x2 x3 S = some res → W p l e rm_Nt_holder s m args below meth c H locs 0 0 Q (F0 m 0 ls []) := by
  obtain ⟨hx, hb, hml, hown, hts, hK, hA, hN, hZ⟩ := id C0
  intro x1 x2 x3 S H locs ls hP hD hS hl hf
  rw [f_Nt_holder_0] at hf
  refine lv_aload_n hx hb d_Nt_holder_0 rfl (lv_at hl 0 rfl) ?_
  refine va_get (D := D) (ci := 3) (v := .ref (ob 10)) (C := R_Nt) (T := F_Nt) (N := 13) hx hb hts (fun w h => List.mem_cons_of_mem _ (in_Nt w h)) hown hK hP 3 rfl rfl 4 (by decide) (hts _ (List.mem_cons_of_mem _ wd_162)) (fun _ h9 => h9) rfl d_Nt_holder_1 ?_
  refine lv_aload_n hx hb d_Nt_holder_4 rfl (lv_at hl 0 rfl) ?_
  refine lv_iload_n hx hb d_Nt_holder_5 rfl (lv_at hl 1 rfl) ?_
  obtain ⟨q_1, hq_1, hf⟩ := bd_some hf
  refine kc_i (va_runV (As := [.int x1]) (rest := [.ref (ob 10)]) ⟨hx, hb, hml, hown, hts⟩ (c_Nt_placeOf l D cA cP ob ad x1  S hq_1 H.size) ⟨callB_of 1 hts (gd_Nt_placeOf) rfl rfl rfl (hts _ (List.mem_cons_of_mem _ wd_69)) (hts _ (List.mem_cons_of_mem _ wd_372)) dd_Nt_placeOf ⟨Nat.le_of_ble_eq_true rfl, Nat.le_of_ble_eq_true rfl⟩, (hts _ (List.mem_cons_of_mem _ wd_374)), (hts _ (List.mem_cons_of_mem _ wd_8))⟩ (kpV hK hP hD hN hZ hS 3 3 rfl rfl) rfl rfl hl.1 rfl (lv_room (Nat.le_of_ble_eq_true rfl)) d_Nt_holder_6 ⟨Nat.le_of_ble_eq_true rfl, Nat.le_of_ble_eq_true rfl⟩) hP hD hS hA (fun r w H locs hw hP hD hS => ?_)
  obtain ⟨rfl, rfl⟩ := hw
  obtain ⟨q_2, hq_2, hf⟩ := bd_some hf
  refine kc_i (va_runV (As := [.int q_1.1]) (rest := []) ⟨hx, hb, hml, hown, hts⟩ (c_Rw_get l D cA cP ob ad 10 q_1.1 (by decide) q_1.2 hq_2 H.size) ⟨callB_of 1 hts (gd_Rw_get) rfl rfl rfl (hts _ (List.mem_cons_of_mem _ wd_67)) (hts _ (List.mem_cons_of_mem _ wd_376)) dd_Rw_get ⟨Nat.le_of_ble_eq_true rfl, Nat.le_of_ble_eq_true rfl⟩, (hts _ (List.mem_cons_of_mem _ wd_340)), (hts _ (List.mem_cons_of_mem _ wd_341))⟩ (kpV hK hP hD hN hZ hS 6 10 rfl rfl) rfl rfl hl.1 rfl (lv_room (Nat.le_of_ble_eq_true rfl)) d_Nt_holder_9 ⟨Nat.le_of_ble_eq_true rfl, Nat.le_of_ble_eq_true rfl⟩) hP hD hS hA (fun r w H locs hw hP hD hS => ?_)
  obtain ⟨rfl, rfl⟩ := hw
  refine lv_istore (lv' := [(4, .int q_2.1), (0, .ref (ob 3)), (1, .int x1), (2, .int x2), (3, .int x3)]) hx hb d_Nt_holder_12 hl (by decide) rfl (fun ls hl => ?_)
  refine lv_aload_n hx hb d_Nt_holder_14 rfl (lv_at hl 1 rfl) ?_
  refine lv_iload hx hb d_Nt_holder_15 (lv_at hl 0 rfl) ?_
  obtain ⟨q_3, hq_3, hf⟩ := bd_some hf
  refine kc_i (va_runV (As := [.int q_2.1]) (rest := []) ⟨hx, hb, hml, hown, hts⟩ (c_Nt_isOuter l D cA cP ob ad q_2.1  q_2.2 hq_3 H.size) ⟨callB_of 1 hts (gd_Nt_isOuter) rfl rfl rfl (hts _ (List.mem_cons_of_mem _ wd_69)) (hts _ (List.mem_cons_of_mem _ wd_597)) dd_Nt_isOuter ⟨Nat.le_of_ble_eq_true rfl, Nat.le_of_ble_eq_true rfl⟩, (hts _ (List.mem_cons_of_mem _ wd_598)), (hts _ (List.mem_cons_of_mem _ wd_599))⟩ (kpV hK hP hD hN hZ hS 3 3 rfl rfl) rfl rfl hl.1 rfl (lv_room (Nat.le_of_ble_eq_true rfl)) d_Nt_holder_17 ⟨Nat.le_of_ble_eq_true rfl, Nat.le_of_ble_eq_true rfl⟩) hP hD hS hA (fun r w H locs hw hP hD hS => ?_)
  obtain ⟨rfl, rfl⟩ := hw
  refine lv_if_eq (tgt := 38) hx hb d_Nt_holder_20 (by decide) (fun c_4 => ?_) (fun c_4 => ?_)
  · rw [if_pos c_4] at hf
    exact w_Nt_holder_38 C0 hret    x2 x3 q_2.1 q_3.2 H locs ls hP hD hS (lv_sub hl [1, 3, 4, 0] rfl) hf
  · rw [if_neg c_4] at hf
    refine lv_aload_n hx hb d_Nt_holder_23 rfl (lv_at hl 1 rfl) ?_
    refine va_get (D := D) (ci := 3) (v := .ref (ob 9)) (C := R_Nt) (T := F_Nt) (N := 13) hx hb hts (fun w h => List.mem_cons_of_mem _ (in_Nt w h)) hown hK hP 3 rfl rfl 3 (by decide) (hts _ (List.mem_cons_of_mem _ wd_161)) (fun _ h9 => h9) rfl d_Nt_holder_24 ?_
    refine lv_aload_n hx hb d_Nt_holder_27 rfl (lv_at hl 1 rfl) ?_
    refine lv_iload hx hb d_Nt_holder_28 (lv_at hl 0 rfl) ?_
    obtain ⟨q_5, hq_5, hf⟩ := bd_some hf
    refine kc_i (va_runV (As := [.int q_2.1]) (rest := [.ref (ob 9)]) ⟨hx, hb, hml, hown, hts⟩ (c_Nt_baseOf l D cA cP ob ad q_2.1  q_3.2 hq_5 H.size) ⟨callB_of 1 hts (gd_Nt_baseOf) rfl rfl rfl (hts _ (List.mem_cons_of_mem _ wd_69)) (hts _ (List.mem_cons_of_mem _ wd_601)) dd_Nt_baseOf ⟨Nat.le_of_ble_eq_true rfl, Nat.le_of_ble_eq_true rfl⟩, (hts _ (List.mem_cons_of_mem _ wd_603)), (hts _ (List.mem_cons_of_mem _ wd_17))⟩ (kpV hK hP hD hN hZ hS 3 3 rfl rfl) rfl rfl hl.1 rfl (lv_room (Nat.le_of_ble_eq_true rfl)) d_Nt_holder_30 ⟨Nat.le_of_ble_eq_true rfl, Nat.le_of_ble_eq_true rfl⟩) hP hD hS hA (fun r w H locs hw hP hD hS => ?_)
    obtain ⟨rfl, rfl⟩ := hw
    obtain ⟨q_6, hq_6, hf⟩ := bd_some hf
    refine kc_i (va_runV (As := [.int q_5.1]) (rest := []) ⟨hx, hb, hml, hown, hts⟩ (c_Rw_get l D cA cP ob ad 9 q_5.1 (by decide) q_5.2 hq_6 H.size) ⟨callB_of 1 hts (gd_Rw_get) rfl rfl rfl (hts _ (List.mem_cons_of_mem _ wd_67)) (hts _ (List.mem_cons_of_mem _ wd_376)) dd_Rw_get ⟨Nat.le_of_ble_eq_true rfl, Nat.le_of_ble_eq_true rfl⟩, (hts _ (List.mem_cons_of_mem _ wd_340)), (hts _ (List.mem_cons_of_mem _ wd_341))⟩ (kpV hK hP hD hN hZ hS 6 9 rfl rfl) rfl rfl hl.1 rfl (lv_room (Nat.le_of_ble_eq_true rfl)) d_Nt_holder_33 ⟨Nat.le_of_ble_eq_true rfl, Nat.le_of_ble_eq_true rfl⟩) hP hD hS hA (fun r w H locs hw hP hD hS => ?_)
    obtain ⟨rfl, rfl⟩ := hw
    refine lv_istore (lv' := [(4, .int q_6.1), (0, .ref (ob 3)), (1, .int x1), (2, .int x2), (3, .int x3)]) hx hb d_Nt_holder_36 hl (by decide) rfl (fun ls hl => ?_)
    exact w_Nt_holder_38 C0 hret    x2 x3 q_6.1 q_6.2 H locs ls hP hD hS (lv_sub hl [1, 3, 4, 0] rfl) hf
def f_Nt_holder (x1 : Int32) (x2 : Int32) (x3 : Int32) (S : St) : Option (Int32 × St) := f_Nt_holder_0  x1 x2 x3 S
theorem c_Nt_holder (l : Launch) (D : va_G) (cA cP : ClassId) (ob : Nat → Nat) (ad : Nat → Nat → Nat) (x1 : Int32) (x2 : Int32) (x3 : Int32)  (S : St) {res : (Int32 × St)} (hf : f_Nt_holder x1 x2 x3 S = some res) : CTi l y_Nt_holder w_Nt_holder rm_Nt_holder 0 0 D clC (TY cA cP) [.ref (ob 3), .int x1, .int x2, .int x3] (cw cA cP ob ad S) (fun r w => r = res.1 ∧ w = cw cA cP ob ad res.2) :=
  mk_i (cc := b_Nt_holder) (maxL := 7) (own := R_Nt) (by decide) rfl rfl (Nat.le_of_ble_eq_true rfl) (fun p e s m below meth c A Q C0 hret ls hl hP hD hS => w_Nt_holder_0 C0 hret   x1 x2 x3 S _ _ ls hP hD hS (lv_sub hl [0, 1, 2, 3] rfl) hf)
def f_Nt_takeAway_0   (x1 : Int32) (S : St) : Option St :=
  bd (f_Rw_put 11 x1 (gi S 5) S) (fun q_1 => bd (f_Rw_put 12 (gi q_1 8) x1 q_1) (fun q_2 => bn (seti q_2 8 ((gi q_2 8) + 1)) (fun S_3 => bd (f_Nt_isOuter (3 * x1) S_3) (fun q_4 => (if q_4.1 = 0 then
    some q_4.2
    else
    bn (seti q_4.2 7 ((gi q_4.2 7) - 1)) (fun S_6 => some S_6))))))
set_option maxHeartbeats 4000000 in
set_option maxRecDepth 100000 in
theorem w_Nt_takeAway_0 (C0 : CX p s m args c b_Nt_takeAway 2 R_Nt w_Nt_takeAway D clC cA cP A) {res : St} (hret : RTv p l e rm_Nt_takeAway s m args below meth c Q D clC A b_Nt_takeAway 0 0 (fun w => w = cw cA cP ob ad res))    : ∀ (x1 : Int32) (S : St) (H : Heap) (locs : List Loc) (ls : Array Slot), va_P D clC (cw cA cP ob ad S) H → va_D A (cw cA cP ob ad S) → va_S A s.heap H locs → lv_has ls 2 [(0, .ref (ob 3)), (1, .int x1)] → f_Nt_takeAway_0   x1 S = some res → W p l e rm_Nt_takeAway s m args below meth c H locs 0 0 Q (F0 m 0 ls []) := by
  obtain ⟨hx, hb, hml, hown, hts, hK, hA, hN, hZ⟩ := id C0
  intro x1 S H locs ls hP hD hS hl hf
  rw [f_Nt_takeAway_0] at hf
  refine lv_aload_n hx hb d_Nt_takeAway_0 rfl (lv_at hl 0 rfl) ?_
  refine va_get (D := D) (ci := 3) (v := .ref (ob 11)) (C := R_Nt) (T := F_Nt) (N := 13) hx hb hts (fun w h => List.mem_cons_of_mem _ (in_Nt w h)) hown hK hP 3 rfl rfl 5 (by decide) (hts _ (List.mem_cons_of_mem _ wd_163)) (fun _ h9 => h9) rfl d_Nt_takeAway_1 ?_
  refine lv_iload_n hx hb d_Nt_takeAway_4 rfl (lv_at hl 1 rfl) ?_
  refine lv_aload_n hx hb d_Nt_takeAway_5 rfl (lv_at hl 0 rfl) ?_
  refine va_get (D := D) (ci := 3) (v := .int (gi S 5)) (C := R_Nt) (T := F_Nt) (N := 13) hx hb hts (fun w h => List.mem_cons_of_mem _ (in_Nt w h)) hown hK hP 3 rfl rfl 8 (by decide) (hts _ (List.mem_cons_of_mem _ wd_166)) (fun _ h9 => h9) rfl d_Nt_takeAway_6 ?_
  obtain ⟨q_1, hq_1, hf⟩ := bd_some hf
  refine kc_v (va_runV (As := [.int x1, .int (gi S 5)]) (rest := []) ⟨hx, hb, hml, hown, hts⟩ (c_Rw_put l D cA cP ob ad 11 x1 (gi S 5) (by decide) S hq_1 H.size) ⟨callB_of 2 hts (gd_Rw_put) rfl rfl rfl (hts _ (List.mem_cons_of_mem _ wd_67)) (hts _ (List.mem_cons_of_mem _ wd_582)) dd_Rw_put ⟨Nat.le_of_ble_eq_true rfl, Nat.le_of_ble_eq_true rfl⟩, (hts _ (List.mem_cons_of_mem _ wd_361)), (hts _ (List.mem_cons_of_mem _ wd_362))⟩ (kpV hK hP hD hN hZ hS 6 11 rfl rfl) rfl rfl hl.1 rfl (lv_room (Nat.le_of_ble_eq_true rfl)) d_Nt_takeAway_9 ⟨Nat.le_of_ble_eq_true rfl, Nat.le_of_ble_eq_true rfl⟩) hP hD hS hA (fun w H locs hw hP hD hS => ?_)
  obtain rfl := hw
  refine lv_aload_n hx hb d_Nt_takeAway_12 rfl (lv_at hl 0 rfl) ?_
  refine va_get (D := D) (ci := 3) (v := .ref (ob 12)) (C := R_Nt) (T := F_Nt) (N := 13) hx hb hts (fun w h => List.mem_cons_of_mem _ (in_Nt w h)) hown hK hP 3 rfl rfl 6 (by decide) (hts _ (List.mem_cons_of_mem _ wd_164)) (fun _ h9 => h9) rfl d_Nt_takeAway_13 ?_
  refine lv_aload_n hx hb d_Nt_takeAway_16 rfl (lv_at hl 0 rfl) ?_
  refine va_get (D := D) (ci := 3) (v := .int (gi q_1 8)) (C := R_Nt) (T := F_Nt) (N := 13) hx hb hts (fun w h => List.mem_cons_of_mem _ (in_Nt w h)) hown hK hP 3 rfl rfl 11 (by decide) (hts _ (List.mem_cons_of_mem _ wd_169)) (fun _ h9 => h9) rfl d_Nt_takeAway_17 ?_
  refine lv_iload_n hx hb d_Nt_takeAway_20 rfl (lv_at hl 1 rfl) ?_
  obtain ⟨q_2, hq_2, hf⟩ := bd_some hf
  refine kc_v (va_runV (As := [.int (gi q_1 8), .int x1]) (rest := []) ⟨hx, hb, hml, hown, hts⟩ (c_Rw_put l D cA cP ob ad 12 (gi q_1 8) x1 (by decide) q_1 hq_2 H.size) ⟨callB_of 2 hts (gd_Rw_put) rfl rfl rfl (hts _ (List.mem_cons_of_mem _ wd_67)) (hts _ (List.mem_cons_of_mem _ wd_582)) dd_Rw_put ⟨Nat.le_of_ble_eq_true rfl, Nat.le_of_ble_eq_true rfl⟩, (hts _ (List.mem_cons_of_mem _ wd_361)), (hts _ (List.mem_cons_of_mem _ wd_362))⟩ (kpV hK hP hD hN hZ hS 6 12 rfl rfl) rfl rfl hl.1 rfl (lv_room (Nat.le_of_ble_eq_true rfl)) d_Nt_takeAway_21 ⟨Nat.le_of_ble_eq_true rfl, Nat.le_of_ble_eq_true rfl⟩) hP hD hS hA (fun w H locs hw hP hD hS => ?_)
  obtain rfl := hw
  refine lv_aload_n hx hb d_Nt_takeAway_24 rfl (lv_at hl 0 rfl) ?_
  refine lv_dup hx hb d_Nt_takeAway_25 rfl ?_
  refine va_get (D := D) (ci := 3) (v := .int (gi q_2 8)) (C := R_Nt) (T := F_Nt) (N := 13) hx hb hts (fun w h => List.mem_cons_of_mem _ (in_Nt w h)) hown hK hP 3 rfl rfl 11 (by decide) (hts _ (List.mem_cons_of_mem _ wd_169)) (fun _ h9 => h9) rfl d_Nt_takeAway_26 ?_
  refine lv_iconst (v := 1) hx hb d_Nt_takeAway_29 (by decide) ?_
  refine lv_iadd hx hb d_Nt_takeAway_30 ?_
  obtain ⟨S_3, eS_3, hf⟩ := bn_some hf
  refine va_put (D := D) (ci := 3) (v := .int ((gi q_2 8) + 1)) (ty := .int) (C := R_Nt) (T := F_Nt) (N := 13) hx hb hts (fun w h => List.mem_cons_of_mem _ (in_Nt w h)) t_Nt tk_Nt nk_Nt hown hK hP hD hS 3 rfl rfl 11 (by decide) (hts _ (List.mem_cons_of_mem _ wd_169)) (fun _ h9 => h9) rfl (by decide +kernel) rfl rfl (Nat.le_of_ble_eq_true rfl) d_Nt_takeAway_31 (fun H locs hP hD hS => ?_)
  have hP : va_P D clC (cw cA cP ob ad S_3) H := by rw [eS_3]; exact hP
  have hD : va_D A (cw cA cP ob ad S_3) := by rw [eS_3]; exact hD
  refine lv_aload_n hx hb d_Nt_takeAway_34 rfl (lv_at hl 0 rfl) ?_
  refine lv_iconst (v := 3) hx hb d_Nt_takeAway_35 (by decide) ?_
  refine lv_iload_n hx hb d_Nt_takeAway_36 rfl (lv_at hl 1 rfl) ?_
  refine lv_imul hx hb d_Nt_takeAway_37 ?_
  obtain ⟨q_4, hq_4, hf⟩ := bd_some hf
  refine kc_i (va_runV (As := [.int (3 * x1)]) (rest := []) ⟨hx, hb, hml, hown, hts⟩ (c_Nt_isOuter l D cA cP ob ad (3 * x1)  S_3 hq_4 H.size) ⟨callB_of 1 hts (gd_Nt_isOuter) rfl rfl rfl (hts _ (List.mem_cons_of_mem _ wd_69)) (hts _ (List.mem_cons_of_mem _ wd_597)) dd_Nt_isOuter ⟨Nat.le_of_ble_eq_true rfl, Nat.le_of_ble_eq_true rfl⟩, (hts _ (List.mem_cons_of_mem _ wd_598)), (hts _ (List.mem_cons_of_mem _ wd_599))⟩ (kpV hK hP hD hN hZ hS 3 3 rfl rfl) rfl rfl hl.1 rfl (lv_room (Nat.le_of_ble_eq_true rfl)) d_Nt_takeAway_38 ⟨Nat.le_of_ble_eq_true rfl, Nat.le_of_ble_eq_true rfl⟩) hP hD hS hA (fun r w H locs hw hP hD hS => ?_)
  obtain ⟨rfl, rfl⟩ := hw
  refine lv_if_eq (tgt := 54) hx hb d_Nt_takeAway_41 (by decide) (fun c_5 => ?_) (fun c_5 => ?_)
  · rw [if_pos c_5] at hf
    cases hf
    exact hret _ _ _ _ _ rfl hP hD hS d_Nt_takeAway_54
  · rw [if_neg c_5] at hf
    refine lv_aload_n hx hb d_Nt_takeAway_44 rfl (lv_at hl 0 rfl) ?_
    refine lv_dup hx hb d_Nt_takeAway_45 rfl ?_
    refine va_get (D := D) (ci := 3) (v := .int (gi q_4.2 7)) (C := R_Nt) (T := F_Nt) (N := 13) hx hb hts (fun w h => List.mem_cons_of_mem _ (in_Nt w h)) hown hK hP 3 rfl rfl 10 (by decide) (hts _ (List.mem_cons_of_mem _ wd_168)) (fun _ h9 => h9) rfl d_Nt_takeAway_46 ?_
    refine lv_iconst (v := 1) hx hb d_Nt_takeAway_49 (by decide) ?_
    refine lv_isub hx hb d_Nt_takeAway_50 ?_
    obtain ⟨S_6, eS_6, hf⟩ := bn_some hf
    refine va_put (D := D) (ci := 3) (v := .int ((gi q_4.2 7) - 1)) (ty := .int) (C := R_Nt) (T := F_Nt) (N := 13) hx hb hts (fun w h => List.mem_cons_of_mem _ (in_Nt w h)) t_Nt tk_Nt nk_Nt hown hK hP hD hS 3 rfl rfl 10 (by decide) (hts _ (List.mem_cons_of_mem _ wd_168)) (fun _ h9 => h9) rfl (by decide +kernel) rfl rfl (Nat.le_of_ble_eq_true rfl) d_Nt_takeAway_51 (fun H locs hP hD hS => ?_)
    have hP : va_P D clC (cw cA cP ob ad S_6) H := by rw [eS_6]; exact hP
    have hD : va_D A (cw cA cP ob ad S_6) := by rw [eS_6]; exact hD
    cases hf
    exact hret _ _ _ _ _ rfl hP hD hS d_Nt_takeAway_54
def f_Nt_takeAway (x1 : Int32) (S : St) : Option St := f_Nt_takeAway_0  x1 S
theorem c_Nt_takeAway (l : Launch) (D : va_G) (cA cP : ClassId) (ob : Nat → Nat) (ad : Nat → Nat → Nat) (x1 : Int32)  (S : St) {res : St} (hf : f_Nt_takeAway x1 S = some res) : CTv l y_Nt_takeAway w_Nt_takeAway rm_Nt_takeAway 0 0 D clC (TY cA cP) [.ref (ob 3), .int x1] (cw cA cP ob ad S) (fun w => w = cw cA cP ob ad res) :=
  mk_v (cc := b_Nt_takeAway) (maxL := 2) (own := R_Nt) (by decide) rfl rfl (Nat.le_of_ble_eq_true rfl) (fun p e s m below meth c A Q C0 hret ls hl hP hD hS => w_Nt_takeAway_0 C0 hret   x1 S _ _ ls hP hD hS (lv_sub hl [0, 1] rfl) hf)
def f_Pt_isLess_57    (S : St) : Option (Int32 × St) :=
  some (1, S)
set_option maxHeartbeats 4000000 in
set_option maxRecDepth 100000 in
theorem w_Pt_isLess_57 (C0 : CX p s m args c b_Pt_isLess 3 R_Pt w_Pt_isLess D clC cA cP A) {res : (Int32 × St)} (hret : RTz p l e rm_Pt_isLess s m args below meth c Q D clC A b_Pt_isLess 0 0 (fun r w => r = res.1 ∧ w = cw cA cP ob ad res.2))    : ∀  (S : St) (H : Heap) (locs : List Loc) (ls : Array Slot), va_P D clC (cw cA cP ob ad S) H → va_D A (cw cA cP ob ad S) → va_S A s.heap H locs → lv_has ls 3 [] → f_Pt_isLess_57    S = some res → W p l e rm_Pt_isLess s m args below meth c H locs 0 0 Q (F0 m 57 ls []) := by
  obtain ⟨hx, hb, hml, hown, hts, hK, hA, hN, hZ⟩ := id C0
  intro  S H locs ls hP hD hS hl hf
  rw [f_Pt_isLess_57] at hf
  refine lv_iconst (v := 1) hx hb d_Pt_isLess_57 (by decide) ?_
  refine lv_goto (tgt := 62) hx hb d_Pt_isLess_58 (by decide) ?_
  cases hf
  exact hret _ _ _ _ _ _ ⟨rfl, rfl⟩ rfl hP hD hS d_Pt_isLess_62
def f_Pt_isLess_0   (x1 : Int32) (x2 : Int32) (S : St) : Option (Int32 × St) :=
  bd (f_Rw_get 6 x1 S) (fun q_1 => bd (f_Rw_get 6 x2 q_1.2) (fun q_2 => (if q_1.1 < q_2.1 then
    f_Pt_isLess_57    q_2.2
    else
    bd (f_Rw_get 6 x1 q_2.2) (fun q_4 => bd (f_Rw_get 6 x2 q_4.2) (fun q_5 => (if q_4.1 = q_5.1 then
      bd (f_Rw_get 7 x1 q_5.2) (fun q_7 => bd (f_Rw_get 7 x2 q_7.2) (fun q_8 => (if q_8.1 ≤ q_7.1 then
        some (0, q_8.2)
        else
        f_Pt_isLess_57    q_8.2)))
      else
      some (0, q_5.2)))))))
set_option maxHeartbeats 4000000 in
set_option maxRecDepth 100000 in
theorem w_Pt_isLess_0 (C0 : CX p s m args c b_Pt_isLess 3 R_Pt w_Pt_isLess D clC cA cP A) {res : (Int32 × St)} (hret : RTz p l e rm_Pt_isLess s m args below meth c Q D clC A b_Pt_isLess 0 0 (fun r w => r = res.1 ∧ w = cw cA cP ob ad res.2))    : ∀ (x1 : Int32) (x2 : Int32) (S : St) (H : Heap) (locs : List Loc) (ls : Array Slot), va_P D clC (cw cA cP ob ad S) H → va_D A (cw cA cP ob ad S) → va_S A s.heap H locs → lv_has ls 3 [(0, .ref (ob 1)), (1, .int x1), (2, .int x2)] → f_Pt_isLess_0   x1 x2 S = some res → W p l e rm_Pt_isLess s m args below meth c H locs 0 0 Q (F0 m 0 ls []) := by
  obtain ⟨hx, hb, hml, hown, hts, hK, hA, hN, hZ⟩ := id C0
  intro x1 x2 S H locs ls hP hD hS hl hf
  rw [f_Pt_isLess_0] at hf
  refine lv_aload_n hx hb d_Pt_isLess_0 rfl (lv_at hl 0 rfl) ?_
  refine va_get (D := D) (ci := 1) (v := .ref (ob 6)) (C := R_Pt) (T := F_Pt) (N := 5) hx hb hts (fun w h => List.mem_cons_of_mem _ (in_Pt w h)) hown hK hP 1 rfl rfl 2 (by decide) (hts _ (List.mem_cons_of_mem _ wd_136)) (fun _ h9 => h9) rfl d_Pt_isLess_1 ?_
  refine lv_iload_n hx hb d_Pt_isLess_4 rfl (lv_at hl 1 rfl) ?_
  obtain ⟨q_1, hq_1, hf⟩ := bd_some hf
  refine kc_i (va_runV (As := [.int x1]) (rest := []) ⟨hx, hb, hml, hown, hts⟩ (c_Rw_get l D cA cP ob ad 6 x1 (by decide) S hq_1 H.size) ⟨callB_of 1 hts (gd_Rw_get) rfl rfl rfl (hts _ (List.mem_cons_of_mem _ wd_67)) (hts _ (List.mem_cons_of_mem _ wd_339)) dd_Rw_get ⟨Nat.le_of_ble_eq_true rfl, Nat.le_of_ble_eq_true rfl⟩, (hts _ (List.mem_cons_of_mem _ wd_340)), (hts _ (List.mem_cons_of_mem _ wd_341))⟩ (kpV hK hP hD hN hZ hS 6 6 rfl rfl) rfl rfl hl.1 rfl (lv_room (Nat.le_of_ble_eq_true rfl)) d_Pt_isLess_5 ⟨Nat.le_of_ble_eq_true rfl, Nat.le_of_ble_eq_true rfl⟩) hP hD hS hA (fun r w H locs hw hP hD hS => ?_)
  obtain ⟨rfl, rfl⟩ := hw
  refine lv_aload_n hx hb d_Pt_isLess_8 rfl (lv_at hl 0 rfl) ?_
  refine va_get (D := D) (ci := 1) (v := .ref (ob 6)) (C := R_Pt) (T := F_Pt) (N := 5) hx hb hts (fun w h => List.mem_cons_of_mem _ (in_Pt w h)) hown hK hP 1 rfl rfl 2 (by decide) (hts _ (List.mem_cons_of_mem _ wd_136)) (fun _ h9 => h9) rfl d_Pt_isLess_9 ?_
  refine lv_iload_n hx hb d_Pt_isLess_12 rfl (lv_at hl 2 rfl) ?_
  obtain ⟨q_2, hq_2, hf⟩ := bd_some hf
  refine kc_i (va_runV (As := [.int x2]) (rest := [.int q_1.1]) ⟨hx, hb, hml, hown, hts⟩ (c_Rw_get l D cA cP ob ad 6 x2 (by decide) q_1.2 hq_2 H.size) ⟨callB_of 1 hts (gd_Rw_get) rfl rfl rfl (hts _ (List.mem_cons_of_mem _ wd_67)) (hts _ (List.mem_cons_of_mem _ wd_339)) dd_Rw_get ⟨Nat.le_of_ble_eq_true rfl, Nat.le_of_ble_eq_true rfl⟩, (hts _ (List.mem_cons_of_mem _ wd_340)), (hts _ (List.mem_cons_of_mem _ wd_341))⟩ (kpV hK hP hD hN hZ hS 6 6 rfl rfl) rfl rfl hl.1 rfl (lv_room (Nat.le_of_ble_eq_true rfl)) d_Pt_isLess_13 ⟨Nat.le_of_ble_eq_true rfl, Nat.le_of_ble_eq_true rfl⟩) hP hD hS hA (fun r w H locs hw hP hD hS => ?_)
  obtain ⟨rfl, rfl⟩ := hw
  refine lv_icmp_lt (tgt := 57) hx hb d_Pt_isLess_16 (by decide) (fun c_3 => ?_) (fun c_3 => ?_)
  · rw [if_pos c_3] at hf
    exact w_Pt_isLess_57 C0 hret     q_2.2 H locs ls hP hD hS (lv_sub hl [] rfl) hf
  · rw [if_neg c_3] at hf
    refine lv_aload_n hx hb d_Pt_isLess_19 rfl (lv_at hl 0 rfl) ?_
    refine va_get (D := D) (ci := 1) (v := .ref (ob 6)) (C := R_Pt) (T := F_Pt) (N := 5) hx hb hts (fun w h => List.mem_cons_of_mem _ (in_Pt w h)) hown hK hP 1 rfl rfl 2 (by decide) (hts _ (List.mem_cons_of_mem _ wd_136)) (fun _ h9 => h9) rfl d_Pt_isLess_20 ?_
    refine lv_iload_n hx hb d_Pt_isLess_23 rfl (lv_at hl 1 rfl) ?_
    obtain ⟨q_4, hq_4, hf⟩ := bd_some hf
    refine kc_i (va_runV (As := [.int x1]) (rest := []) ⟨hx, hb, hml, hown, hts⟩ (c_Rw_get l D cA cP ob ad 6 x1 (by decide) q_2.2 hq_4 H.size) ⟨callB_of 1 hts (gd_Rw_get) rfl rfl rfl (hts _ (List.mem_cons_of_mem _ wd_67)) (hts _ (List.mem_cons_of_mem _ wd_339)) dd_Rw_get ⟨Nat.le_of_ble_eq_true rfl, Nat.le_of_ble_eq_true rfl⟩, (hts _ (List.mem_cons_of_mem _ wd_340)), (hts _ (List.mem_cons_of_mem _ wd_341))⟩ (kpV hK hP hD hN hZ hS 6 6 rfl rfl) rfl rfl hl.1 rfl (lv_room (Nat.le_of_ble_eq_true rfl)) d_Pt_isLess_24 ⟨Nat.le_of_ble_eq_true rfl, Nat.le_of_ble_eq_true rfl⟩) hP hD hS hA (fun r w H locs hw hP hD hS => ?_)
    obtain ⟨rfl, rfl⟩ := hw
    refine lv_aload_n hx hb d_Pt_isLess_27 rfl (lv_at hl 0 rfl) ?_
    refine va_get (D := D) (ci := 1) (v := .ref (ob 6)) (C := R_Pt) (T := F_Pt) (N := 5) hx hb hts (fun w h => List.mem_cons_of_mem _ (in_Pt w h)) hown hK hP 1 rfl rfl 2 (by decide) (hts _ (List.mem_cons_of_mem _ wd_136)) (fun _ h9 => h9) rfl d_Pt_isLess_28 ?_
    refine lv_iload_n hx hb d_Pt_isLess_31 rfl (lv_at hl 2 rfl) ?_
    obtain ⟨q_5, hq_5, hf⟩ := bd_some hf
    refine kc_i (va_runV (As := [.int x2]) (rest := [.int q_4.1]) ⟨hx, hb, hml, hown, hts⟩ (c_Rw_get l D cA cP ob ad 6 x2 (by decide) q_4.2 hq_5 H.size) ⟨callB_of 1 hts (gd_Rw_get) rfl rfl rfl (hts _ (List.mem_cons_of_mem _ wd_67)) (hts _ (List.mem_cons_of_mem _ wd_339)) dd_Rw_get ⟨Nat.le_of_ble_eq_true rfl, Nat.le_of_ble_eq_true rfl⟩, (hts _ (List.mem_cons_of_mem _ wd_340)), (hts _ (List.mem_cons_of_mem _ wd_341))⟩ (kpV hK hP hD hN hZ hS 6 6 rfl rfl) rfl rfl hl.1 rfl (lv_room (Nat.le_of_ble_eq_true rfl)) d_Pt_isLess_32 ⟨Nat.le_of_ble_eq_true rfl, Nat.le_of_ble_eq_true rfl⟩) hP hD hS hA (fun r w H locs hw hP hD hS => ?_)
    obtain ⟨rfl, rfl⟩ := hw
    refine lv_icmp_ne (tgt := 61) hx hb d_Pt_isLess_35 (by decide) (fun c_6 => ?_) (fun c_6 => ?_)
    · rw [if_neg c_6] at hf
      refine lv_iconst (v := 0) hx hb d_Pt_isLess_61 (by decide) ?_
      cases hf
      exact hret _ _ _ _ _ _ ⟨rfl, rfl⟩ rfl hP hD hS d_Pt_isLess_62
    · rw [if_pos c_6] at hf
      refine lv_aload_n hx hb d_Pt_isLess_38 rfl (lv_at hl 0 rfl) ?_
      refine va_get (D := D) (ci := 1) (v := .ref (ob 7)) (C := R_Pt) (T := F_Pt) (N := 5) hx hb hts (fun w h => List.mem_cons_of_mem _ (in_Pt w h)) hown hK hP 1 rfl rfl 3 (by decide) (hts _ (List.mem_cons_of_mem _ wd_137)) (fun _ h9 => h9) rfl d_Pt_isLess_39 ?_
      refine lv_iload_n hx hb d_Pt_isLess_42 rfl (lv_at hl 1 rfl) ?_
      obtain ⟨q_7, hq_7, hf⟩ := bd_some hf
      refine kc_i (va_runV (As := [.int x1]) (rest := []) ⟨hx, hb, hml, hown, hts⟩ (c_Rw_get l D cA cP ob ad 7 x1 (by decide) q_5.2 hq_7 H.size) ⟨callB_of 1 hts (gd_Rw_get) rfl rfl rfl (hts _ (List.mem_cons_of_mem _ wd_67)) (hts _ (List.mem_cons_of_mem _ wd_339)) dd_Rw_get ⟨Nat.le_of_ble_eq_true rfl, Nat.le_of_ble_eq_true rfl⟩, (hts _ (List.mem_cons_of_mem _ wd_340)), (hts _ (List.mem_cons_of_mem _ wd_341))⟩ (kpV hK hP hD hN hZ hS 6 7 rfl rfl) rfl rfl hl.1 rfl (lv_room (Nat.le_of_ble_eq_true rfl)) d_Pt_isLess_43 ⟨Nat.le_of_ble_eq_true rfl, Nat.le_of_ble_eq_true rfl⟩) hP hD hS hA (fun r w H locs hw hP hD hS => ?_)
      obtain ⟨rfl, rfl⟩ := hw
      refine lv_aload_n hx hb d_Pt_isLess_46 rfl (lv_at hl 0 rfl) ?_
      refine va_get (D := D) (ci := 1) (v := .ref (ob 7)) (C := R_Pt) (T := F_Pt) (N := 5) hx hb hts (fun w h => List.mem_cons_of_mem _ (in_Pt w h)) hown hK hP 1 rfl rfl 3 (by decide) (hts _ (List.mem_cons_of_mem _ wd_137)) (fun _ h9 => h9) rfl d_Pt_isLess_47 ?_
      refine lv_iload_n hx hb d_Pt_isLess_50 rfl (lv_at hl 2 rfl) ?_
      obtain ⟨q_8, hq_8, hf⟩ := bd_some hf
      refine kc_i (va_runV (As := [.int x2]) (rest := [.int q_7.1]) ⟨hx, hb, hml, hown, hts⟩ (c_Rw_get l D cA cP ob ad 7 x2 (by decide) q_7.2 hq_8 H.size) ⟨callB_of 1 hts (gd_Rw_get) rfl rfl rfl (hts _ (List.mem_cons_of_mem _ wd_67)) (hts _ (List.mem_cons_of_mem _ wd_339)) dd_Rw_get ⟨Nat.le_of_ble_eq_true rfl, Nat.le_of_ble_eq_true rfl⟩, (hts _ (List.mem_cons_of_mem _ wd_340)), (hts _ (List.mem_cons_of_mem _ wd_341))⟩ (kpV hK hP hD hN hZ hS 6 7 rfl rfl) rfl rfl hl.1 rfl (lv_room (Nat.le_of_ble_eq_true rfl)) d_Pt_isLess_51 ⟨Nat.le_of_ble_eq_true rfl, Nat.le_of_ble_eq_true rfl⟩) hP hD hS hA (fun r w H locs hw hP hD hS => ?_)
      obtain ⟨rfl, rfl⟩ := hw
      refine lv_icmp_ge (tgt := 61) hx hb d_Pt_isLess_54 (by decide) (fun c_9 => ?_) (fun c_9 => ?_)
      · rw [if_pos c_9] at hf
        refine lv_iconst (v := 0) hx hb d_Pt_isLess_61 (by decide) ?_
        cases hf
        exact hret _ _ _ _ _ _ ⟨rfl, rfl⟩ rfl hP hD hS d_Pt_isLess_62
      · rw [if_neg c_9] at hf
        exact w_Pt_isLess_57 C0 hret     q_8.2 H locs ls hP hD hS (lv_sub hl [] rfl) hf
def f_Pt_isLess (x1 : Int32) (x2 : Int32) (S : St) : Option (Int32 × St) := f_Pt_isLess_0  x1 x2 S
theorem c_Pt_isLess (l : Launch) (D : va_G) (cA cP : ClassId) (ob : Nat → Nat) (ad : Nat → Nat → Nat) (x1 : Int32) (x2 : Int32)  (S : St) {res : (Int32 × St)} (hf : f_Pt_isLess x1 x2 S = some res) : CTi l y_Pt_isLess w_Pt_isLess rm_Pt_isLess 0 0 D clC (TY cA cP) [.ref (ob 1), .int x1, .int x2] (cw cA cP ob ad S) (fun r w => r = res.1 ∧ w = cw cA cP ob ad res.2) :=
  mk_z (cc := b_Pt_isLess) (maxL := 3) (own := R_Pt) (by decide) rfl rfl (Nat.le_of_ble_eq_true rfl) (fun p e s m below meth c A Q C0 hret ls hl hP hD hS => w_Pt_isLess_0 C0 hret   x1 x2 S _ _ ls hP hD hS (lv_sub hl [0, 1, 2] rfl) hf)
def f_Nt_isSeen_86    (S : St) : Option (Int32 × St) :=
  some (1, S)
set_option maxHeartbeats 4000000 in
set_option maxRecDepth 100000 in
theorem w_Nt_isSeen_86 (C0 : CX p s m args c b_Nt_isSeen 8 R_Nt w_Nt_isSeen D clC cA cP A) {res : (Int32 × St)} (hret : RTz p l e rm_Nt_isSeen s m args below meth c Q D clC A b_Nt_isSeen 0 0 (fun r w => r = res.1 ∧ w = cw cA cP ob ad res.2))    : ∀  (S : St) (H : Heap) (locs : List Loc) (ls : Array Slot), va_P D clC (cw cA cP ob ad S) H → va_D A (cw cA cP ob ad S) → va_S A s.heap H locs → lv_has ls 8 [] → f_Nt_isSeen_86    S = some res → W p l e rm_Nt_isSeen s m args below meth c H locs 0 0 Q (F0 m 86 ls []) := by
  obtain ⟨hx, hb, hml, hown, hts, hK, hA, hN, hZ⟩ := id C0
  intro  S H locs ls hP hD hS hl hf
  rw [f_Nt_isSeen_86] at hf
  refine lv_iconst (v := 1) hx hb d_Nt_isSeen_86 (by decide) ?_
  refine lv_goto (tgt := 91) hx hb d_Nt_isSeen_87 (by decide) ?_
  cases hf
  exact hret _ _ _ _ _ _ ⟨rfl, rfl⟩ rfl hP hD hS d_Nt_isSeen_91
def f_Nt_isSeen_0   (x1 : Int32) (x2 : Int32) (S : St) : Option (Int32 × St) :=
  bd (f_Nt_baseOf x1 S) (fun q_1 => bd (f_Nt_startOf q_1.1 q_1.2) (fun q_2 => bd (f_Nt_endOf q_1.1 q_2.2) (fun q_3 => bd (f_Pt_x x2 q_3.2) (fun q_4 => bd (f_Pt_y x2 q_4.2) (fun q_5 => bd (f_Pt_turn q_2.1 q_3.1 q_4.1 q_5.1 q_5.2) (fun q_6 => (if 0 < (lg_cmp q_6.1 0) then
    f_Nt_isSeen_86    q_6.2
    else
    (if (lg_cmp q_6.1 0) = 0 then
      bd (f_Pt_isLess q_2.1 x2 q_6.2) (fun q_9 => bd (f_Pt_isLess x2 q_3.1 q_9.2) (fun q_10 => (if q_9.1 = q_10.1 then
        f_Nt_isSeen_86    q_10.2
        else
        some (0, q_10.2))))
      else
      some (0, q_6.2)))))))))
set_option maxHeartbeats 4000000 in
set_option maxRecDepth 100000 in
theorem w_Nt_isSeen_0 (C0 : CX p s m args c b_Nt_isSeen 8 R_Nt w_Nt_isSeen D clC cA cP A) {res : (Int32 × St)} (hret : RTz p l e rm_Nt_isSeen s m args below meth c Q D clC A b_Nt_isSeen 0 0 (fun r w => r = res.1 ∧ w = cw cA cP ob ad res.2))    : ∀ (x1 : Int32) (x2 : Int32) (S : St) (H : Heap) (locs : List Loc) (ls : Array Slot), va_P D clC (cw cA cP ob ad S) H → va_D A (cw cA cP ob ad S) → va_S A s.heap H locs → lv_has ls 8 [(0, .ref (ob 3)), (1, .int x1), (2, .int x2)] → f_Nt_isSeen_0   x1 x2 S = some res → W p l e rm_Nt_isSeen s m args below meth c H locs 0 0 Q (F0 m 0 ls []) := by
  obtain ⟨hx, hb, hml, hown, hts, hK, hA, hN, hZ⟩ := id C0
  intro x1 x2 S H locs ls hP hD hS hl hf
  rw [f_Nt_isSeen_0] at hf
  refine lv_aload_n hx hb d_Nt_isSeen_0 rfl (lv_at hl 0 rfl) ?_
  refine lv_iload_n hx hb d_Nt_isSeen_1 rfl (lv_at hl 1 rfl) ?_
  obtain ⟨q_1, hq_1, hf⟩ := bd_some hf
  refine kc_i (va_runV (As := [.int x1]) (rest := []) ⟨hx, hb, hml, hown, hts⟩ (c_Nt_baseOf l D cA cP ob ad x1  S hq_1 H.size) ⟨callB_of 1 hts (gd_Nt_baseOf) rfl rfl rfl (hts _ (List.mem_cons_of_mem _ wd_69)) (hts _ (List.mem_cons_of_mem _ wd_601)) dd_Nt_baseOf ⟨Nat.le_of_ble_eq_true rfl, Nat.le_of_ble_eq_true rfl⟩, (hts _ (List.mem_cons_of_mem _ wd_603)), (hts _ (List.mem_cons_of_mem _ wd_17))⟩ (kpV hK hP hD hN hZ hS 3 3 rfl rfl) rfl rfl hl.1 rfl (lv_room (Nat.le_of_ble_eq_true rfl)) d_Nt_isSeen_2 ⟨Nat.le_of_ble_eq_true rfl, Nat.le_of_ble_eq_true rfl⟩) hP hD hS hA (fun r w H locs hw hP hD hS => ?_)
  obtain ⟨rfl, rfl⟩ := hw
  refine lv_istore_n (lv' := [(3, .int q_1.1), (0, .ref (ob 3)), (1, .int x1), (2, .int x2)]) hx hb d_Nt_isSeen_5 rfl hl (by decide) rfl (fun ls hl => ?_)
  refine lv_aload_n hx hb d_Nt_isSeen_6 rfl (lv_at hl 1 rfl) ?_
  refine lv_iload_n hx hb d_Nt_isSeen_7 rfl (lv_at hl 0 rfl) ?_
  obtain ⟨q_2, hq_2, hf⟩ := bd_some hf
  refine kc_i (va_runV (As := [.int q_1.1]) (rest := []) ⟨hx, hb, hml, hown, hts⟩ (c_Nt_startOf l D cA cP ob ad q_1.1  q_1.2 hq_2 H.size) ⟨callB_of 1 hts (gd_Nt_startOf) rfl rfl rfl (hts _ (List.mem_cons_of_mem _ wd_69)) (hts _ (List.mem_cons_of_mem _ wd_609)) dd_Nt_startOf ⟨Nat.le_of_ble_eq_true rfl, Nat.le_of_ble_eq_true rfl⟩, (hts _ (List.mem_cons_of_mem _ wd_393)), (hts _ (List.mem_cons_of_mem _ wd_394))⟩ (kpV hK hP hD hN hZ hS 3 3 rfl rfl) rfl rfl hl.1 rfl (lv_room (Nat.le_of_ble_eq_true rfl)) d_Nt_isSeen_8 ⟨Nat.le_of_ble_eq_true rfl, Nat.le_of_ble_eq_true rfl⟩) hP hD hS hA (fun r w H locs hw hP hD hS => ?_)
  obtain ⟨rfl, rfl⟩ := hw
  refine lv_istore (lv' := [(4, .int q_2.1), (3, .int q_1.1), (0, .ref (ob 3)), (1, .int x1), (2, .int x2)]) hx hb d_Nt_isSeen_11 hl (by decide) rfl (fun ls hl => ?_)
  refine lv_aload_n hx hb d_Nt_isSeen_13 rfl (lv_at hl 2 rfl) ?_
  refine lv_iload_n hx hb d_Nt_isSeen_14 rfl (lv_at hl 1 rfl) ?_
  obtain ⟨q_3, hq_3, hf⟩ := bd_some hf
  refine kc_i (va_runV (As := [.int q_1.1]) (rest := []) ⟨hx, hb, hml, hown, hts⟩ (c_Nt_endOf l D cA cP ob ad q_1.1  q_2.2 hq_3 H.size) ⟨callB_of 1 hts (gd_Nt_endOf) rfl rfl rfl (hts _ (List.mem_cons_of_mem _ wd_69)) (hts _ (List.mem_cons_of_mem _ wd_377)) dd_Nt_endOf ⟨Nat.le_of_ble_eq_true rfl, Nat.le_of_ble_eq_true rfl⟩, (hts _ (List.mem_cons_of_mem _ wd_378)), (hts _ (List.mem_cons_of_mem _ wd_379))⟩ (kpV hK hP hD hN hZ hS 3 3 rfl rfl) rfl rfl hl.1 rfl (lv_room (Nat.le_of_ble_eq_true rfl)) d_Nt_isSeen_15 ⟨Nat.le_of_ble_eq_true rfl, Nat.le_of_ble_eq_true rfl⟩) hP hD hS hA (fun r w H locs hw hP hD hS => ?_)
  obtain ⟨rfl, rfl⟩ := hw
  refine lv_istore (lv' := [(5, .int q_3.1), (4, .int q_2.1), (3, .int q_1.1), (0, .ref (ob 3)), (1, .int x1), (2, .int x2)]) hx hb d_Nt_isSeen_18 hl (by decide) rfl (fun ls hl => ?_)
  refine lv_aload_n hx hb d_Nt_isSeen_20 rfl (lv_at hl 3 rfl) ?_
  refine va_get (D := D) (ci := 3) (v := .ref (ob 1)) (C := R_Nt) (T := F_Nt) (N := 13) hx hb hts (fun w h => List.mem_cons_of_mem _ (in_Nt w h)) hown hK hP 3 rfl rfl 0 (by decide) (hts _ (List.mem_cons_of_mem _ wd_158)) (fun _ h9 => h9) rfl d_Nt_isSeen_21 ?_
  refine lv_iload hx hb d_Nt_isSeen_24 (lv_at hl 1 rfl) ?_
  refine lv_iload hx hb d_Nt_isSeen_26 (lv_at hl 0 rfl) ?_
  refine lv_aload_n hx hb d_Nt_isSeen_28 rfl (lv_at hl 3 rfl) ?_
  refine va_get (D := D) (ci := 3) (v := .ref (ob 1)) (C := R_Nt) (T := F_Nt) (N := 13) hx hb hts (fun w h => List.mem_cons_of_mem _ (in_Nt w h)) hown hK hP 3 rfl rfl 0 (by decide) (hts _ (List.mem_cons_of_mem _ wd_158)) (fun _ h9 => h9) rfl d_Nt_isSeen_29 ?_
  refine lv_iload_n hx hb d_Nt_isSeen_32 rfl (lv_at hl 5 rfl) ?_
  obtain ⟨q_4, hq_4, hf⟩ := bd_some hf
  refine kc_i (va_runV (As := [.int x2]) (rest := [.int q_3.1, .int q_2.1, .ref (ob 1)]) ⟨hx, hb, hml, hown, hts⟩ (c_Pt_x l D cA cP ob ad x2  q_3.2 hq_4 H.size) ⟨callB_of 1 hts (gd_Pt_x) rfl rfl rfl (hts _ (List.mem_cons_of_mem _ wd_65)) (hts _ (List.mem_cons_of_mem _ wd_591)) dd_Pt_x ⟨Nat.le_of_ble_eq_true rfl, Nat.le_of_ble_eq_true rfl⟩, (hts _ (List.mem_cons_of_mem _ wd_401)), (hts _ (List.mem_cons_of_mem _ wd_402))⟩ (kpV hK hP hD hN hZ hS 1 1 rfl rfl) rfl rfl hl.1 rfl (lv_room (Nat.le_of_ble_eq_true rfl)) d_Nt_isSeen_33 ⟨Nat.le_of_ble_eq_true rfl, Nat.le_of_ble_eq_true rfl⟩) hP hD hS hA (fun r w H locs hw hP hD hS => ?_)
  obtain ⟨rfl, rfl⟩ := hw
  refine lv_aload_n hx hb d_Nt_isSeen_36 rfl (lv_at hl 3 rfl) ?_
  refine va_get (D := D) (ci := 3) (v := .ref (ob 1)) (C := R_Nt) (T := F_Nt) (N := 13) hx hb hts (fun w h => List.mem_cons_of_mem _ (in_Nt w h)) hown hK hP 3 rfl rfl 0 (by decide) (hts _ (List.mem_cons_of_mem _ wd_158)) (fun _ h9 => h9) rfl d_Nt_isSeen_37 ?_
  refine lv_iload_n hx hb d_Nt_isSeen_40 rfl (lv_at hl 5 rfl) ?_
  obtain ⟨q_5, hq_5, hf⟩ := bd_some hf
  refine kc_i (va_runV (As := [.int x2]) (rest := [.int q_4.1, .int q_3.1, .int q_2.1, .ref (ob 1)]) ⟨hx, hb, hml, hown, hts⟩ (c_Pt_y l D cA cP ob ad x2  q_4.2 hq_5 H.size) ⟨callB_of 1 hts (gd_Pt_y) rfl rfl rfl (hts _ (List.mem_cons_of_mem _ wd_65)) (hts _ (List.mem_cons_of_mem _ wd_592)) dd_Pt_y ⟨Nat.le_of_ble_eq_true rfl, Nat.le_of_ble_eq_true rfl⟩, (hts _ (List.mem_cons_of_mem _ wd_405)), (hts _ (List.mem_cons_of_mem _ wd_406))⟩ (kpV hK hP hD hN hZ hS 1 1 rfl rfl) rfl rfl hl.1 rfl (lv_room (Nat.le_of_ble_eq_true rfl)) d_Nt_isSeen_41 ⟨Nat.le_of_ble_eq_true rfl, Nat.le_of_ble_eq_true rfl⟩) hP hD hS hA (fun r w H locs hw hP hD hS => ?_)
  obtain ⟨rfl, rfl⟩ := hw
  obtain ⟨q_6, hq_6, hf⟩ := bd_some hf
  refine kc_l (va_runV (As := [.int q_2.1, .int q_3.1, .int q_4.1, .int q_5.1]) (rest := []) ⟨hx, hb, hml, hown, hts⟩ (c_Pt_turn l D cA cP ob ad q_2.1 q_3.1 q_4.1 q_5.1  q_5.2 hq_6 H.size) ⟨callB_of 4 hts (gd_Pt_turn) rfl rfl rfl (hts _ (List.mem_cons_of_mem _ wd_65)) (hts _ (List.mem_cons_of_mem _ wd_610)) dd_Pt_turn ⟨Nat.le_of_ble_eq_true rfl, Nat.le_of_ble_eq_true rfl⟩, (hts _ (List.mem_cons_of_mem _ wd_409)), (hts _ (List.mem_cons_of_mem _ wd_410))⟩ (kpV hK hP hD hN hZ hS 1 1 rfl rfl) rfl rfl hl.1 rfl (lv_room (Nat.le_of_ble_eq_true rfl)) d_Nt_isSeen_44 ⟨Nat.le_of_ble_eq_true rfl, Nat.le_of_ble_eq_true rfl⟩) hP hD hS hA (fun r w H locs hw hP hD hS => ?_)
  obtain ⟨rfl, rfl⟩ := hw
  refine lv_lstore (lv' := [(6, .long q_6.1), (5, .int q_3.1), (4, .int q_2.1), (3, .int q_1.1), (0, .ref (ob 3)), (1, .int x1), (2, .int x2)]) hx hb d_Nt_isSeen_47 hl (by decide) rfl (fun ls hl => ?_)
  refine lv_lload hx hb d_Nt_isSeen_49 (lv_at hl 0 rfl) ?_
  refine lv_lconst (v := 0) hx hb d_Nt_isSeen_51 (by decide) ?_
  refine W.lcmp hx hb d_Nt_isSeen_52 ?_
  refine lv_if_gt (tgt := 86) hx hb d_Nt_isSeen_53 (by decide) (fun c_7 => ?_) (fun c_7 => ?_)
  · rw [if_pos c_7] at hf
    exact w_Nt_isSeen_86 C0 hret     q_6.2 H locs ls hP hD hS (lv_sub hl [] rfl) hf
  · rw [if_neg c_7] at hf
    refine lv_lload hx hb d_Nt_isSeen_56 (lv_at hl 0 rfl) ?_
    refine lv_lconst (v := 0) hx hb d_Nt_isSeen_58 (by decide) ?_
    refine W.lcmp hx hb d_Nt_isSeen_59 ?_
    refine lv_if_ne (tgt := 90) hx hb d_Nt_isSeen_60 (by decide) (fun c_8 => ?_) (fun c_8 => ?_)
    · rw [if_neg c_8] at hf
      refine lv_iconst (v := 0) hx hb d_Nt_isSeen_90 (by decide) ?_
      cases hf
      exact hret _ _ _ _ _ _ ⟨rfl, rfl⟩ rfl hP hD hS d_Nt_isSeen_91
    · rw [if_pos c_8] at hf
      refine lv_aload_n hx hb d_Nt_isSeen_63 rfl (lv_at hl 4 rfl) ?_
      refine va_get (D := D) (ci := 3) (v := .ref (ob 1)) (C := R_Nt) (T := F_Nt) (N := 13) hx hb hts (fun w h => List.mem_cons_of_mem _ (in_Nt w h)) hown hK hP 3 rfl rfl 0 (by decide) (hts _ (List.mem_cons_of_mem _ wd_158)) (fun _ h9 => h9) rfl d_Nt_isSeen_64 ?_
      refine lv_iload hx hb d_Nt_isSeen_67 (lv_at hl 2 rfl) ?_
      refine lv_iload_n hx hb d_Nt_isSeen_69 rfl (lv_at hl 6 rfl) ?_
      obtain ⟨q_9, hq_9, hf⟩ := bd_some hf
      refine kc_i (va_runV (As := [.int q_2.1, .int x2]) (rest := []) ⟨hx, hb, hml, hown, hts⟩ (c_Pt_isLess l D cA cP ob ad q_2.1 x2  q_6.2 hq_9 H.size) ⟨callB_of 2 hts (gd_Pt_isLess) rfl rfl rfl (hts _ (List.mem_cons_of_mem _ wd_65)) (hts _ (List.mem_cons_of_mem _ wd_623)) dd_Pt_isLess ⟨Nat.le_of_ble_eq_true rfl, Nat.le_of_ble_eq_true rfl⟩, (hts _ (List.mem_cons_of_mem _ wd_344)), (hts _ (List.mem_cons_of_mem _ wd_345))⟩ (kpV hK hP hD hN hZ hS 1 1 rfl rfl) rfl rfl hl.1 rfl (lv_room (Nat.le_of_ble_eq_true rfl)) d_Nt_isSeen_70 ⟨Nat.le_of_ble_eq_true rfl, Nat.le_of_ble_eq_true rfl⟩) hP hD hS hA (fun r w H locs hw hP hD hS => ?_)
      obtain ⟨rfl, rfl⟩ := hw
      refine lv_aload_n hx hb d_Nt_isSeen_73 rfl (lv_at hl 4 rfl) ?_
      refine va_get (D := D) (ci := 3) (v := .ref (ob 1)) (C := R_Nt) (T := F_Nt) (N := 13) hx hb hts (fun w h => List.mem_cons_of_mem _ (in_Nt w h)) hown hK hP 3 rfl rfl 0 (by decide) (hts _ (List.mem_cons_of_mem _ wd_158)) (fun _ h9 => h9) rfl d_Nt_isSeen_74 ?_
      refine lv_iload_n hx hb d_Nt_isSeen_77 rfl (lv_at hl 6 rfl) ?_
      refine lv_iload hx hb d_Nt_isSeen_78 (lv_at hl 1 rfl) ?_
      obtain ⟨q_10, hq_10, hf⟩ := bd_some hf
      refine kc_i (va_runV (As := [.int x2, .int q_3.1]) (rest := [.int q_9.1]) ⟨hx, hb, hml, hown, hts⟩ (c_Pt_isLess l D cA cP ob ad x2 q_3.1  q_9.2 hq_10 H.size) ⟨callB_of 2 hts (gd_Pt_isLess) rfl rfl rfl (hts _ (List.mem_cons_of_mem _ wd_65)) (hts _ (List.mem_cons_of_mem _ wd_623)) dd_Pt_isLess ⟨Nat.le_of_ble_eq_true rfl, Nat.le_of_ble_eq_true rfl⟩, (hts _ (List.mem_cons_of_mem _ wd_344)), (hts _ (List.mem_cons_of_mem _ wd_345))⟩ (kpV hK hP hD hN hZ hS 1 1 rfl rfl) rfl rfl hl.1 rfl (lv_room (Nat.le_of_ble_eq_true rfl)) d_Nt_isSeen_80 ⟨Nat.le_of_ble_eq_true rfl, Nat.le_of_ble_eq_true rfl⟩) hP hD hS hA (fun r w H locs hw hP hD hS => ?_)
      obtain ⟨rfl, rfl⟩ := hw
      refine lv_icmp_ne (tgt := 90) hx hb d_Nt_isSeen_83 (by decide) (fun c_11 => ?_) (fun c_11 => ?_)
      · rw [if_neg c_11] at hf
        refine lv_iconst (v := 0) hx hb d_Nt_isSeen_90 (by decide) ?_
        cases hf
        exact hret _ _ _ _ _ _ ⟨rfl, rfl⟩ rfl hP hD hS d_Nt_isSeen_91
      · rw [if_pos c_11] at hf
        exact w_Nt_isSeen_86 C0 hret     q_10.2 H locs ls hP hD hS (lv_sub hl [] rfl) hf
def f_Nt_isSeen (x1 : Int32) (x2 : Int32) (S : St) : Option (Int32 × St) := f_Nt_isSeen_0  x1 x2 S
theorem c_Nt_isSeen (l : Launch) (D : va_G) (cA cP : ClassId) (ob : Nat → Nat) (ad : Nat → Nat → Nat) (x1 : Int32) (x2 : Int32)  (S : St) {res : (Int32 × St)} (hf : f_Nt_isSeen x1 x2 S = some res) : CTi l y_Nt_isSeen w_Nt_isSeen rm_Nt_isSeen 0 0 D clC (TY cA cP) [.ref (ob 3), .int x1, .int x2] (cw cA cP ob ad S) (fun r w => r = res.1 ∧ w = cw cA cP ob ad res.2) :=
  mk_z (cc := b_Nt_isSeen) (maxL := 8) (own := R_Nt) (by decide) rfl rfl (Nat.le_of_ble_eq_true rfl) (fun p e s m below meth c A Q C0 hret ls hl hP hD hS => w_Nt_isSeen_0 C0 hret   x1 x2 S _ _ ls hP hD hS (lv_sub hl [0, 1, 2] rfl) hf)
def f_Pt_dot_0   (x1 : Int32) (x2 : Int32) (x3 : Int32) (S : St) : Option (Int64 × St) :=
  bd (f_Rw_get 6 x2 S) (fun q_1 => bd (f_Rw_get 6 x1 q_1.2) (fun q_2 => bn ((Int32.toInt64 q_1.1) - (Int32.toInt64 q_2.1)) (fun x4_3 => bd (f_Rw_get 7 x2 q_2.2) (fun q_4 => bd (f_Rw_get 7 x1 q_4.2) (fun q_5 => bn ((Int32.toInt64 q_4.1) - (Int32.toInt64 q_5.1)) (fun x6_6 => bd (f_Rw_get 6 x3 q_5.2) (fun q_7 => bd (f_Rw_get 6 x1 q_7.2) (fun q_8 => bn ((Int32.toInt64 q_7.1) - (Int32.toInt64 q_8.1)) (fun x8_9 => bd (f_Rw_get 7 x3 q_8.2) (fun q_10 => bd (f_Rw_get 7 x1 q_10.2) (fun q_11 => bn ((Int32.toInt64 q_10.1) - (Int32.toInt64 q_11.1)) (fun x10_12 => some (((x4_3 * x8_9) + (x6_6 * x10_12)), q_11.2)))))))))))))
set_option maxHeartbeats 4000000 in
set_option maxRecDepth 100000 in
theorem w_Pt_dot_0 (C0 : CX p s m args c b_Pt_dot 12 R_Pt w_Pt_dot D clC cA cP A) {res : (Int64 × St)} (hret : RTl p l e rm_Pt_dot s m args below meth c Q D clC A b_Pt_dot 0 0 (fun r w => r = res.1 ∧ w = cw cA cP ob ad res.2))    : ∀ (x1 : Int32) (x2 : Int32) (x3 : Int32) (S : St) (H : Heap) (locs : List Loc) (ls : Array Slot), va_P D clC (cw cA cP ob ad S) H → va_D A (cw cA cP ob ad S) → va_S A s.heap H locs → lv_has ls 12 [(0, .ref (ob 1)), (1, .int x1), (2, .int x2), (3, .int x3)] → f_Pt_dot_0   x1 x2 x3 S = some res → W p l e rm_Pt_dot s m args below meth c H locs 0 0 Q (F0 m 0 ls []) := by
  obtain ⟨hx, hb, hml, hown, hts, hK, hA, hN, hZ⟩ := id C0
  intro x1 x2 x3 S H locs ls hP hD hS hl hf
  rw [f_Pt_dot_0] at hf
  refine lv_aload_n hx hb d_Pt_dot_0 rfl (lv_at hl 0 rfl) ?_
  refine va_get (D := D) (ci := 1) (v := .ref (ob 6)) (C := R_Pt) (T := F_Pt) (N := 5) hx hb hts (fun w h => List.mem_cons_of_mem _ (in_Pt w h)) hown hK hP 1 rfl rfl 2 (by decide) (hts _ (List.mem_cons_of_mem _ wd_136)) (fun _ h9 => h9) rfl d_Pt_dot_1 ?_
  refine lv_iload_n hx hb d_Pt_dot_4 rfl (lv_at hl 2 rfl) ?_
  obtain ⟨q_1, hq_1, hf⟩ := bd_some hf
  refine kc_i (va_runV (As := [.int x2]) (rest := []) ⟨hx, hb, hml, hown, hts⟩ (c_Rw_get l D cA cP ob ad 6 x2 (by decide) S hq_1 H.size) ⟨callB_of 1 hts (gd_Rw_get) rfl rfl rfl (hts _ (List.mem_cons_of_mem _ wd_67)) (hts _ (List.mem_cons_of_mem _ wd_339)) dd_Rw_get ⟨Nat.le_of_ble_eq_true rfl, Nat.le_of_ble_eq_true rfl⟩, (hts _ (List.mem_cons_of_mem _ wd_340)), (hts _ (List.mem_cons_of_mem _ wd_341))⟩ (kpV hK hP hD hN hZ hS 6 6 rfl rfl) rfl rfl hl.1 rfl (lv_room (Nat.le_of_ble_eq_true rfl)) d_Pt_dot_5 ⟨Nat.le_of_ble_eq_true rfl, Nat.le_of_ble_eq_true rfl⟩) hP hD hS hA (fun r w H locs hw hP hD hS => ?_)
  obtain ⟨rfl, rfl⟩ := hw
  refine lv_i2l (v := (Int32.toInt64 q_1.1)) hx hb d_Pt_dot_8 rfl ?_
  refine lv_aload_n hx hb d_Pt_dot_9 rfl (lv_at hl 0 rfl) ?_
  refine va_get (D := D) (ci := 1) (v := .ref (ob 6)) (C := R_Pt) (T := F_Pt) (N := 5) hx hb hts (fun w h => List.mem_cons_of_mem _ (in_Pt w h)) hown hK hP 1 rfl rfl 2 (by decide) (hts _ (List.mem_cons_of_mem _ wd_136)) (fun _ h9 => h9) rfl d_Pt_dot_10 ?_
  refine lv_iload_n hx hb d_Pt_dot_13 rfl (lv_at hl 1 rfl) ?_
  obtain ⟨q_2, hq_2, hf⟩ := bd_some hf
  refine kc_i (va_runV (As := [.int x1]) (rest := [.long (Int32.toInt64 q_1.1)]) ⟨hx, hb, hml, hown, hts⟩ (c_Rw_get l D cA cP ob ad 6 x1 (by decide) q_1.2 hq_2 H.size) ⟨callB_of 1 hts (gd_Rw_get) rfl rfl rfl (hts _ (List.mem_cons_of_mem _ wd_67)) (hts _ (List.mem_cons_of_mem _ wd_339)) dd_Rw_get ⟨Nat.le_of_ble_eq_true rfl, Nat.le_of_ble_eq_true rfl⟩, (hts _ (List.mem_cons_of_mem _ wd_340)), (hts _ (List.mem_cons_of_mem _ wd_341))⟩ (kpV hK hP hD hN hZ hS 6 6 rfl rfl) rfl rfl hl.1 rfl (lv_room (Nat.le_of_ble_eq_true rfl)) d_Pt_dot_14 ⟨Nat.le_of_ble_eq_true rfl, Nat.le_of_ble_eq_true rfl⟩) hP hD hS hA (fun r w H locs hw hP hD hS => ?_)
  obtain ⟨rfl, rfl⟩ := hw
  refine lv_i2l (v := (Int32.toInt64 q_2.1)) hx hb d_Pt_dot_17 rfl ?_
  refine lv_lsub hx hb d_Pt_dot_18 ?_
  obtain ⟨x4_3, ex4_3, hf⟩ := bn_some hf
  refine tpl ex4_3 ?_
  refine lv_lstore (lv' := [(4, .long x4_3), (0, .ref (ob 1)), (1, .int x1), (2, .int x2), (3, .int x3)]) hx hb d_Pt_dot_19 hl (by decide) rfl (fun ls hl => ?_)
  refine lv_aload_n hx hb d_Pt_dot_21 rfl (lv_at hl 1 rfl) ?_
  refine va_get (D := D) (ci := 1) (v := .ref (ob 7)) (C := R_Pt) (T := F_Pt) (N := 5) hx hb hts (fun w h => List.mem_cons_of_mem _ (in_Pt w h)) hown hK hP 1 rfl rfl 3 (by decide) (hts _ (List.mem_cons_of_mem _ wd_137)) (fun _ h9 => h9) rfl d_Pt_dot_22 ?_
  refine lv_iload_n hx hb d_Pt_dot_25 rfl (lv_at hl 3 rfl) ?_
  obtain ⟨q_4, hq_4, hf⟩ := bd_some hf
  refine kc_i (va_runV (As := [.int x2]) (rest := []) ⟨hx, hb, hml, hown, hts⟩ (c_Rw_get l D cA cP ob ad 7 x2 (by decide) q_2.2 hq_4 H.size) ⟨callB_of 1 hts (gd_Rw_get) rfl rfl rfl (hts _ (List.mem_cons_of_mem _ wd_67)) (hts _ (List.mem_cons_of_mem _ wd_339)) dd_Rw_get ⟨Nat.le_of_ble_eq_true rfl, Nat.le_of_ble_eq_true rfl⟩, (hts _ (List.mem_cons_of_mem _ wd_340)), (hts _ (List.mem_cons_of_mem _ wd_341))⟩ (kpV hK hP hD hN hZ hS 6 7 rfl rfl) rfl rfl hl.1 rfl (lv_room (Nat.le_of_ble_eq_true rfl)) d_Pt_dot_26 ⟨Nat.le_of_ble_eq_true rfl, Nat.le_of_ble_eq_true rfl⟩) hP hD hS hA (fun r w H locs hw hP hD hS => ?_)
  obtain ⟨rfl, rfl⟩ := hw
  refine lv_i2l (v := (Int32.toInt64 q_4.1)) hx hb d_Pt_dot_29 rfl ?_
  refine lv_aload_n hx hb d_Pt_dot_30 rfl (lv_at hl 1 rfl) ?_
  refine va_get (D := D) (ci := 1) (v := .ref (ob 7)) (C := R_Pt) (T := F_Pt) (N := 5) hx hb hts (fun w h => List.mem_cons_of_mem _ (in_Pt w h)) hown hK hP 1 rfl rfl 3 (by decide) (hts _ (List.mem_cons_of_mem _ wd_137)) (fun _ h9 => h9) rfl d_Pt_dot_31 ?_
  refine lv_iload_n hx hb d_Pt_dot_34 rfl (lv_at hl 2 rfl) ?_
  obtain ⟨q_5, hq_5, hf⟩ := bd_some hf
  refine kc_i (va_runV (As := [.int x1]) (rest := [.long (Int32.toInt64 q_4.1)]) ⟨hx, hb, hml, hown, hts⟩ (c_Rw_get l D cA cP ob ad 7 x1 (by decide) q_4.2 hq_5 H.size) ⟨callB_of 1 hts (gd_Rw_get) rfl rfl rfl (hts _ (List.mem_cons_of_mem _ wd_67)) (hts _ (List.mem_cons_of_mem _ wd_339)) dd_Rw_get ⟨Nat.le_of_ble_eq_true rfl, Nat.le_of_ble_eq_true rfl⟩, (hts _ (List.mem_cons_of_mem _ wd_340)), (hts _ (List.mem_cons_of_mem _ wd_341))⟩ (kpV hK hP hD hN hZ hS 6 7 rfl rfl) rfl rfl hl.1 rfl (lv_room (Nat.le_of_ble_eq_true rfl)) d_Pt_dot_35 ⟨Nat.le_of_ble_eq_true rfl, Nat.le_of_ble_eq_true rfl⟩) hP hD hS hA (fun r w H locs hw hP hD hS => ?_)
  obtain ⟨rfl, rfl⟩ := hw
  refine lv_i2l (v := (Int32.toInt64 q_5.1)) hx hb d_Pt_dot_38 rfl ?_
  refine lv_lsub hx hb d_Pt_dot_39 ?_
  obtain ⟨x6_6, ex6_6, hf⟩ := bn_some hf
  refine tpl ex6_6 ?_
  refine lv_lstore (lv' := [(6, .long x6_6), (4, .long x4_3), (0, .ref (ob 1)), (1, .int x1), (2, .int x2), (3, .int x3)]) hx hb d_Pt_dot_40 hl (by decide) rfl (fun ls hl => ?_)
  refine lv_aload_n hx hb d_Pt_dot_42 rfl (lv_at hl 2 rfl) ?_
  refine va_get (D := D) (ci := 1) (v := .ref (ob 6)) (C := R_Pt) (T := F_Pt) (N := 5) hx hb hts (fun w h => List.mem_cons_of_mem _ (in_Pt w h)) hown hK hP 1 rfl rfl 2 (by decide) (hts _ (List.mem_cons_of_mem _ wd_136)) (fun _ h9 => h9) rfl d_Pt_dot_43 ?_
  refine lv_iload_n hx hb d_Pt_dot_46 rfl (lv_at hl 5 rfl) ?_
  obtain ⟨q_7, hq_7, hf⟩ := bd_some hf
  refine kc_i (va_runV (As := [.int x3]) (rest := []) ⟨hx, hb, hml, hown, hts⟩ (c_Rw_get l D cA cP ob ad 6 x3 (by decide) q_5.2 hq_7 H.size) ⟨callB_of 1 hts (gd_Rw_get) rfl rfl rfl (hts _ (List.mem_cons_of_mem _ wd_67)) (hts _ (List.mem_cons_of_mem _ wd_339)) dd_Rw_get ⟨Nat.le_of_ble_eq_true rfl, Nat.le_of_ble_eq_true rfl⟩, (hts _ (List.mem_cons_of_mem _ wd_340)), (hts _ (List.mem_cons_of_mem _ wd_341))⟩ (kpV hK hP hD hN hZ hS 6 6 rfl rfl) rfl rfl hl.1 rfl (lv_room (Nat.le_of_ble_eq_true rfl)) d_Pt_dot_47 ⟨Nat.le_of_ble_eq_true rfl, Nat.le_of_ble_eq_true rfl⟩) hP hD hS hA (fun r w H locs hw hP hD hS => ?_)
  obtain ⟨rfl, rfl⟩ := hw
  refine lv_i2l (v := (Int32.toInt64 q_7.1)) hx hb d_Pt_dot_50 rfl ?_
  refine lv_aload_n hx hb d_Pt_dot_51 rfl (lv_at hl 2 rfl) ?_
  refine va_get (D := D) (ci := 1) (v := .ref (ob 6)) (C := R_Pt) (T := F_Pt) (N := 5) hx hb hts (fun w h => List.mem_cons_of_mem _ (in_Pt w h)) hown hK hP 1 rfl rfl 2 (by decide) (hts _ (List.mem_cons_of_mem _ wd_136)) (fun _ h9 => h9) rfl d_Pt_dot_52 ?_
  refine lv_iload_n hx hb d_Pt_dot_55 rfl (lv_at hl 3 rfl) ?_
  obtain ⟨q_8, hq_8, hf⟩ := bd_some hf
  refine kc_i (va_runV (As := [.int x1]) (rest := [.long (Int32.toInt64 q_7.1)]) ⟨hx, hb, hml, hown, hts⟩ (c_Rw_get l D cA cP ob ad 6 x1 (by decide) q_7.2 hq_8 H.size) ⟨callB_of 1 hts (gd_Rw_get) rfl rfl rfl (hts _ (List.mem_cons_of_mem _ wd_67)) (hts _ (List.mem_cons_of_mem _ wd_339)) dd_Rw_get ⟨Nat.le_of_ble_eq_true rfl, Nat.le_of_ble_eq_true rfl⟩, (hts _ (List.mem_cons_of_mem _ wd_340)), (hts _ (List.mem_cons_of_mem _ wd_341))⟩ (kpV hK hP hD hN hZ hS 6 6 rfl rfl) rfl rfl hl.1 rfl (lv_room (Nat.le_of_ble_eq_true rfl)) d_Pt_dot_56 ⟨Nat.le_of_ble_eq_true rfl, Nat.le_of_ble_eq_true rfl⟩) hP hD hS hA (fun r w H locs hw hP hD hS => ?_)
  obtain ⟨rfl, rfl⟩ := hw
  refine lv_i2l (v := (Int32.toInt64 q_8.1)) hx hb d_Pt_dot_59 rfl ?_
  refine lv_lsub hx hb d_Pt_dot_60 ?_
  obtain ⟨x8_9, ex8_9, hf⟩ := bn_some hf
  refine tpl ex8_9 ?_
  refine lv_lstore (lv' := [(8, .long x8_9), (6, .long x6_6), (4, .long x4_3), (0, .ref (ob 1)), (1, .int x1), (2, .int x2), (3, .int x3)]) hx hb d_Pt_dot_61 hl (by decide) rfl (fun ls hl => ?_)
  refine lv_aload_n hx hb d_Pt_dot_63 rfl (lv_at hl 3 rfl) ?_
  refine va_get (D := D) (ci := 1) (v := .ref (ob 7)) (C := R_Pt) (T := F_Pt) (N := 5) hx hb hts (fun w h => List.mem_cons_of_mem _ (in_Pt w h)) hown hK hP 1 rfl rfl 3 (by decide) (hts _ (List.mem_cons_of_mem _ wd_137)) (fun _ h9 => h9) rfl d_Pt_dot_64 ?_
  refine lv_iload_n hx hb d_Pt_dot_67 rfl (lv_at hl 6 rfl) ?_
  obtain ⟨q_10, hq_10, hf⟩ := bd_some hf
  refine kc_i (va_runV (As := [.int x3]) (rest := []) ⟨hx, hb, hml, hown, hts⟩ (c_Rw_get l D cA cP ob ad 7 x3 (by decide) q_8.2 hq_10 H.size) ⟨callB_of 1 hts (gd_Rw_get) rfl rfl rfl (hts _ (List.mem_cons_of_mem _ wd_67)) (hts _ (List.mem_cons_of_mem _ wd_339)) dd_Rw_get ⟨Nat.le_of_ble_eq_true rfl, Nat.le_of_ble_eq_true rfl⟩, (hts _ (List.mem_cons_of_mem _ wd_340)), (hts _ (List.mem_cons_of_mem _ wd_341))⟩ (kpV hK hP hD hN hZ hS 6 7 rfl rfl) rfl rfl hl.1 rfl (lv_room (Nat.le_of_ble_eq_true rfl)) d_Pt_dot_68 ⟨Nat.le_of_ble_eq_true rfl, Nat.le_of_ble_eq_true rfl⟩) hP hD hS hA (fun r w H locs hw hP hD hS => ?_)
  obtain ⟨rfl, rfl⟩ := hw
  refine lv_i2l (v := (Int32.toInt64 q_10.1)) hx hb d_Pt_dot_71 rfl ?_
  refine lv_aload_n hx hb d_Pt_dot_72 rfl (lv_at hl 3 rfl) ?_
  refine va_get (D := D) (ci := 1) (v := .ref (ob 7)) (C := R_Pt) (T := F_Pt) (N := 5) hx hb hts (fun w h => List.mem_cons_of_mem _ (in_Pt w h)) hown hK hP 1 rfl rfl 3 (by decide) (hts _ (List.mem_cons_of_mem _ wd_137)) (fun _ h9 => h9) rfl d_Pt_dot_73 ?_
  refine lv_iload_n hx hb d_Pt_dot_76 rfl (lv_at hl 4 rfl) ?_
  obtain ⟨q_11, hq_11, hf⟩ := bd_some hf
  refine kc_i (va_runV (As := [.int x1]) (rest := [.long (Int32.toInt64 q_10.1)]) ⟨hx, hb, hml, hown, hts⟩ (c_Rw_get l D cA cP ob ad 7 x1 (by decide) q_10.2 hq_11 H.size) ⟨callB_of 1 hts (gd_Rw_get) rfl rfl rfl (hts _ (List.mem_cons_of_mem _ wd_67)) (hts _ (List.mem_cons_of_mem _ wd_339)) dd_Rw_get ⟨Nat.le_of_ble_eq_true rfl, Nat.le_of_ble_eq_true rfl⟩, (hts _ (List.mem_cons_of_mem _ wd_340)), (hts _ (List.mem_cons_of_mem _ wd_341))⟩ (kpV hK hP hD hN hZ hS 6 7 rfl rfl) rfl rfl hl.1 rfl (lv_room (Nat.le_of_ble_eq_true rfl)) d_Pt_dot_77 ⟨Nat.le_of_ble_eq_true rfl, Nat.le_of_ble_eq_true rfl⟩) hP hD hS hA (fun r w H locs hw hP hD hS => ?_)
  obtain ⟨rfl, rfl⟩ := hw
  refine lv_i2l (v := (Int32.toInt64 q_11.1)) hx hb d_Pt_dot_80 rfl ?_
  refine lv_lsub hx hb d_Pt_dot_81 ?_
  obtain ⟨x10_12, ex10_12, hf⟩ := bn_some hf
  refine tpl ex10_12 ?_
  refine lv_lstore (lv' := [(10, .long x10_12), (8, .long x8_9), (6, .long x6_6), (4, .long x4_3), (0, .ref (ob 1)), (1, .int x1), (2, .int x2), (3, .int x3)]) hx hb d_Pt_dot_82 hl (by decide) rfl (fun ls hl => ?_)
  refine lv_lload hx hb d_Pt_dot_84 (lv_at hl 3 rfl) ?_
  refine lv_lload hx hb d_Pt_dot_86 (lv_at hl 1 rfl) ?_
  refine lv_lmul hx hb d_Pt_dot_88 ?_
  refine lv_lload hx hb d_Pt_dot_89 (lv_at hl 2 rfl) ?_
  refine lv_lload hx hb d_Pt_dot_91 (lv_at hl 0 rfl) ?_
  refine lv_lmul hx hb d_Pt_dot_93 ?_
  refine lv_ladd hx hb d_Pt_dot_94 ?_
  cases hf
  exact hret _ _ _ _ _ _ ⟨rfl, rfl⟩ hP hD hS d_Pt_dot_95
def f_Pt_dot (x1 : Int32) (x2 : Int32) (x3 : Int32) (S : St) : Option (Int64 × St) := f_Pt_dot_0  x1 x2 x3 S
theorem c_Pt_dot (l : Launch) (D : va_G) (cA cP : ClassId) (ob : Nat → Nat) (ad : Nat → Nat → Nat) (x1 : Int32) (x2 : Int32) (x3 : Int32)  (S : St) {res : (Int64 × St)} (hf : f_Pt_dot x1 x2 x3 S = some res) : CTl l y_Pt_dot w_Pt_dot rm_Pt_dot 0 0 D clC (TY cA cP) [.ref (ob 1), .int x1, .int x2, .int x3] (cw cA cP ob ad S) (fun r w => r = res.1 ∧ w = cw cA cP ob ad res.2) :=
  mk_l (cc := b_Pt_dot) (maxL := 12) (own := R_Pt) (by decide) rfl rfl (Nat.le_of_ble_eq_true rfl) (fun p e s m below meth c A Q C0 hret ls hl hP hD hS => w_Pt_dot_0 C0 hret   x1 x2 x3 S _ _ ls hP hD hS (lv_sub hl [0, 1, 2, 3] rfl) hf)
end
