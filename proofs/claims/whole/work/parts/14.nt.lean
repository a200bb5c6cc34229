section
variable {p : Program} {l : Launch} {e : Env} {s : State} {m : MethodId} {args : Array Value} {below : List Frame} {meth : Method} {c : Code} {Q : State → Prop} {D : va_G} {cA cP : ClassId} {ob : Nat → Nat} {ad : Nat → Nat → Nat} {A : Nat → Prop}
def f_Nt_insert_0   (x1 : Int32) (x2 : Int32) (S : St) : Option St :=
  bd (f_Pt_x x1 S) (fun q_1 => bd (f_Pt_y x1 q_1.2) (fun q_2 => bd (f_Nt_holder x2 q_1.1 q_2.1 q_2.2) (fun q_3 => bd (f_Nt_dig (q_3.1 / 3) x1 q_3.2) (fun q_4 => bd (f_Nt_fill x1 q_4) (fun q_5 => some q_5)))))
set_option maxHeartbeats 4000000 in
set_option maxRecDepth 100000 in
theorem w_Nt_insert_0 (C0 : CX p s m args c b_Nt_insert 3 R_Nt w_Nt_insert D clC cA cP A) {res : St} (hret : RTv p l e rm_Nt_insert s m args below meth c Q D clC A b_Nt_insert 0 0 (fun w => w = cw cA cP ob ad res))    : ∀ (x1 : Int32) (x2 : Int32) (S : St) (H : Heap) (locs : List Loc) (ls : Array Slot), va_P D clC (cw cA cP ob ad S) H → va_D A (cw cA cP ob ad S) → va_S A s.heap H locs → lv_has ls 3 [(0, .ref (ob 3)), (1, .int x1), (2, .int x2)] → f_Nt_insert_0   x1 x2 S = some res → W p l e rm_Nt_insert s m args below meth c H locs 0 0 Q (F0 m 0 ls []) := by
  obtain ⟨hx, hb, hml, hown, hts, hK, hA, hN, hZ⟩ := id C0
  intro x1 x2 S H locs ls hP hD hS hl hf
  rw [f_Nt_insert_0] at hf
  refine lv_aload_n hx hb d_Nt_insert_0 rfl (lv_at hl 0 rfl) ?_
  refine lv_aload_n hx hb d_Nt_insert_1 rfl (lv_at hl 0 rfl) ?_
  refine lv_iload_n hx hb d_Nt_insert_2 rfl (lv_at hl 2 rfl) ?_
  refine lv_aload_n hx hb d_Nt_insert_3 rfl (lv_at hl 0 rfl) ?_
  refine va_get (D := D) (ci := 3) (v := .ref (ob 1)) (C := R_Nt) (T := F_Nt) (N := 13) hx hb hts (fun w h => List.mem_cons_of_mem _ (in_Nt w h)) hown hK hP 3 rfl rfl 0 (by decide) (hts _ (List.mem_cons_of_mem _ wd_158)) (fun _ h9 => h9) rfl d_Nt_insert_4 ?_
  refine lv_iload_n hx hb d_Nt_insert_7 rfl (lv_at hl 1 rfl) ?_
  obtain ⟨q_1, hq_1, hf⟩ := bd_some hf
  refine kc_i (va_runV (As := [.int x1]) (rest := [.int x2, .ref (ob 3), .ref (ob 3)]) ⟨hx, hb, hml, hown, hts⟩ (c_Pt_x l D cA cP ob ad x1  S hq_1 H.size) ⟨callB_of 1 hts (gd_Pt_x) rfl rfl rfl (hts _ (List.mem_cons_of_mem _ wd_65)) (hts _ (List.mem_cons_of_mem _ wd_591)) dd_Pt_x ⟨Nat.le_of_ble_eq_true rfl, Nat.le_of_ble_eq_true rfl⟩, (hts _ (List.mem_cons_of_mem _ wd_401)), (hts _ (List.mem_cons_of_mem _ wd_402))⟩ (kpV hK hP hD hN hZ hS 1 1 rfl rfl) rfl rfl hl.1 rfl (lv_room (Nat.le_of_ble_eq_true rfl)) d_Nt_insert_8 ⟨Nat.le_of_ble_eq_true rfl, Nat.le_of_ble_eq_true rfl⟩) hP hD hS hA (fun r w H locs hw hP hD hS => ?_)
  obtain ⟨rfl, rfl⟩ := hw
  refine lv_aload_n hx hb d_Nt_insert_11 rfl (lv_at hl 0 rfl) ?_
  refine va_get (D := D) (ci := 3) (v := .ref (ob 1)) (C := R_Nt) (T := F_Nt) (N := 13) hx hb hts (fun w h => List.mem_cons_of_mem _ (in_Nt w h)) hown hK hP 3 rfl rfl 0 (by decide) (hts _ (List.mem_cons_of_mem _ wd_158)) (fun _ h9 => h9) rfl d_Nt_insert_12 ?_
  refine lv_iload_n hx hb d_Nt_insert_15 rfl (lv_at hl 1 rfl) ?_
  obtain ⟨q_2, hq_2, hf⟩ := bd_some hf
  refine kc_i (va_runV (As := [.int x1]) (rest := [.int q_1.1, .int x2, .ref (ob 3), .ref (ob 3)]) ⟨hx, hb, hml, hown, hts⟩ (c_Pt_y l D cA cP ob ad x1  q_1.2 hq_2 H.size) ⟨callB_of 1 hts (gd_Pt_y) rfl rfl rfl (hts _ (List.mem_cons_of_mem _ wd_65)) (hts _ (List.mem_cons_of_mem _ wd_592)) dd_Pt_y ⟨Nat.le_of_ble_eq_true rfl, Nat.le_of_ble_eq_true rfl⟩, (hts _ (List.mem_cons_of_mem _ wd_405)), (hts _ (List.mem_cons_of_mem _ wd_406))⟩ (kpV hK hP hD hN hZ hS 1 1 rfl rfl) rfl rfl hl.1 rfl (lv_room (Nat.le_of_ble_eq_true rfl)) d_Nt_insert_16 ⟨Nat.le_of_ble_eq_true rfl, Nat.le_of_ble_eq_true rfl⟩) hP hD hS hA (fun r w H locs hw hP hD hS => ?_)
  obtain ⟨rfl, rfl⟩ := hw
  obtain ⟨q_3, hq_3, hf⟩ := bd_some hf
  refine kc_i (va_runV (As := [.int x2, .int q_1.1, .int q_2.1]) (rest := [.ref (ob 3)]) ⟨hx, hb, hml, hown, hts⟩ (c_Nt_holder l D cA cP ob ad x2 q_1.1 q_2.1  q_2.2 hq_3 H.size) ⟨callB_of 3 hts (gd_Nt_holder) rfl rfl rfl (hts _ (List.mem_cons_of_mem _ wd_69)) (hts _ (List.mem_cons_of_mem _ wd_593)) dd_Nt_holder ⟨Nat.le_of_ble_eq_true rfl, Nat.le_of_ble_eq_true rfl⟩, (hts _ (List.mem_cons_of_mem _ wd_594)), (hts _ (List.mem_cons_of_mem _ wd_595))⟩ (kpV hK hP hD hN hZ hS 3 3 rfl rfl) rfl rfl hl.1 rfl (lv_room (Nat.le_of_ble_eq_true rfl)) d_Nt_insert_19 ⟨Nat.le_of_ble_eq_true rfl, Nat.le_of_ble_eq_true rfl⟩) hP hD hS hA (fun r w H locs hw hP hD hS => ?_)
  obtain ⟨rfl, rfl⟩ := hw
  refine lv_iconst (v := 3) hx hb d_Nt_insert_22 (by decide) ?_
  refine lv_idiv hx hb d_Nt_insert_23 (by decide) ?_
  refine lv_iload_n hx hb d_Nt_insert_24 rfl (lv_at hl 1 rfl) ?_
  obtain ⟨q_4, hq_4, hf⟩ := bd_some hf
  refine kc_v (va_runV (As := [.int (q_3.1 / 3), .int x1]) (rest := []) ⟨hx, hb, hml, hown, hts⟩ (c_Nt_dig l D cA cP ob ad (q_3.1 / 3) x1  q_3.2 hq_4 H.size) ⟨callB_of 2 hts (gd_Nt_dig) rfl rfl rfl (hts _ (List.mem_cons_of_mem _ wd_69)) (hts _ (List.mem_cons_of_mem _ wd_611)) dd_Nt_dig ⟨Nat.le_of_ble_eq_true rfl, Nat.le_of_ble_eq_true rfl⟩, (hts _ (List.mem_cons_of_mem _ wd_613)), (hts _ (List.mem_cons_of_mem _ wd_19))⟩ (kpV hK hP hD hN hZ hS 3 3 rfl rfl) rfl rfl hl.1 rfl (lv_room (Nat.le_of_ble_eq_true rfl)) d_Nt_insert_25 ⟨Nat.le_of_ble_eq_true rfl, Nat.le_of_ble_eq_true rfl⟩) hP hD hS hA (fun w H locs hw hP hD hS => ?_)
  obtain rfl := hw
  refine lv_aload_n hx hb d_Nt_insert_28 rfl (lv_at hl 0 rfl) ?_
  refine lv_iload_n hx hb d_Nt_insert_29 rfl (lv_at hl 1 rfl) ?_
  obtain ⟨q_5, hq_5, hf⟩ := bd_some hf
  refine kc_v (va_runV (As := [.int x1]) (rest := []) ⟨hx, hb, hml, hown, hts⟩ (c_Nt_fill l D cA cP ob ad x1  q_4 hq_5 H.size) ⟨callB_of 1 hts (gd_Nt_fill) rfl rfl rfl (hts _ (List.mem_cons_of_mem _ wd_69)) (hts _ (List.mem_cons_of_mem _ wd_647)) dd_Nt_fill ⟨Nat.le_of_ble_eq_true rfl, Nat.le_of_ble_eq_true rfl⟩, (hts _ (List.mem_cons_of_mem _ wd_649)), (hts _ (List.mem_cons_of_mem _ wd_23))⟩ (kpV hK hP hD hN hZ hS 3 3 rfl rfl) rfl rfl hl.1 rfl (lv_room (Nat.le_of_ble_eq_true rfl)) d_Nt_insert_30 ⟨Nat.le_of_ble_eq_true rfl, Nat.le_of_ble_eq_true rfl⟩) hP hD hS hA (fun w H locs hw hP hD hS => ?_)
  obtain rfl := hw
  cases hf
  exact hret _ _ _ _ _ rfl hP hD hS d_Nt_insert_33
def f_Nt_insert (x1 : Int32) (x2 : Int32) (S : St) : Option St := f_Nt_insert_0  x1 x2 S
theorem c_Nt_insert (l : Launch) (D : va_G) (cA cP : ClassId) (ob : Nat → Nat) (ad : Nat → Nat → Nat) (x1 : Int32) (x2 : Int32)  (S : St) {res : St} (hf : f_Nt_insert x1 x2 S = some res) : CTv l y_Nt_insert w_Nt_insert rm_Nt_insert 0 0 D clC (TY cA cP) [.ref (ob 3), .int x1, .int x2] (cw cA cP ob ad S) (fun w => w = cw cA cP ob ad res) :=
  mk_v (cc := b_Nt_insert) (maxL := 3) (own := R_Nt) (by decide) rfl rfl (Nat.le_of_ble_eq_true rfl) (fun p e s m below meth c A Q C0 hret ls hl hP hD hS => w_Nt_insert_0 C0 hret   x1 x2 S _ _ ls hP hD hS (lv_sub hl [0, 1, 2] rfl) hf)
def f_Pn_tryToBeginNet_74   : Nat → Int32 → Int32 → St → Option St
  | 0 => fun _ _ _ => none
  | n + 1 => fun x1 x4 S => (if x1 ≤ x4 then
      some S
      else
      bd (f_Pt_x x4 S) (fun q_2 => bd (f_Pt_y x4 q_2.2) (fun q_3 => bd (f_Pt_nearestOf x4 q_2.1 q_3.1 q_3.2) (fun q_4 => bd (f_Nt_insert x4 q_4.1 q_4.2) (fun q_5 => bn (x4 + 1) (fun x4_6 => f_Pn_tryToBeginNet_74  n x1 x4_6 q_5))))))
set_option maxHeartbeats 4000000 in
set_option maxRecDepth 100000 in
theorem w_Pn_tryToBeginNet_74 (C0 : CX p s m args c b_Pn_tryToBeginNet 5 R_Pn w_Pn_tryToBeginNet D clC cA cP A) {res : St} (hret : RTv p l e rm_Pn_tryToBeginNet s m args below meth c Q D clC A b_Pn_tryToBeginNet 0 0 (fun w => w = cw cA cP ob ad res))    : ∀ (n : Nat) (x1 : Int32) (x4 : Int32) (S : St) (H : Heap) (locs : List Loc) (ls : Array Slot), va_P D clC (cw cA cP ob ad S) H → va_D A (cw cA cP ob ad S) → va_S A s.heap H locs → lv_has ls 5 [(0, .ref (ob 0)), (1, .int x1), (4, .int x4)] → f_Pn_tryToBeginNet_74   n x1 x4 S = some res → W p l e rm_Pn_tryToBeginNet s m args below meth c H locs 0 0 Q (F0 m 74 ls []) := by
  obtain ⟨hx, hb, hml, hown, hts, hK, hA, hN, hZ⟩ := id C0
  intro n
  induction n with
  | zero =>
    intro x1 x4 S H locs ls hP hD hS hl hf
    cases hf
  | succ n ih =>
    intro x1 x4 S H locs ls hP hD hS hl hf
    rw [f_Pn_tryToBeginNet_74] at hf
    try dsimp only at hf
    refine lv_iload hx hb d_Pn_tryToBeginNet_74 (lv_at hl 2 rfl) ?_
    refine lv_iload_n hx hb d_Pn_tryToBeginNet_76 rfl (lv_at hl 1 rfl) ?_
    refine lv_icmp_ge (tgt := 122) hx hb d_Pn_tryToBeginNet_77 (by decide) (fun c_1 => ?_) (fun c_1 => ?_)
    · rw [if_pos c_1] at hf
      cases hf
      exact hret _ _ _ _ _ rfl hP hD hS d_Pn_tryToBeginNet_122
    · rw [if_neg c_1] at hf
      refine lv_aload_n hx hb d_Pn_tryToBeginNet_80 rfl (lv_at hl 0 rfl) ?_
      refine va_get (D := D) (ci := 0) (v := .ref (ob 3)) (C := R_Pn) (T := F_Pn) (N := 8) hx hb hts (fun w h => List.mem_cons_of_mem _ (in_Pn w h)) hown hK hP 0 rfl rfl 1 (by decide) (hts _ (List.mem_cons_of_mem _ wd_250)) (fun _ h9 => h9) rfl d_Pn_tryToBeginNet_81 ?_
      refine lv_iload hx hb d_Pn_tryToBeginNet_84 (lv_at hl 2 rfl) ?_
      refine lv_aload_n hx hb d_Pn_tryToBeginNet_86 rfl (lv_at hl 0 rfl) ?_
      refine va_get (D := D) (ci := 0) (v := .ref (ob 1)) (C := R_Pn) (T := F_Pn) (N := 8) hx hb hts (fun w h => List.mem_cons_of_mem _ (in_Pn w h)) hown hK hP 0 rfl rfl 0 (by decide) (hts _ (List.mem_cons_of_mem _ wd_249)) (fun _ h9 => h9) rfl d_Pn_tryToBeginNet_87 ?_
      refine lv_iload hx hb d_Pn_tryToBeginNet_90 (lv_at hl 2 rfl) ?_
      refine lv_aload_n hx hb d_Pn_tryToBeginNet_92 rfl (lv_at hl 0 rfl) ?_
      refine va_get (D := D) (ci := 0) (v := .ref (ob 1)) (C := R_Pn) (T := F_Pn) (N := 8) hx hb hts (fun w h => List.mem_cons_of_mem _ (in_Pn w h)) hown hK hP 0 rfl rfl 0 (by decide) (hts _ (List.mem_cons_of_mem _ wd_249)) (fun _ h9 => h9) rfl d_Pn_tryToBeginNet_93 ?_
      refine lv_iload hx hb d_Pn_tryToBeginNet_96 (lv_at hl 2 rfl) ?_
      obtain ⟨q_2, hq_2, hf⟩ := bd_some hf
      refine kc_i (va_runV (As := [.int x4]) (rest := [.int x4, .ref (ob 1), .int x4, .ref (ob 3)]) ⟨hx, hb, hml, hown, hts⟩ (c_Pt_x l D cA cP ob ad x4  S hq_2 H.size) ⟨callB_of 1 hts (gd_Pt_x) rfl rfl rfl (hts _ (List.mem_cons_of_mem _ wd_65)) (hts _ (List.mem_cons_of_mem _ wd_565)) dd_Pt_x ⟨Nat.le_of_ble_eq_true rfl, Nat.le_of_ble_eq_true rfl⟩, (hts _ (List.mem_cons_of_mem _ wd_401)), (hts _ (List.mem_cons_of_mem _ wd_402))⟩ (kpV hK hP hD hN hZ hS 1 1 rfl rfl) rfl rfl hl.1 rfl (lv_room (Nat.le_of_ble_eq_true rfl)) d_Pn_tryToBeginNet_98 ⟨Nat.le_of_ble_eq_true rfl, Nat.le_of_ble_eq_true rfl⟩) hP hD hS hA (fun r w H locs hw hP hD hS => ?_)
      obtain ⟨rfl, rfl⟩ := hw
      refine lv_aload_n hx hb d_Pn_tryToBeginNet_101 rfl (lv_at hl 0 rfl) ?_
      refine va_get (D := D) (ci := 0) (v := .ref (ob 1)) (C := R_Pn) (T := F_Pn) (N := 8) hx hb hts (fun w h => List.mem_cons_of_mem _ (in_Pn w h)) hown hK hP 0 rfl rfl 0 (by decide) (hts _ (List.mem_cons_of_mem _ wd_249)) (fun _ h9 => h9) rfl d_Pn_tryToBeginNet_102 ?_
      refine lv_iload hx hb d_Pn_tryToBeginNet_105 (lv_at hl 2 rfl) ?_
      obtain ⟨q_3, hq_3, hf⟩ := bd_some hf
      refine kc_i (va_runV (As := [.int x4]) (rest := [.int q_2.1, .int x4, .ref (ob 1), .int x4, .ref (ob 3)]) ⟨hx, hb, hml, hown, hts⟩ (c_Pt_y l D cA cP ob ad x4  q_2.2 hq_3 H.size) ⟨callB_of 1 hts (gd_Pt_y) rfl rfl rfl (hts _ (List.mem_cons_of_mem _ wd_65)) (hts _ (List.mem_cons_of_mem _ wd_566)) dd_Pt_y ⟨Nat.le_of_ble_eq_true rfl, Nat.le_of_ble_eq_true rfl⟩, (hts _ (List.mem_cons_of_mem _ wd_405)), (hts _ (List.mem_cons_of_mem _ wd_406))⟩ (kpV hK hP hD hN hZ hS 1 1 rfl rfl) rfl rfl hl.1 rfl (lv_room (Nat.le_of_ble_eq_true rfl)) d_Pn_tryToBeginNet_107 ⟨Nat.le_of_ble_eq_true rfl, Nat.le_of_ble_eq_true rfl⟩) hP hD hS hA (fun r w H locs hw hP hD hS => ?_)
      obtain ⟨rfl, rfl⟩ := hw
      obtain ⟨q_4, hq_4, hf⟩ := bd_some hf
      refine kc_i (va_runV (As := [.int x4, .int q_2.1, .int q_3.1]) (rest := [.int x4, .ref (ob 3)]) ⟨hx, hb, hml, hown, hts⟩ (c_Pt_nearestOf l D cA cP ob ad x4 q_2.1 q_3.1  q_3.2 hq_4 H.size) ⟨callB_of 3 hts (gd_Pt_nearestOf) rfl rfl rfl (hts _ (List.mem_cons_of_mem _ wd_65)) (hts _ (List.mem_cons_of_mem _ wd_497)) dd_Pt_nearestOf ⟨Nat.le_of_ble_eq_true rfl, Nat.le_of_ble_eq_true rfl⟩, (hts _ (List.mem_cons_of_mem _ wd_498)), (hts _ (List.mem_cons_of_mem _ wd_499))⟩ (kpV hK hP hD hN hZ hS 1 1 rfl rfl) rfl rfl hl.1 rfl (lv_room (Nat.le_of_ble_eq_true rfl)) d_Pn_tryToBeginNet_110 ⟨Nat.le_of_ble_eq_true rfl, Nat.le_of_ble_eq_true rfl⟩) hP hD hS hA (fun r w H locs hw hP hD hS => ?_)
      obtain ⟨rfl, rfl⟩ := hw
      obtain ⟨q_5, hq_5, hf⟩ := bd_some hf
      refine kc_v (va_runV (As := [.int x4, .int q_4.1]) (rest := []) ⟨hx, hb, hml, hown, hts⟩ (c_Nt_insert l D cA cP ob ad x4 q_4.1  q_4.2 hq_5 H.size) ⟨callB_of 2 hts (gd_Nt_insert) rfl rfl rfl (hts _ (List.mem_cons_of_mem _ wd_69)) (hts _ (List.mem_cons_of_mem _ wd_587)) dd_Nt_insert ⟨Nat.le_of_ble_eq_true rfl, Nat.le_of_ble_eq_true rfl⟩, (hts _ (List.mem_cons_of_mem _ wd_588)), (hts _ (List.mem_cons_of_mem _ wd_589))⟩ (kpV hK hP hD hN hZ hS 3 3 rfl rfl) rfl rfl hl.1 rfl (lv_room (Nat.le_of_ble_eq_true rfl)) d_Pn_tryToBeginNet_113 ⟨Nat.le_of_ble_eq_true rfl, Nat.le_of_ble_eq_true rfl⟩) hP hD hS hA (fun w H locs hw hP hD hS => ?_)
      obtain rfl := hw
      obtain ⟨x4_6, ex4_6, hf⟩ := bn_some hf
      refine lv_iinc (v := x4_6) (lv' := [(4, .int x4_6), (0, .ref (ob 0)), (1, .int x1)]) hx hb d_Pn_tryToBeginNet_116 hl (k := 2) rfl (by rw [ex4_6]; rfl) (by decide) rfl (fun ls hl => ?_)
      refine lv_goto (tgt := 74) hx hb d_Pn_tryToBeginNet_119 (by decide) ?_
      exact ih x1 x4_6 q_5 H locs ls hP hD hS (lv_sub hl [1, 2, 0] rfl) hf
def f_Pn_tryToBeginNet_71   (x1 : Int32) (S : St) : Option St :=
  f_Pn_tryToBeginNet_74   FU x1 2 S
set_option maxHeartbeats 4000000 in
set_option maxRecDepth 100000 in
theorem w_Pn_tryToBeginNet_71 (C0 : CX p s m args c b_Pn_tryToBeginNet 5 R_Pn w_Pn_tryToBeginNet D clC cA cP A) {res : St} (hret : RTv p l e rm_Pn_tryToBeginNet s m args below meth c Q D clC A b_Pn_tryToBeginNet 0 0 (fun w => w = cw cA cP ob ad res))    : ∀ (x1 : Int32) (S : St) (H : Heap) (locs : List Loc) (ls : Array Slot), va_P D clC (cw cA cP ob ad S) H → va_D A (cw cA cP ob ad S) → va_S A s.heap H locs → lv_has ls 5 [(0, .ref (ob 0)), (1, .int x1)] → f_Pn_tryToBeginNet_71   x1 S = some res → W p l e rm_Pn_tryToBeginNet s m args below meth c H locs 0 0 Q (F0 m 71 ls []) := by
  obtain ⟨hx, hb, hml, hown, hts, hK, hA, hN, hZ⟩ := id C0
  intro x1 S H locs ls hP hD hS hl hf
  rw [f_Pn_tryToBeginNet_71] at hf
  refine lv_iconst (v := 2) hx hb d_Pn_tryToBeginNet_71 (by decide) ?_
  refine lv_istore (lv' := [(4, .int 2), (0, .ref (ob 0)), (1, .int x1)]) hx hb d_Pn_tryToBeginNet_72 hl (by decide) rfl (fun ls hl => ?_)
  exact w_Pn_tryToBeginNet_74 C0 hret    FU x1 2 S H locs ls hP hD hS (lv_sub hl [1, 2, 0] rfl) hf
def f_Pn_tryToBeginNet_34   (x1 : Int32) (t0 : Int64) (S : St) : Option St :=
  (if (lg_cmp t0 0) = 0 then
    some S
    else
    (if (lg_cmp t0 0) ≤ 0 then
      bd (f_Nt_begin 1 0 x1 S) (fun q_3 => f_Pn_tryToBeginNet_71   x1 q_3)
      else
      bd (f_Nt_begin 0 1 x1 S) (fun q_4 => f_Pn_tryToBeginNet_71   x1 q_4)))
set_option maxHeartbeats 4000000 in
set_option maxRecDepth 100000 in
theorem w_Pn_tryToBeginNet_34 (C0 : CX p s m args c b_Pn_tryToBeginNet 5 R_Pn w_Pn_tryToBeginNet D clC cA cP A) {res : St} (hret : RTv p l e rm_Pn_tryToBeginNet s m args below meth c Q D clC A b_Pn_tryToBeginNet 0 0 (fun w => w = cw cA cP ob ad res))    : ∀ (x1 : Int32) (t0 : Int64) (S : St) (H : Heap) (locs : List Loc) (ls : Array Slot), va_P D clC (cw cA cP ob ad S) H → va_D A (cw cA cP ob ad S) → va_S A s.heap H locs → lv_has ls 5 [(0, .ref (ob 0)), (1, .int x1)] → f_Pn_tryToBeginNet_34   x1 t0 S = some res → W p l e rm_Pn_tryToBeginNet s m args below meth c H locs 0 0 Q (F0 m 34 ls [.long t0]) := by
  obtain ⟨hx, hb, hml, hown, hts, hK, hA, hN, hZ⟩ := id C0
  intro x1 t0 S H locs ls hP hD hS hl hf
  rw [f_Pn_tryToBeginNet_34] at hf
  refine lv_lstore_n (lv' := [(2, .long t0), (0, .ref (ob 0)), (1, .int x1)]) hx hb d_Pn_tryToBeginNet_34 rfl hl (by decide) rfl (fun ls hl => ?_)
  refine lv_lload_n hx hb d_Pn_tryToBeginNet_35 rfl (lv_at hl 0 rfl) ?_
  refine lv_lconst (v := 0) hx hb d_Pn_tryToBeginNet_36 (by decide) ?_
  refine W.lcmp hx hb d_Pn_tryToBeginNet_37 ?_
  refine lv_if_ne (tgt := 42) hx hb d_Pn_tryToBeginNet_38 (by decide) (fun c_1 => ?_) (fun c_1 => ?_)
  · rw [if_neg c_1] at hf
    refine lv_lload_n hx hb d_Pn_tryToBeginNet_42 rfl (lv_at hl 0 rfl) ?_
    refine lv_lconst (v := 0) hx hb d_Pn_tryToBeginNet_43 (by decide) ?_
    refine W.lcmp hx hb d_Pn_tryToBeginNet_44 ?_
    refine lv_if_le (tgt := 61) hx hb d_Pn_tryToBeginNet_45 (by decide) (fun c_2 => ?_) (fun c_2 => ?_)
    · rw [if_pos c_2] at hf
      refine lv_aload_n hx hb d_Pn_tryToBeginNet_61 rfl (lv_at hl 1 rfl) ?_
      refine va_get (D := D) (ci := 0) (v := .ref (ob 3)) (C := R_Pn) (T := F_Pn) (N := 8) hx hb hts (fun w h => List.mem_cons_of_mem _ (in_Pn w h)) hown hK hP 0 rfl rfl 1 (by decide) (hts _ (List.mem_cons_of_mem _ wd_250)) (fun _ h9 => h9) rfl d_Pn_tryToBeginNet_62 ?_
      refine lv_iconst (v := 1) hx hb d_Pn_tryToBeginNet_65 (by decide) ?_
      refine lv_iconst (v := 0) hx hb d_Pn_tryToBeginNet_66 (by decide) ?_
      refine lv_iload_n hx hb d_Pn_tryToBeginNet_67 rfl (lv_at hl 2 rfl) ?_
      obtain ⟨q_3, hq_3, hf⟩ := bd_some hf
      refine kc_v (va_runV (As := [.int 1, .int 0, .int x1]) (rest := []) ⟨hx, hb, hml, hown, hts⟩ (c_Nt_begin l D cA cP ob ad 1 0 x1  S hq_3 H.size) ⟨callB_of 3 hts (gd_Nt_begin) rfl rfl rfl (hts _ (List.mem_cons_of_mem _ wd_69)) (hts _ (List.mem_cons_of_mem _ wd_574)) dd_Nt_begin ⟨Nat.le_of_ble_eq_true rfl, Nat.le_of_ble_eq_true rfl⟩, (hts _ (List.mem_cons_of_mem _ wd_575)), (hts _ (List.mem_cons_of_mem _ wd_576))⟩ (kpV hK hP hD hN hZ hS 3 3 rfl rfl) rfl rfl hl.1 rfl (lv_room (Nat.le_of_ble_eq_true rfl)) d_Pn_tryToBeginNet_68 ⟨Nat.le_of_ble_eq_true rfl, Nat.le_of_ble_eq_true rfl⟩) hP hD hS hA (fun w H locs hw hP hD hS => ?_)
      obtain rfl := hw
      exact w_Pn_tryToBeginNet_71 C0 hret    x1 q_3 H locs ls hP hD hS (lv_sub hl [1, 2] rfl) hf
    · rw [if_neg c_2] at hf
      refine lv_aload_n hx hb d_Pn_tryToBeginNet_48 rfl (lv_at hl 1 rfl) ?_
      refine va_get (D := D) (ci := 0) (v := .ref (ob 3)) (C := R_Pn) (T := F_Pn) (N := 8) hx hb hts (fun w h => List.mem_cons_of_mem _ (in_Pn w h)) hown hK hP 0 rfl rfl 1 (by decide) (hts _ (List.mem_cons_of_mem _ wd_250)) (fun _ h9 => h9) rfl d_Pn_tryToBeginNet_49 ?_
      refine lv_iconst (v := 0) hx hb d_Pn_tryToBeginNet_52 (by decide) ?_
      refine lv_iconst (v := 1) hx hb d_Pn_tryToBeginNet_53 (by decide) ?_
      refine lv_iload_n hx hb d_Pn_tryToBeginNet_54 rfl (lv_at hl 2 rfl) ?_
      obtain ⟨q_4, hq_4, hf⟩ := bd_some hf
      refine kc_v (va_runV (As := [.int 0, .int 1, .int x1]) (rest := []) ⟨hx, hb, hml, hown, hts⟩ (c_Nt_begin l D cA cP ob ad 0 1 x1  S hq_4 H.size) ⟨callB_of 3 hts (gd_Nt_begin) rfl rfl rfl (hts _ (List.mem_cons_of_mem _ wd_69)) (hts _ (List.mem_cons_of_mem _ wd_574)) dd_Nt_begin ⟨Nat.le_of_ble_eq_true rfl, Nat.le_of_ble_eq_true rfl⟩, (hts _ (List.mem_cons_of_mem _ wd_575)), (hts _ (List.mem_cons_of_mem _ wd_576))⟩ (kpV hK hP hD hN hZ hS 3 3 rfl rfl) rfl rfl hl.1 rfl (lv_room (Nat.le_of_ble_eq_true rfl)) d_Pn_tryToBeginNet_55 ⟨Nat.le_of_ble_eq_true rfl, Nat.le_of_ble_eq_true rfl⟩) hP hD hS hA (fun w H locs hw hP hD hS => ?_)
      obtain rfl := hw
      refine lv_goto (tgt := 71) hx hb d_Pn_tryToBeginNet_58 (by decide) ?_
      exact w_Pn_tryToBeginNet_71 C0 hret    x1 q_4 H locs ls hP hD hS (lv_sub hl [1, 2] rfl) hf
  · rw [if_pos c_1] at hf
    cases hf
    exact hret _ _ _ _ _ rfl hP hD hS d_Pn_tryToBeginNet_41
def f_Pn_tryToBeginNet_0   (x1 : Int32) (S : St) : Option St :=
  (if 2 ≤ x1 then
    bd (f_Pt_x x1 S) (fun q_2 => bd (f_Pt_y x1 q_2.2) (fun q_3 => bd (f_Pt_turn 0 1 q_2.1 q_3.1 q_3.2) (fun q_4 => f_Pn_tryToBeginNet_34   x1 q_4.1 q_4.2)))
    else
    f_Pn_tryToBeginNet_34   x1 0 S)
set_option maxHeartbeats 4000000 in
set_option maxRecDepth 100000 in
theorem w_Pn_tryToBeginNet_0 (C0 : CX p s m args c b_Pn_tryToBeginNet 5 R_Pn w_Pn_tryToBeginNet D clC cA cP A) {res : St} (hret : RTv p l e rm_Pn_tryToBeginNet s m args below meth c Q D clC A b_Pn_tryToBeginNet 0 0 (fun w => w = cw cA cP ob ad res))    : ∀ (x1 : Int32) (S : St) (H : Heap) (locs : List Loc) (ls : Array Slot), va_P D clC (cw cA cP ob ad S) H → va_D A (cw cA cP ob ad S) → va_S A s.heap H locs → lv_has ls 5 [(0, .ref (ob 0)), (1, .int x1)] → f_Pn_tryToBeginNet_0   x1 S = some res → W p l e rm_Pn_tryToBeginNet s m args below meth c H locs 0 0 Q (F0 m 0 ls []) := by
  obtain ⟨hx, hb, hml, hown, hts, hK, hA, hN, hZ⟩ := id C0
  intro x1 S H locs ls hP hD hS hl hf
  rw [f_Pn_tryToBeginNet_0] at hf
  refine lv_iload_n hx hb d_Pn_tryToBeginNet_0 rfl (lv_at hl 1 rfl) ?_
  refine lv_iconst (v := 2) hx hb d_Pn_tryToBeginNet_1 (by decide) ?_
  refine lv_icmp_ge (tgt := 9) hx hb d_Pn_tryToBeginNet_2 (by decide) (fun c_1 => ?_) (fun c_1 => ?_)
  · rw [if_pos c_1] at hf
    refine lv_aload_n hx hb d_Pn_tryToBeginNet_9 rfl (lv_at hl 0 rfl) ?_
    refine va_get (D := D) (ci := 0) (v := .ref (ob 1)) (C := R_Pn) (T := F_Pn) (N := 8) hx hb hts (fun w h => List.mem_cons_of_mem _ (in_Pn w h)) hown hK hP 0 rfl rfl 0 (by decide) (hts _ (List.mem_cons_of_mem _ wd_249)) (fun _ h9 => h9) rfl d_Pn_tryToBeginNet_10 ?_
    refine lv_iconst (v := 0) hx hb d_Pn_tryToBeginNet_13 (by decide) ?_
    refine lv_iconst (v := 1) hx hb d_Pn_tryToBeginNet_14 (by decide) ?_
    refine lv_aload_n hx hb d_Pn_tryToBeginNet_15 rfl (lv_at hl 0 rfl) ?_
    refine va_get (D := D) (ci := 0) (v := .ref (ob 1)) (C := R_Pn) (T := F_Pn) (N := 8) hx hb hts (fun w h => List.mem_cons_of_mem _ (in_Pn w h)) hown hK hP 0 rfl rfl 0 (by decide) (hts _ (List.mem_cons_of_mem _ wd_249)) (fun _ h9 => h9) rfl d_Pn_tryToBeginNet_16 ?_
    refine lv_iload_n hx hb d_Pn_tryToBeginNet_19 rfl (lv_at hl 1 rfl) ?_
    obtain ⟨q_2, hq_2, hf⟩ := bd_some hf
    refine kc_i (va_runV (As := [.int x1]) (rest := [.int 1, .int 0, .ref (ob 1)]) ⟨hx, hb, hml, hown, hts⟩ (c_Pt_x l D cA cP ob ad x1  S hq_2 H.size) ⟨callB_of 1 hts (gd_Pt_x) rfl rfl rfl (hts _ (List.mem_cons_of_mem _ wd_65)) (hts _ (List.mem_cons_of_mem _ wd_565)) dd_Pt_x ⟨Nat.le_of_ble_eq_true rfl, Nat.le_of_ble_eq_true rfl⟩, (hts _ (List.mem_cons_of_mem _ wd_401)), (hts _ (List.mem_cons_of_mem _ wd_402))⟩ (kpV hK hP hD hN hZ hS 1 1 rfl rfl) rfl rfl hl.1 rfl (lv_room (Nat.le_of_ble_eq_true rfl)) d_Pn_tryToBeginNet_20 ⟨Nat.le_of_ble_eq_true rfl, Nat.le_of_ble_eq_true rfl⟩) hP hD hS hA (fun r w H locs hw hP hD hS => ?_)
    obtain ⟨rfl, rfl⟩ := hw
    refine lv_aload_n hx hb d_Pn_tryToBeginNet_23 rfl (lv_at hl 0 rfl) ?_
    refine va_get (D := D) (ci := 0) (v := .ref (ob 1)) (C := R_Pn) (T := F_Pn) (N := 8) hx hb hts (fun w h => List.mem_cons_of_mem _ (in_Pn w h)) hown hK hP 0 rfl rfl 0 (by decide) (hts _ (List.mem_cons_of_mem _ wd_249)) (fun _ h9 => h9) rfl d_Pn_tryToBeginNet_24 ?_
    refine lv_iload_n hx hb d_Pn_tryToBeginNet_27 rfl (lv_at hl 1 rfl) ?_
    obtain ⟨q_3, hq_3, hf⟩ := bd_some hf
    refine kc_i (va_runV (As := [.int x1]) (rest := [.int q_2.1, .int 1, .int 0, .ref (ob 1)]) ⟨hx, hb, hml, hown, hts⟩ (c_Pt_y l D cA cP ob ad x1  q_2.2 hq_3 H.size) ⟨callB_of 1 hts (gd_Pt_y) rfl rfl rfl (hts _ (List.mem_cons_of_mem _ wd_65)) (hts _ (List.mem_cons_of_mem _ wd_566)) dd_Pt_y ⟨Nat.le_of_ble_eq_true rfl, Nat.le_of_ble_eq_true rfl⟩, (hts _ (List.mem_cons_of_mem _ wd_405)), (hts _ (List.mem_cons_of_mem _ wd_406))⟩ (kpV hK hP hD hN hZ hS 1 1 rfl rfl) rfl rfl hl.1 rfl (lv_room (Nat.le_of_ble_eq_true rfl)) d_Pn_tryToBeginNet_28 ⟨Nat.le_of_ble_eq_true rfl, Nat.le_of_ble_eq_true rfl⟩) hP hD hS hA (fun r w H locs hw hP hD hS => ?_)
    obtain ⟨rfl, rfl⟩ := hw
    obtain ⟨q_4, hq_4, hf⟩ := bd_some hf
    refine kc_l (va_runV (As := [.int 0, .int 1, .int q_2.1, .int q_3.1]) (rest := []) ⟨hx, hb, hml, hown, hts⟩ (c_Pt_turn l D cA cP ob ad 0 1 q_2.1 q_3.1  q_3.2 hq_4 H.size) ⟨callB_of 4 hts (gd_Pt_turn) rfl rfl rfl (hts _ (List.mem_cons_of_mem _ wd_65)) (hts _ (List.mem_cons_of_mem _ wd_573)) dd_Pt_turn ⟨Nat.le_of_ble_eq_true rfl, Nat.le_of_ble_eq_true rfl⟩, (hts _ (List.mem_cons_of_mem _ wd_409)), (hts _ (List.mem_cons_of_mem _ wd_410))⟩ (kpV hK hP hD hN hZ hS 1 1 rfl rfl) rfl rfl hl.1 rfl (lv_room (Nat.le_of_ble_eq_true rfl)) d_Pn_tryToBeginNet_31 ⟨Nat.le_of_ble_eq_true rfl, Nat.le_of_ble_eq_true rfl⟩) hP hD hS hA (fun r w H locs hw hP hD hS => ?_)
    obtain ⟨rfl, rfl⟩ := hw
    exact w_Pn_tryToBeginNet_34 C0 hret    x1 q_4.1 q_4.2 H locs ls hP hD hS (lv_sub hl [0, 1] rfl) hf
  · rw [if_neg c_1] at hf
    refine lv_lconst (v := 0) hx hb d_Pn_tryToBeginNet_5 (by decide) ?_
    refine lv_goto (tgt := 34) hx hb d_Pn_tryToBeginNet_6 (by decide) ?_
    exact w_Pn_tryToBeginNet_34 C0 hret    x1 0 S H locs ls hP hD hS (lv_sub hl [0, 1] rfl) hf
def f_Pn_tryToBeginNet (x1 : Int32) (S : St) : Option St := f_Pn_tryToBeginNet_0  x1 S
theorem c_Pn_tryToBeginNet (l : Launch) (D : va_G) (cA cP : ClassId) (ob : Nat → Nat) (ad : Nat → Nat → Nat) (x1 : Int32)  (S : St) {res : St} (hf : f_Pn_tryToBeginNet x1 S = some res) : CTv l y_Pn_tryToBeginNet w_Pn_tryToBeginNet rm_Pn_tryToBeginNet 0 0 D clC (TY cA cP) [.ref (ob 0), .int x1] (cw cA cP ob ad S) (fun w => w = cw cA cP ob ad res) :=
  mk_v (cc := b_Pn_tryToBeginNet) (maxL := 5) (own := R_Pn) (by decide) rfl rfl (Nat.le_of_ble_eq_true rfl) (fun p e s m below meth c A Q C0 hret ls hl hP hD hS => w_Pn_tryToBeginNet_0 C0 hret   x1 S _ _ ls hP hD hS (lv_sub hl [0, 1] rfl) hf)
def f_Pn_forgetFound_0    (S : St) : Option St :=
  bd (f_Ar_fill 30 (-1) S) (fun q_1 => some q_1)
set_option maxHeartbeats 4000000 in
set_option maxRecDepth 100000 in
theorem w_Pn_forgetFound_0 (C0 : CX p s m args c b_Pn_forgetFound 1 R_Pn w_Pn_forgetFound D clC cA cP A) {res : St} (hret : RTv p l e rm_Pn_forgetFound s m args below meth c Q D clC A b_Pn_forgetFound 0 0 (fun w => w = cw cA cP ob ad res))    : ∀  (S : St) (H : Heap) (locs : List Loc) (ls : Array Slot), va_P D clC (cw cA cP ob ad S) H → va_D A (cw cA cP ob ad S) → va_S A s.heap H locs → lv_has ls 1 [(0, .ref (ob 0))] → f_Pn_forgetFound_0    S = some res → W p l e rm_Pn_forgetFound s m args below meth c H locs 0 0 Q (F0 m 0 ls []) := by
  obtain ⟨hx, hb, hml, hown, hts, hK, hA, hN, hZ⟩ := id C0
  intro  S H locs ls hP hD hS hl hf
  rw [f_Pn_forgetFound_0] at hf
  refine lv_aload_n hx hb d_Pn_forgetFound_0 rfl (lv_at hl 0 rfl) ?_
  refine va_get (D := D) (ci := 0) (v := .ref (ob 30)) (C := R_Pn) (T := F_Pn) (N := 8) hx hb hts (fun w h => List.mem_cons_of_mem _ (in_Pn w h)) hown hK hP 0 rfl rfl 4 (by decide) (hts _ (List.mem_cons_of_mem _ wd_253)) (fun _ h9 => h9) rfl d_Pn_forgetFound_1 ?_
  refine lv_iconst (v := (-1)) hx hb d_Pn_forgetFound_4 (by decide) ?_
  obtain ⟨q_1, hq_1, hf⟩ := bd_some hf
  refine kc_v (va_runS (As := [.ref (ob 30), .int (-1)]) (rest := []) ⟨hx, hb, hml, hown, hts⟩ (c_Ar_fill l D cA cP ob ad 30 (-1) (by decide) S hq_1 H.size) ⟨callB_of 2 hts (gd_Ar_fill) rfl rfl rfl (hts _ (List.mem_cons_of_mem _ wd_78)) (hts _ (List.mem_cons_of_mem _ wd_291)) dd_Ar_fill ⟨Nat.le_of_ble_eq_true rfl, Nat.le_of_ble_eq_true rfl⟩, (hts _ (List.mem_cons_of_mem _ wd_292))⟩ (kpS hK hP hD hN hZ hS) rfl rfl hl.1 rfl (lv_room (Nat.le_of_ble_eq_true rfl)) d_Pn_forgetFound_5 ⟨Nat.le_of_ble_eq_true rfl, Nat.le_of_ble_eq_true rfl⟩) hP hD hS hA (fun w H locs hw hP hD hS => ?_)
  obtain rfl := hw
  cases hf
  exact hret _ _ _ _ _ rfl hP hD hS d_Pn_forgetFound_8
def f_Pn_forgetFound  (S : St) : Option St := f_Pn_forgetFound_0   S
theorem c_Pn_forgetFound (l : Launch) (D : va_G) (cA cP : ClassId) (ob : Nat → Nat) (ad : Nat → Nat → Nat)   (S : St) {res : St} (hf : f_Pn_forgetFound  S = some res) : CTv l y_Pn_forgetFound w_Pn_forgetFound rm_Pn_forgetFound 0 0 D clC (TY cA cP) [.ref (ob 0)] (cw cA cP ob ad S) (fun w => w = cw cA cP ob ad res) :=
  mk_v (cc := b_Pn_forgetFound) (maxL := 1) (own := R_Pn) (by decide) rfl rfl (Nat.le_of_ble_eq_true rfl) (fun p e s m below meth c A Q C0 hret ls hl hP hD hS => w_Pn_forgetFound_0 C0 hret    S _ _ ls hP hD hS (lv_sub hl [0] rfl) hf)
def f_Rl_forget_0    (S : St) : Option St :=
  bn (seti S 10 0) (fun S_1 => some S_1)
set_option maxHeartbeats 4000000 in
set_option maxRecDepth 100000 in
theorem w_Rl_forget_0 (C0 : CX p s m args c b_Rl_forget 1 R_Rl w_Rl_forget D clC cA cP A) {res : St} (hret : RTv p l e rm_Rl_forget s m args below meth c Q D clC A b_Rl_forget 0 0 (fun w => w = cw cA cP ob ad res))    : ∀  (S : St) (H : Heap) (locs : List Loc) (ls : Array Slot), va_P D clC (cw cA cP ob ad S) H → va_D A (cw cA cP ob ad S) → va_S A s.heap H locs → lv_has ls 1 [(0, .ref (ob 4))] → f_Rl_forget_0    S = some res → W p l e rm_Rl_forget s m args below meth c H locs 0 0 Q (F0 m 0 ls []) := by
  obtain ⟨hx, hb, hml, hown, hts, hK, hA, hN, hZ⟩ := id C0
  intro  S H locs ls hP hD hS hl hf
  rw [f_Rl_forget_0] at hf
  refine lv_aload_n hx hb d_Rl_forget_0 rfl (lv_at hl 0 rfl) ?_
  refine lv_iconst (v := 0) hx hb d_Rl_forget_1 (by decide) ?_
  obtain ⟨S_1, eS_1, hf⟩ := bn_some hf
  refine va_put (D := D) (ci := 4) (v := .int 0) (ty := .boolean) (C := R_Rl) (T := F_Rl) (N := 6) hx hb hts (fun w h => List.mem_cons_of_mem _ (in_Rl w h)) t_Rl tk_Rl nk_Rl hown hK hP hD hS 4 rfl rfl 5 (by decide) (hts _ (List.mem_cons_of_mem _ wd_211)) (fun _ h9 => h9) rfl (by decide +kernel) rfl rfl (Nat.le_of_ble_eq_true rfl) d_Rl_forget_2 (fun H locs hP hD hS => ?_)
  have hP : va_P D clC (cw cA cP ob ad S_1) H := by rw [eS_1]; exact hP
  have hD : va_D A (cw cA cP ob ad S_1) := by rw [eS_1]; exact hD
  cases hf
  exact hret _ _ _ _ _ rfl hP hD hS d_Rl_forget_5
def f_Rl_forget  (S : St) : Option St := f_Rl_forget_0   S
theorem c_Rl_forget (l : Launch) (D : va_G) (cA cP : ClassId) (ob : Nat → Nat) (ad : Nat → Nat → Nat)   (S : St) {res : St} (hf : f_Rl_forget  S = some res) : CTv l y_Rl_forget w_Rl_forget rm_Rl_forget 0 0 D clC (TY cA cP) [.ref (ob 4)] (cw cA cP ob ad S) (fun w => w = cw cA cP ob ad res) :=
  mk_v (cc := b_Rl_forget) (maxL := 1) (own := R_Rl) (by decide) rfl rfl (Nat.le_of_ble_eq_true rfl) (fun p e s m below meth c A Q C0 hret ls hl hP hD hS => w_Rl_forget_0 C0 hret    S _ _ ls hP hD hS (lv_sub hl [0] rfl) hf)
def f_Ol_forget_0    (S : St) : Option St :=
  bn (seti S 12 0) (fun S_1 => some S_1)
set_option maxHeartbeats 4000000 in
set_option maxRecDepth 100000 in
theorem w_Ol_forget_0 (C0 : CX p s m args c b_Ol_forget 1 R_Ol w_Ol_forget D clC cA cP A) {res : St} (hret : RTv p l e rm_Ol_forget s m args below meth c Q D clC A b_Ol_forget 0 0 (fun w => w = cw cA cP ob ad res))    : ∀  (S : St) (H : Heap) (locs : List Loc) (ls : Array Slot), va_P D clC (cw cA cP ob ad S) H → va_D A (cw cA cP ob ad S) → va_S A s.heap H locs → lv_has ls 1 [(0, .ref (ob 5))] → f_Ol_forget_0    S = some res → W p l e rm_Ol_forget s m args below meth c H locs 0 0 Q (F0 m 0 ls []) := by
  obtain ⟨hx, hb, hml, hown, hts, hK, hA, hN, hZ⟩ := id C0
  intro  S H locs ls hP hD hS hl hf
  rw [f_Ol_forget_0] at hf
  refine lv_aload_n hx hb d_Ol_forget_0 rfl (lv_at hl 0 rfl) ?_
  refine lv_iconst (v := 0) hx hb d_Ol_forget_1 (by decide) ?_
  obtain ⟨S_1, eS_1, hf⟩ := bn_some hf
  refine va_put (D := D) (ci := 5) (v := .int 0) (ty := .boolean) (C := R_Ol) (T := F_Ol) (N := 5) hx hb hts (fun w h => List.mem_cons_of_mem _ (in_Ol w h)) t_Ol tk_Ol nk_Ol hown hK hP hD hS 5 rfl rfl 4 (by decide) (hts _ (List.mem_cons_of_mem _ wd_237)) (fun _ h9 => h9) rfl (by decide +kernel) rfl rfl (Nat.le_of_ble_eq_true rfl) d_Ol_forget_2 (fun H locs hP hD hS => ?_)
  have hP : va_P D clC (cw cA cP ob ad S_1) H := by rw [eS_1]; exact hP
  have hD : va_D A (cw cA cP ob ad S_1) := by rw [eS_1]; exact hD
  cases hf
  exact hret _ _ _ _ _ rfl hP hD hS d_Ol_forget_5
def f_Ol_forget  (S : St) : Option St := f_Ol_forget_0   S
theorem c_Ol_forget (l : Launch) (D : va_G) (cA cP : ClassId) (ob : Nat → Nat) (ad : Nat → Nat → Nat)   (S : St) {res : St} (hf : f_Ol_forget  S = some res) : CTv l y_Ol_forget w_Ol_forget rm_Ol_forget 0 0 D clC (TY cA cP) [.ref (ob 5)] (cw cA cP ob ad S) (fun w => w = cw cA cP ob ad res) :=
  mk_v (cc := b_Ol_forget) (maxL := 1) (own := R_Ol) (by decide) rfl rfl (Nat.le_of_ble_eq_true rfl) (fun p e s m below meth c A Q C0 hret ls hl hP hD hS => w_Ol_forget_0 C0 hret    S _ _ ls hP hD hS (lv_sub hl [0] rfl) hf)
def f_Pn_forgetAnswers_0    (S : St) : Option St :=
  bd (f_Pn_forgetFound  S) (fun q_1 => bd (f_Rl_forget  q_1) (fun q_2 => bd (f_Ol_forget  q_2) (fun q_3 => some q_3)))
set_option maxHeartbeats 4000000 in
set_option maxRecDepth 100000 in
theorem w_Pn_forgetAnswers_0 (C0 : CX p s m args c b_Pn_forgetAnswers 1 R_Pn w_Pn_forgetAnswers D clC cA cP A) {res : St} (hret : RTv p l e rm_Pn_forgetAnswers s m args below meth c Q D clC A b_Pn_forgetAnswers 0 0 (fun w => w = cw cA cP ob ad res))    : ∀  (S : St) (H : Heap) (locs : List Loc) (ls : Array Slot), va_P D clC (cw cA cP ob ad S) H → va_D A (cw cA cP ob ad S) → va_S A s.heap H locs → lv_has ls 1 [(0, .ref (ob 0))] → f_Pn_forgetAnswers_0    S = some res → W p l e rm_Pn_forgetAnswers s m args below meth c H locs 0 0 Q (F0 m 0 ls []) := by
  obtain ⟨hx, hb, hml, hown, hts, hK, hA, hN, hZ⟩ := id C0
  intro  S H locs ls hP hD hS hl hf
  rw [f_Pn_forgetAnswers_0] at hf
  refine lv_aload_n hx hb d_Pn_forgetAnswers_0 rfl (lv_at hl 0 rfl) ?_
  obtain ⟨q_1, hq_1, hf⟩ := bd_some hf
  refine kc_v (va_runV (As := []) (rest := []) ⟨hx, hb, hml, hown, hts⟩ (c_Pn_forgetFound l D cA cP ob ad   S hq_1 H.size) ⟨callB_of 0 hts (gd_Pn_forgetFound) rfl rfl rfl (hts _ (List.mem_cons_of_mem _ wd_64)) (hts _ (List.mem_cons_of_mem _ wd_287)) dd_Pn_forgetFound ⟨Nat.le_of_ble_eq_true rfl, Nat.le_of_ble_eq_true rfl⟩, (hts _ (List.mem_cons_of_mem _ wd_289)), (hts _ (List.mem_cons_of_mem _ wd_1))⟩ (kpV hK hP hD hN hZ hS 0 0 rfl rfl) rfl rfl hl.1 rfl (lv_room (Nat.le_of_ble_eq_true rfl)) d_Pn_forgetAnswers_1 ⟨Nat.le_of_ble_eq_true rfl, Nat.le_of_ble_eq_true rfl⟩) hP hD hS hA (fun w H locs hw hP hD hS => ?_)
  obtain rfl := hw
  refine lv_aload_n hx hb d_Pn_forgetAnswers_4 rfl (lv_at hl 0 rfl) ?_
  refine va_get (D := D) (ci := 0) (v := .ref (ob 4)) (C := R_Pn) (T := F_Pn) (N := 8) hx hb hts (fun w h => List.mem_cons_of_mem _ (in_Pn w h)) hown hK hP 0 rfl rfl 2 (by decide) (hts _ (List.mem_cons_of_mem _ wd_251)) (fun _ h9 => h9) rfl d_Pn_forgetAnswers_5 ?_
  obtain ⟨q_2, hq_2, hf⟩ := bd_some hf
  refine kc_v (va_runV (As := []) (rest := []) ⟨hx, hb, hml, hown, hts⟩ (c_Rl_forget l D cA cP ob ad   q_1 hq_2 H.size) ⟨callB_of 0 hts (gd_Rl_forget) rfl rfl rfl (hts _ (List.mem_cons_of_mem _ wd_70)) (hts _ (List.mem_cons_of_mem _ wd_294)) dd_Rl_forget ⟨Nat.le_of_ble_eq_true rfl, Nat.le_of_ble_eq_true rfl⟩, (hts _ (List.mem_cons_of_mem _ wd_295)), (hts _ (List.mem_cons_of_mem _ wd_296))⟩ (kpV hK hP hD hN hZ hS 4 4 rfl rfl) rfl rfl hl.1 rfl (lv_room (Nat.le_of_ble_eq_true rfl)) d_Pn_forgetAnswers_8 ⟨Nat.le_of_ble_eq_true rfl, Nat.le_of_ble_eq_true rfl⟩) hP hD hS hA (fun w H locs hw hP hD hS => ?_)
  obtain rfl := hw
  refine lv_aload_n hx hb d_Pn_forgetAnswers_11 rfl (lv_at hl 0 rfl) ?_
  refine va_get (D := D) (ci := 0) (v := .ref (ob 5)) (C := R_Pn) (T := F_Pn) (N := 8) hx hb hts (fun w h => List.mem_cons_of_mem _ (in_Pn w h)) hown hK hP 0 rfl rfl 3 (by decide) (hts _ (List.mem_cons_of_mem _ wd_252)) (fun _ h9 => h9) rfl d_Pn_forgetAnswers_12 ?_
  obtain ⟨q_3, hq_3, hf⟩ := bd_some hf
  refine kc_v (va_runV (As := []) (rest := []) ⟨hx, hb, hml, hown, hts⟩ (c_Ol_forget l D cA cP ob ad   q_2 hq_3 H.size) ⟨callB_of 0 hts (gd_Ol_forget) rfl rfl rfl (hts _ (List.mem_cons_of_mem _ wd_71)) (hts _ (List.mem_cons_of_mem _ wd_298)) dd_Ol_forget ⟨Nat.le_of_ble_eq_true rfl, Nat.le_of_ble_eq_true rfl⟩, (hts _ (List.mem_cons_of_mem _ wd_299)), (hts _ (List.mem_cons_of_mem _ wd_300))⟩ (kpV hK hP hD hN hZ hS 5 5 rfl rfl) rfl rfl hl.1 rfl (lv_room (Nat.le_of_ble_eq_true rfl)) d_Pn_forgetAnswers_15 ⟨Nat.le_of_ble_eq_true rfl, Nat.le_of_ble_eq_true rfl⟩) hP hD hS hA (fun w H locs hw hP hD hS => ?_)
  obtain rfl := hw
  cases hf
  exact hret _ _ _ _ _ rfl hP hD hS d_Pn_forgetAnswers_18
def f_Pn_forgetAnswers  (S : St) : Option St := f_Pn_forgetAnswers_0   S
theorem c_Pn_forgetAnswers (l : Launch) (D : va_G) (cA cP : ClassId) (ob : Nat → Nat) (ad : Nat → Nat → Nat)   (S : St) {res : St} (hf : f_Pn_forgetAnswers  S = some res) : CTv l y_Pn_forgetAnswers w_Pn_forgetAnswers rm_Pn_forgetAnswers 0 0 D clC (TY cA cP) [.ref (ob 0)] (cw cA cP ob ad S) (fun w => w = cw cA cP ob ad res) :=
  mk_v (cc := b_Pn_forgetAnswers) (maxL := 1) (own := R_Pn) (by decide) rfl rfl (Nat.le_of_ble_eq_true rfl) (fun p e s m below meth c A Q C0 hret ls hl hP hD hS => w_Pn_forgetAnswers_0 C0 hret    S _ _ ls hP hD hS (lv_sub hl [0] rfl) hf)
def f_Pn_add_117   (x4 : Int32) (S : St) : Option (Int32 × St) :=
  bd (f_Pn_forgetAnswers  S) (fun q_1 => some (x4, q_1))
set_option maxHeartbeats 4000000 in
set_option maxRecDepth 100000 in
theorem w_Pn_add_117 (C0 : CX p s m args c b_Pn_add 5 R_Pn w_Pn_add D clC cA cP A) {res : (Int32 × St)} (hret : RTi p l e rm_Pn_add s m args below meth c Q D clC A b_Pn_add 12 384 (fun r w => r = res.1 ∧ ∃ ad, w = cw cA cP ob ad res.2))    : ∀ (x4 : Int32) (S : St) (ad : Nat → Nat → Nat) (H : Heap) (locs : List Loc) (ls : Array Slot), va_P D clC (cw cA cP ob ad S) H → va_D A (cw cA cP ob ad S) → va_S A s.heap H locs → lv_has ls 5 [(0, .ref (ob 0)), (4, .int x4)] → f_Pn_add_117   x4 S = some res → W p l e rm_Pn_add s m args below meth c H locs 12 384 Q (F0 m 117 ls []) := by
  obtain ⟨hx, hb, hml, hown, hts, hK, hA, hN, hZ⟩ := id C0
  intro x4 S ad H locs ls hP hD hS hl hf
  rw [f_Pn_add_117] at hf
  refine lv_aload_n hx hb d_Pn_add_117 rfl (lv_at hl 0 rfl) ?_
  obtain ⟨q_1, hq_1, hf⟩ := bd_some hf
  refine kc_v (va_runV (As := []) (rest := []) ⟨hx, hb, hml, hown, hts⟩ (c_Pn_forgetAnswers l D cA cP ob ad   S hq_1 H.size) ⟨callB_of 0 hts (gd_Pn_forgetAnswers) rfl rfl rfl (hts _ (List.mem_cons_of_mem _ wd_64)) (hts _ (List.mem_cons_of_mem _ wd_283)) dd_Pn_forgetAnswers ⟨Nat.le_of_ble_eq_true rfl, Nat.le_of_ble_eq_true rfl⟩, (hts _ (List.mem_cons_of_mem _ wd_285)), (hts _ (List.mem_cons_of_mem _ wd_0))⟩ (kpV hK hP hD hN hZ hS 0 0 rfl rfl) rfl rfl hl.1 rfl (lv_room (Nat.le_of_ble_eq_true rfl)) d_Pn_add_118 ⟨by decide +kernel, by decide +kernel⟩) hP hD hS hA (fun w H locs hw hP hD hS => ?_)
  obtain rfl := hw
  refine lv_iload hx hb d_Pn_add_121 (lv_at hl 1 rfl) ?_
  cases hf
  exact hret _ _ _ _ _ _ ⟨rfl, ad, rfl⟩ hP hD hS d_Pn_add_123
def f_Pn_add_0   (x1 : Int32) (x2 : Int32) (S : St) : Option (Int32 × St) :=
  bd (f_Pn_checkPlace x1 x2 S) (fun q_1 => bd (f_Pt_nearestOf (gi q_1 3) x1 x2 q_1) (fun q_2 => bd (f_Pt_isAt q_2.1 x1 x2 q_2.2) (fun q_3 => (if q_3.1 = 0 then
    bd (f_Pt_isFull  q_3.2) (fun q_5 => (if q_5.1 = 0 then
      bd (f_Pn_makeRoom ((gi q_5.2 3) + 1) q_5.2) (fun q_7 => bd (f_Pt_append x1 x2 q_7) (fun q_8 => bd (f_Pn_noteClosest q_2.1 q_8.1 q_8.2) (fun q_9 => bd (f_Nt_isEmpty  q_9) (fun q_10 => (if q_10.1 = 0 then
        bd (f_Nt_insert q_8.1 q_2.1 q_10.2) (fun q_12 => f_Pn_add_117   q_8.1 q_12)
        else
        bd (f_Pn_tryToBeginNet q_8.1 q_10.2) (fun q_13 => f_Pn_add_117   q_8.1 q_13))))))
      else
      none))
    else
    some ((-1), q_3.2)))))
set_option maxHeartbeats 4000000 in
set_option maxRecDepth 100000 in
theorem w_Pn_add_0 (C0 : CX p s m args c b_Pn_add 5 R_Pn w_Pn_add D clC cA cP A) {res : (Int32 × St)} (hret : RTi p l e rm_Pn_add s m args below meth c Q D clC A b_Pn_add 12 384 (fun r w => r = res.1 ∧ ∃ ad, w = cw cA cP ob ad res.2))    : ∀ (x1 : Int32) (x2 : Int32) (S : St) (ad : Nat → Nat → Nat) (H : Heap) (locs : List Loc) (ls : Array Slot), va_P D clC (cw cA cP ob ad S) H → va_D A (cw cA cP ob ad S) → va_S A s.heap H locs → lv_has ls 5 [(0, .ref (ob 0)), (1, .int x1), (2, .int x2)] → f_Pn_add_0   x1 x2 S = some res → W p l e rm_Pn_add s m args below meth c H locs 0 0 Q (F0 m 0 ls []) := by
  obtain ⟨hx, hb, hml, hown, hts, hK, hA, hN, hZ⟩ := id C0
  intro x1 x2 S ad H locs ls hP hD hS hl hf
  rw [f_Pn_add_0] at hf
  refine lv_iload_n hx hb d_Pn_add_0 rfl (lv_at hl 1 rfl) ?_
  refine lv_iload_n hx hb d_Pn_add_1 rfl (lv_at hl 2 rfl) ?_
  obtain ⟨q_1, hq_1, hf⟩ := bd_some hf
  refine kc_v (va_runS (As := [.int x1, .int x2]) (rest := []) ⟨hx, hb, hml, hown, hts⟩ (c_Pn_checkPlace l D cA cP ob ad x1 x2  S hq_1 H.size) ⟨callB_of 2 hts (gd_Pn_checkPlace) rfl rfl rfl (hts _ (List.mem_cons_of_mem _ wd_64)) (hts _ (List.mem_cons_of_mem _ wd_424)) dd_Pn_checkPlace ⟨Nat.le_of_ble_eq_true rfl, Nat.le_of_ble_eq_true rfl⟩, (hts _ (List.mem_cons_of_mem _ wd_425))⟩ (kpS hK hP hD hN hZ hS) rfl rfl hl.1 rfl (lv_room (Nat.le_of_ble_eq_true rfl)) d_Pn_add_2 ⟨by decide +kernel, by decide +kernel⟩) hP hD hS hA (fun w H locs hw hP hD hS => ?_)
  obtain rfl := hw
  refine lv_aload_n hx hb d_Pn_add_5 rfl (lv_at hl 0 rfl) ?_
  refine va_get (D := D) (ci := 0) (v := .ref (ob 1)) (C := R_Pn) (T := F_Pn) (N := 8) hx hb hts (fun w h => List.mem_cons_of_mem _ (in_Pn w h)) hown hK hP 0 rfl rfl 0 (by decide) (hts _ (List.mem_cons_of_mem _ wd_249)) (fun _ h9 => h9) rfl d_Pn_add_6 ?_
  refine lv_aload_n hx hb d_Pn_add_9 rfl (lv_at hl 0 rfl) ?_
  refine va_get (D := D) (ci := 0) (v := .ref (ob 1)) (C := R_Pn) (T := F_Pn) (N := 8) hx hb hts (fun w h => List.mem_cons_of_mem _ (in_Pn w h)) hown hK hP 0 rfl rfl 0 (by decide) (hts _ (List.mem_cons_of_mem _ wd_249)) (fun _ h9 => h9) rfl d_Pn_add_10 ?_
  refine va_get (D := D) (ci := 1) (v := .int (gi q_1 3)) (C := R_Pt) (T := F_Pt) (N := 5) hx hb hts (fun w h => List.mem_cons_of_mem _ (in_Pt w h)) hown hK hP 1 rfl rfl 1 (by decide) (hts _ (List.mem_cons_of_mem _ wd_133)) (fun _ h9 => h9) rfl d_Pn_add_13 ?_
  refine lv_iload_n hx hb d_Pn_add_16 rfl (lv_at hl 1 rfl) ?_
  refine lv_iload_n hx hb d_Pn_add_17 rfl (lv_at hl 2 rfl) ?_
  obtain ⟨q_2, hq_2, hf⟩ := bd_some hf
  refine kc_i (va_runV (As := [.int (gi q_1 3), .int x1, .int x2]) (rest := []) ⟨hx, hb, hml, hown, hts⟩ (c_Pt_nearestOf l D cA cP ob ad (gi q_1 3) x1 x2  q_1 hq_2 H.size) ⟨callB_of 3 hts (gd_Pt_nearestOf) rfl rfl rfl (hts _ (List.mem_cons_of_mem _ wd_65)) (hts _ (List.mem_cons_of_mem _ wd_497)) dd_Pt_nearestOf ⟨Nat.le_of_ble_eq_true rfl, Nat.le_of_ble_eq_true rfl⟩, (hts _ (List.mem_cons_of_mem _ wd_498)), (hts _ (List.mem_cons_of_mem _ wd_499))⟩ (kpV hK hP hD hN hZ hS 1 1 rfl rfl) rfl rfl hl.1 rfl (lv_room (Nat.le_of_ble_eq_true rfl)) d_Pn_add_18 ⟨by decide +kernel, by decide +kernel⟩) hP hD hS hA (fun r w H locs hw hP hD hS => ?_)
  obtain ⟨rfl, rfl⟩ := hw
  refine lv_istore_n (lv' := [(3, .int q_2.1), (0, .ref (ob 0)), (1, .int x1), (2, .int x2)]) hx hb d_Pn_add_21 rfl hl (by decide) rfl (fun ls hl => ?_)
  refine lv_aload_n hx hb d_Pn_add_22 rfl (lv_at hl 1 rfl) ?_
  refine va_get (D := D) (ci := 0) (v := .ref (ob 1)) (C := R_Pn) (T := F_Pn) (N := 8) hx hb hts (fun w h => List.mem_cons_of_mem _ (in_Pn w h)) hown hK hP 0 rfl rfl 0 (by decide) (hts _ (List.mem_cons_of_mem _ wd_249)) (fun _ h9 => h9) rfl d_Pn_add_23 ?_
  refine lv_iload_n hx hb d_Pn_add_26 rfl (lv_at hl 0 rfl) ?_
  refine lv_iload_n hx hb d_Pn_add_27 rfl (lv_at hl 2 rfl) ?_
  refine lv_iload_n hx hb d_Pn_add_28 rfl (lv_at hl 3 rfl) ?_
  obtain ⟨q_3, hq_3, hf⟩ := bd_some hf
  refine kc_i (va_runV (As := [.int q_2.1, .int x1, .int x2]) (rest := []) ⟨hx, hb, hml, hown, hts⟩ (c_Pt_isAt l D cA cP ob ad q_2.1 x1 x2  q_2.2 hq_3 H.size) ⟨callB_of 3 hts (gd_Pt_isAt) rfl rfl rfl (hts _ (List.mem_cons_of_mem _ wd_65)) (hts _ (List.mem_cons_of_mem _ wd_505)) dd_Pt_isAt ⟨Nat.le_of_ble_eq_true rfl, Nat.le_of_ble_eq_true rfl⟩, (hts _ (List.mem_cons_of_mem _ wd_506)), (hts _ (List.mem_cons_of_mem _ wd_507))⟩ (kpV hK hP hD hN hZ hS 1 1 rfl rfl) rfl rfl hl.1 rfl (lv_room (Nat.le_of_ble_eq_true rfl)) d_Pn_add_29 ⟨by decide +kernel, by decide +kernel⟩) hP hD hS hA (fun r w H locs hw hP hD hS => ?_)
  obtain ⟨rfl, rfl⟩ := hw
  refine lv_if_eq (tgt := 37) hx hb d_Pn_add_32 (by decide) (fun c_4 => ?_) (fun c_4 => ?_)
  · rw [if_pos c_4] at hf
    refine lv_aload_n hx hb d_Pn_add_37 rfl (lv_at hl 1 rfl) ?_
    refine va_get (D := D) (ci := 0) (v := .ref (ob 1)) (C := R_Pn) (T := F_Pn) (N := 8) hx hb hts (fun w h => List.mem_cons_of_mem _ (in_Pn w h)) hown hK hP 0 rfl rfl 0 (by decide) (hts _ (List.mem_cons_of_mem _ wd_249)) (fun _ h9 => h9) rfl d_Pn_add_38 ?_
    obtain ⟨q_5, hq_5, hf⟩ := bd_some hf
    refine kc_i (va_runV (As := []) (rest := []) ⟨hx, hb, hml, hown, hts⟩ (c_Pt_isFull l D cA cP ob ad   q_3.2 hq_5 H.size) ⟨callB_of 0 hts (gd_Pt_isFull) rfl rfl rfl (hts _ (List.mem_cons_of_mem _ wd_65)) (hts _ (List.mem_cons_of_mem _ wd_509)) dd_Pt_isFull ⟨Nat.le_of_ble_eq_true rfl, Nat.le_of_ble_eq_true rfl⟩, (hts _ (List.mem_cons_of_mem _ wd_510)), (hts _ (List.mem_cons_of_mem _ wd_511))⟩ (kpV hK hP hD hN hZ hS 1 1 rfl rfl) rfl rfl hl.1 rfl (lv_room (Nat.le_of_ble_eq_true rfl)) d_Pn_add_41 ⟨by decide +kernel, by decide +kernel⟩) hP hD hS hA (fun r w H locs hw hP hD hS => ?_)
    obtain ⟨rfl, rfl⟩ := hw
    refine lv_if_eq (tgt := 57) hx hb d_Pn_add_44 (by decide) (fun c_6 => ?_) (fun c_6 => ?_)
    · rw [if_pos c_6] at hf
      refine lv_aload_n hx hb d_Pn_add_57 rfl (lv_at hl 1 rfl) ?_
      refine lv_aload_n hx hb d_Pn_add_58 rfl (lv_at hl 1 rfl) ?_
      refine va_get (D := D) (ci := 0) (v := .ref (ob 1)) (C := R_Pn) (T := F_Pn) (N := 8) hx hb hts (fun w h => List.mem_cons_of_mem _ (in_Pn w h)) hown hK hP 0 rfl rfl 0 (by decide) (hts _ (List.mem_cons_of_mem _ wd_249)) (fun _ h9 => h9) rfl d_Pn_add_59 ?_
      refine va_get (D := D) (ci := 1) (v := .int (gi q_5.2 3)) (C := R_Pt) (T := F_Pt) (N := 5) hx hb hts (fun w h => List.mem_cons_of_mem _ (in_Pt w h)) hown hK hP 1 rfl rfl 1 (by decide) (hts _ (List.mem_cons_of_mem _ wd_133)) (fun _ h9 => h9) rfl d_Pn_add_62 ?_
      refine lv_iconst (v := 1) hx hb d_Pn_add_65 (by decide) ?_
      refine lv_iadd hx hb d_Pn_add_66 ?_
      obtain ⟨q_7, hq_7, hf⟩ := bd_some hf
      refine kc_v (va_runV (As := [.int ((gi q_5.2 3) + 1)]) (rest := []) ⟨hx, hb, hml, hown, hts⟩ (c_Pn_makeRoom l D cA cP ob ad ((gi q_5.2 3) + 1)  q_5.2 hq_7 H.size) ⟨callB_of 1 hts (gd_Pn_makeRoom) rfl rfl rfl (hts _ (List.mem_cons_of_mem _ wd_64)) (hts _ (List.mem_cons_of_mem _ wd_529)) dd_Pn_makeRoom ⟨Nat.le_of_ble_eq_true rfl, Nat.le_of_ble_eq_true rfl⟩, (hts _ (List.mem_cons_of_mem _ wd_531)), (hts _ (List.mem_cons_of_mem _ wd_12))⟩ (kpV hK hP hD hN hZ hS 0 0 rfl rfl) rfl rfl hl.1 rfl (lv_room (Nat.le_of_ble_eq_true rfl)) d_Pn_add_67 ⟨by decide +kernel, by decide +kernel⟩) hP hD hS hA (fun w H locs hw hP hD hS => ?_)
      obtain ⟨ad, rfl⟩ := hw
      refine W.widen (k := 12) (n := 384) (by decide +kernel) (by decide +kernel) ?_
      refine lv_aload_n hx hb d_Pn_add_70 rfl (lv_at hl 1 rfl) ?_
      refine va_get (D := D) (ci := 0) (v := .ref (ob 1)) (C := R_Pn) (T := F_Pn) (N := 8) hx hb hts (fun w h => List.mem_cons_of_mem _ (in_Pn w h)) hown hK hP 0 rfl rfl 0 (by decide) (hts _ (List.mem_cons_of_mem _ wd_249)) (fun _ h9 => h9) rfl d_Pn_add_71 ?_
      refine lv_iload_n hx hb d_Pn_add_74 rfl (lv_at hl 2 rfl) ?_
      refine lv_iload_n hx hb d_Pn_add_75 rfl (lv_at hl 3 rfl) ?_
      obtain ⟨q_8, hq_8, hf⟩ := bd_some hf
      refine kc_i (va_runV (As := [.int x1, .int x2]) (rest := []) ⟨hx, hb, hml, hown, hts⟩ (c_Pt_append l D cA cP ob ad x1 x2  q_7 hq_8 H.size) ⟨callB_of 2 hts (gd_Pt_append) rfl rfl rfl (hts _ (List.mem_cons_of_mem _ wd_65)) (hts _ (List.mem_cons_of_mem _ wd_556)) dd_Pt_append ⟨Nat.le_of_ble_eq_true rfl, Nat.le_of_ble_eq_true rfl⟩, (hts _ (List.mem_cons_of_mem _ wd_557)), (hts _ (List.mem_cons_of_mem _ wd_558))⟩ (kpV hK hP hD hN hZ hS 1 1 rfl rfl) rfl rfl hl.1 rfl (lv_room (Nat.le_of_ble_eq_true rfl)) d_Pn_add_76 ⟨by decide +kernel, by decide +kernel⟩) hP hD hS hA (fun r w H locs hw hP hD hS => ?_)
      obtain ⟨rfl, rfl⟩ := hw
      refine lv_istore (lv' := [(4, .int q_8.1), (3, .int q_2.1), (0, .ref (ob 0)), (1, .int x1), (2, .int x2)]) hx hb d_Pn_add_79 hl (by decide) rfl (fun ls hl => ?_)
      refine lv_aload_n hx hb d_Pn_add_81 rfl (lv_at hl 2 rfl) ?_
      refine lv_iload_n hx hb d_Pn_add_82 rfl (lv_at hl 1 rfl) ?_
      refine lv_iload hx hb d_Pn_add_83 (lv_at hl 0 rfl) ?_
      obtain ⟨q_9, hq_9, hf⟩ := bd_some hf
      refine kc_v (va_runV (As := [.int q_2.1, .int q_8.1]) (rest := []) ⟨hx, hb, hml, hown, hts⟩ (c_Pn_noteClosest l D cA cP ob ad q_2.1 q_8.1  q_8.2 hq_9 H.size) ⟨callB_of 2 hts (gd_Pn_noteClosest) rfl rfl rfl (hts _ (List.mem_cons_of_mem _ wd_64)) (hts _ (List.mem_cons_of_mem _ wd_561)) dd_Pn_noteClosest ⟨Nat.le_of_ble_eq_true rfl, Nat.le_of_ble_eq_true rfl⟩, (hts _ (List.mem_cons_of_mem _ wd_563)), (hts _ (List.mem_cons_of_mem _ wd_13))⟩ (kpV hK hP hD hN hZ hS 0 0 rfl rfl) rfl rfl hl.1 rfl (lv_room (Nat.le_of_ble_eq_true rfl)) d_Pn_add_85 ⟨by decide +kernel, by decide +kernel⟩) hP hD hS hA (fun w H locs hw hP hD hS => ?_)
      obtain rfl := hw
      refine lv_aload_n hx hb d_Pn_add_88 rfl (lv_at hl 2 rfl) ?_
      refine va_get (D := D) (ci := 0) (v := .ref (ob 3)) (C := R_Pn) (T := F_Pn) (N := 8) hx hb hts (fun w h => List.mem_cons_of_mem _ (in_Pn w h)) hown hK hP 0 rfl rfl 1 (by decide) (hts _ (List.mem_cons_of_mem _ wd_250)) (fun _ h9 => h9) rfl d_Pn_add_89 ?_
      obtain ⟨q_10, hq_10, hf⟩ := bd_some hf
      refine kc_i (va_runV (As := []) (rest := []) ⟨hx, hb, hml, hown, hts⟩ (c_Nt_isEmpty l D cA cP ob ad   q_9 hq_10 H.size) ⟨callB_of 0 hts (gd_Nt_isEmpty) rfl rfl rfl (hts _ (List.mem_cons_of_mem _ wd_69)) (hts _ (List.mem_cons_of_mem _ wd_568)) dd_Nt_isEmpty ⟨Nat.le_of_ble_eq_true rfl, Nat.le_of_ble_eq_true rfl⟩, (hts _ (List.mem_cons_of_mem _ wd_323)), (hts _ (List.mem_cons_of_mem _ wd_324))⟩ (kpV hK hP hD hN hZ hS 3 3 rfl rfl) rfl rfl hl.1 rfl (lv_room (Nat.le_of_ble_eq_true rfl)) d_Pn_add_92 ⟨by decide +kernel, by decide +kernel⟩) hP hD hS hA (fun r w H locs hw hP hD hS => ?_)
      obtain ⟨rfl, rfl⟩ := hw
      refine lv_if_eq (tgt := 107) hx hb d_Pn_add_95 (by decide) (fun c_11 => ?_) (fun c_11 => ?_)
      · rw [if_pos c_11] at hf
        refine lv_aload_n hx hb d_Pn_add_107 rfl (lv_at hl 2 rfl) ?_
        refine va_get (D := D) (ci := 0) (v := .ref (ob 3)) (C := R_Pn) (T := F_Pn) (N := 8) hx hb hts (fun w h => List.mem_cons_of_mem _ (in_Pn w h)) hown hK hP 0 rfl rfl 1 (by decide) (hts _ (List.mem_cons_of_mem _ wd_250)) (fun _ h9 => h9) rfl d_Pn_add_108 ?_
        refine lv_iload hx hb d_Pn_add_111 (lv_at hl 0 rfl) ?_
        refine lv_iload_n hx hb d_Pn_add_113 rfl (lv_at hl 1 rfl) ?_
        obtain ⟨q_12, hq_12, hf⟩ := bd_some hf
        refine kc_v (va_runV (As := [.int q_8.1, .int q_2.1]) (rest := []) ⟨hx, hb, hml, hown, hts⟩ (c_Nt_insert l D cA cP ob ad q_8.1 q_2.1  q_10.2 hq_12 H.size) ⟨callB_of 2 hts (gd_Nt_insert) rfl rfl rfl (hts _ (List.mem_cons_of_mem _ wd_69)) (hts _ (List.mem_cons_of_mem _ wd_587)) dd_Nt_insert ⟨Nat.le_of_ble_eq_true rfl, Nat.le_of_ble_eq_true rfl⟩, (hts _ (List.mem_cons_of_mem _ wd_588)), (hts _ (List.mem_cons_of_mem _ wd_589))⟩ (kpV hK hP hD hN hZ hS 3 3 rfl rfl) rfl rfl hl.1 rfl (lv_room (Nat.le_of_ble_eq_true rfl)) d_Pn_add_114 ⟨by decide +kernel, by decide +kernel⟩) hP hD hS hA (fun w H locs hw hP hD hS => ?_)
        obtain rfl := hw
        exact w_Pn_add_117 C0 hret    q_8.1 q_12 ad H locs ls hP hD hS (lv_sub hl [2, 0] rfl) hf
      · rw [if_neg c_11] at hf
        refine lv_aload_n hx hb d_Pn_add_98 rfl (lv_at hl 2 rfl) ?_
        refine lv_iload hx hb d_Pn_add_99 (lv_at hl 0 rfl) ?_
        obtain ⟨q_13, hq_13, hf⟩ := bd_some hf
        refine kc_v (va_runV (As := [.int q_8.1]) (rest := []) ⟨hx, hb, hml, hown, hts⟩ (c_Pn_tryToBeginNet l D cA cP ob ad q_8.1  q_10.2 hq_13 H.size) ⟨callB_of 1 hts (gd_Pn_tryToBeginNet) rfl rfl rfl (hts _ (List.mem_cons_of_mem _ wd_64)) (hts _ (List.mem_cons_of_mem _ wd_569)) dd_Pn_tryToBeginNet ⟨Nat.le_of_ble_eq_true rfl, Nat.le_of_ble_eq_true rfl⟩, (hts _ (List.mem_cons_of_mem _ wd_571)), (hts _ (List.mem_cons_of_mem _ wd_14))⟩ (kpV hK hP hD hN hZ hS 0 0 rfl rfl) rfl rfl hl.1 rfl (lv_room (Nat.le_of_ble_eq_true rfl)) d_Pn_add_101 ⟨by decide +kernel, by decide +kernel⟩) hP hD hS hA (fun w H locs hw hP hD hS => ?_)
        obtain rfl := hw
        refine lv_goto (tgt := 117) hx hb d_Pn_add_104 (by decide) ?_
        exact w_Pn_add_117 C0 hret    q_8.1 q_13 ad H locs ls hP hD hS (lv_sub hl [2, 0] rfl) hf
    · rw [if_neg c_6] at hf
      cases hf
  · rw [if_neg c_4] at hf
    refine lv_iconst (v := (-1)) hx hb d_Pn_add_35 (by decide) ?_
    refine W.widen (k := 12) (n := 384) (by decide +kernel) (by decide +kernel) ?_
    cases hf
    exact hret _ _ _ _ _ _ ⟨rfl, ad, rfl⟩ hP hD hS d_Pn_add_36
def f_Pn_add (x1 : Int32) (x2 : Int32) (S : St) : Option (Int32 × St) := f_Pn_add_0  x1 x2 S
theorem c_Pn_add (l : Launch) (D : va_G) (cA cP : ClassId) (ob : Nat → Nat) (ad : Nat → Nat → Nat) (x1 : Int32) (x2 : Int32)  (S : St) {res : (Int32 × St)} (hf : f_Pn_add x1 x2 S = some res) : CTi l y_Pn_add w_Pn_add rm_Pn_add 12 384 D clC (TY cA cP) [.ref (ob 0), .int x1, .int x2] (cw cA cP ob ad S) (fun r w => r = res.1 ∧ ∃ ad, w = cw cA cP ob ad res.2) :=
  mk_i (cc := b_Pn_add) (maxL := 5) (own := R_Pn) (by decide) rfl rfl (Nat.le_of_ble_eq_true rfl) (fun p e s m below meth c A Q C0 hret ls hl hP hD hS => w_Pn_add_0 C0 hret   x1 x2 S ad _ _ ls hP hD hS (lv_sub hl [0, 1, 2] rfl) hf)
def f_Nt_removeAll_0    (S : St) : Option St :=
  bn (seti S 6 0) (fun S_1 => bn (seti S_1 7 0) (fun S_2 => some S_2))
set_option maxHeartbeats 4000000 in
set_option maxRecDepth 100000 in
theorem w_Nt_removeAll_0 (C0 : CX p s m args c b_Nt_removeAll 1 R_Nt w_Nt_removeAll D clC cA cP A) {res : St} (hret : RTv p l e rm_Nt_removeAll s m args below meth c Q D clC A b_Nt_removeAll 0 0 (fun w => w = cw cA cP ob ad res))    : ∀  (S : St) (H : Heap) (locs : List Loc) (ls : Array Slot), va_P D clC (cw cA cP ob ad S) H → va_D A (cw cA cP ob ad S) → va_S A s.heap H locs → lv_has ls 1 [(0, .ref (ob 3))] → f_Nt_removeAll_0    S = some res → W p l e rm_Nt_removeAll s m args below meth c H locs 0 0 Q (F0 m 0 ls []) := by
  obtain ⟨hx, hb, hml, hown, hts, hK, hA, hN, hZ⟩ := id C0
  intro  S H locs ls hP hD hS hl hf
  rw [f_Nt_removeAll_0] at hf
  refine lv_aload_n hx hb d_Nt_removeAll_0 rfl (lv_at hl 0 rfl) ?_
  refine lv_iconst (v := 0) hx hb d_Nt_removeAll_1 (by decide) ?_
  obtain ⟨S_1, eS_1, hf⟩ := bn_some hf
  refine va_put (D := D) (ci := 3) (v := .int 0) (ty := .int) (C := R_Nt) (T := F_Nt) (N := 13) hx hb hts (fun w h => List.mem_cons_of_mem _ (in_Nt w h)) t_Nt tk_Nt nk_Nt hown hK hP hD hS 3 rfl rfl 9 (by decide) (hts _ (List.mem_cons_of_mem _ wd_167)) (fun _ h9 => h9) rfl (by decide +kernel) rfl rfl (Nat.le_of_ble_eq_true rfl) d_Nt_removeAll_2 (fun H locs hP hD hS => ?_)
  have hP : va_P D clC (cw cA cP ob ad S_1) H := by rw [eS_1]; exact hP
  have hD : va_D A (cw cA cP ob ad S_1) := by rw [eS_1]; exact hD
  refine lv_aload_n hx hb d_Nt_removeAll_5 rfl (lv_at hl 0 rfl) ?_
  refine lv_iconst (v := 0) hx hb d_Nt_removeAll_6 (by decide) ?_
  obtain ⟨S_2, eS_2, hf⟩ := bn_some hf
  refine va_put (D := D) (ci := 3) (v := .int 0) (ty := .int) (C := R_Nt) (T := F_Nt) (N := 13) hx hb hts (fun w h => List.mem_cons_of_mem _ (in_Nt w h)) t_Nt tk_Nt nk_Nt hown hK hP hD hS 3 rfl rfl 10 (by decide) (hts _ (List.mem_cons_of_mem _ wd_168)) (fun _ h9 => h9) rfl (by decide +kernel) rfl rfl (Nat.le_of_ble_eq_true rfl) d_Nt_removeAll_7 (fun H locs hP hD hS => ?_)
  have hP : va_P D clC (cw cA cP ob ad S_2) H := by rw [eS_2]; exact hP
  have hD : va_D A (cw cA cP ob ad S_2) := by rw [eS_2]; exact hD
  cases hf
  exact hret _ _ _ _ _ rfl hP hD hS d_Nt_removeAll_10
def f_Nt_removeAll  (S : St) : Option St := f_Nt_removeAll_0   S
theorem c_Nt_removeAll (l : Launch) (D : va_G) (cA cP : ClassId) (ob : Nat → Nat) (ad : Nat → Nat → Nat)   (S : St) {res : St} (hf : f_Nt_removeAll  S = some res) : CTv l y_Nt_removeAll w_Nt_removeAll rm_Nt_removeAll 0 0 D clC (TY cA cP) [.ref (ob 3)] (cw cA cP ob ad S) (fun w => w = cw cA cP ob ad res) :=
  mk_v (cc := b_Nt_removeAll) (maxL := 1) (own := R_Nt) (by decide) rfl rfl (Nat.le_of_ble_eq_true rfl) (fun p e s m below meth c A Q C0 hret ls hl hP hD hS => w_Nt_removeAll_0 C0 hret    S _ _ ls hP hD hS (lv_sub hl [0] rfl) hf)
end
