section
variable {p : Program} {l : Launch} {e : Env} {s : State} {m : MethodId} {args : Array Value} {below : List Frame} {meth : Method} {c : Code} {Q : State → Prop} {D : va_G} {cA cP : ClassId} {ob : Nat → Nat} {ad : Nat → Nat → Nat} {A : Nat → Prop}
def f_Pn_locate_0   (x1 : Int32) (x2 : Int32) (S : St) : Option (Int32 × St) :=
  bd (f_Pn_checkPlace x1 x2 S) (fun q_1 => bd (f_Pn_forgetFound  q_1) (fun q_2 => bd (f_Pt_nearestOf (gi q_2 3) x1 x2 q_2) (fun q_3 => (if q_3.1 = (-1) then
    some (0, q_3.2)
    else
    bd (f_Pt_isAt q_3.1 x1 x2 q_3.2) (fun q_5 => (if q_5.1 = 0 then
      bd (f_Nt_isEmpty  q_5.2) (fun q_7 => (if q_7.1 = 0 then
        bd (f_Pn_locateInNet q_3.1 x1 x2 q_7.2) (fun q_9 => some (q_9.1, q_9.2))
        else
        bd (f_Pn_locateOnLine x1 x2 q_7.2) (fun q_10 => some (q_10.1, q_10.2))))
      else
      as_ (inb 0 (gn q_5.2 30)) (bn (seta q_5.2 30 (upd (ga q_5.2 30) (Int32.toNatClampNeg 0) q_3.1)) (fun S_12 => some (3, S_12)))))))))
set_option maxHeartbeats 4000000 in
set_option maxRecDepth 100000 in
theorem w_Pn_locate_0 (C0 : CX p s m args c b_Pn_locate 4 R_Pn w_Pn_locate D clC cA cP A) {res : (Int32 × St)} (hret : RTi p l e rm_Pn_locate s m args below meth c Q D clC A b_Pn_locate 0 0 (fun r w => r = res.1 ∧ w = cw cA cP ob ad res.2))    : ∀ (x1 : Int32) (x2 : Int32) (S : St) (H : Heap) (locs : List Loc) (ls : Array Slot), va_P D clC (cw cA cP ob ad S) H → va_D A (cw cA cP ob ad S) → va_S A s.heap H locs → lv_has ls 4 [(0, .ref (ob 0)), (1, .int x1), (2, .int x2)] → f_Pn_locate_0   x1 x2 S = some res → W p l e rm_Pn_locate s m args below meth c H locs 0 0 Q (F0 m 0 ls []) := by
  obtain ⟨hx, hb, hml, hown, hts, hK, hA, hN, hZ⟩ := id C0
  intro x1 x2 S H locs ls hP hD hS hl hf
  rw [f_Pn_locate_0] at hf
  refine lv_iload_n hx hb d_Pn_locate_0 rfl (lv_at hl 1 rfl) ?_
  refine lv_iload_n hx hb d_Pn_locate_1 rfl (lv_at hl 2 rfl) ?_
  obtain ⟨q_1, hq_1, hf⟩ := bd_some hf
  refine kc_v (va_runS (As := [.int x1, .int x2]) (rest := []) ⟨hx, hb, hml, hown, hts⟩ (c_Pn_checkPlace l D cA cP ob ad x1 x2  S hq_1 H.size) ⟨callB_of 2 hts (gd_Pn_checkPlace) rfl rfl rfl (hts _ (List.mem_cons_of_mem _ wd_64)) (hts _ (List.mem_cons_of_mem _ wd_424)) dd_Pn_checkPlace ⟨Nat.le_of_ble_eq_true rfl, Nat.le_of_ble_eq_true rfl⟩, (hts _ (List.mem_cons_of_mem _ wd_425))⟩ (kpS hK hP hD hN hZ hS) rfl rfl hl.1 rfl (lv_room (Nat.le_of_ble_eq_true rfl)) d_Pn_locate_2 ⟨Nat.le_of_ble_eq_true rfl, Nat.le_of_ble_eq_true rfl⟩) hP hD hS hA (fun w H locs hw hP hD hS => ?_)
  obtain rfl := hw
  refine lv_aload_n hx hb d_Pn_locate_5 rfl (lv_at hl 0 rfl) ?_
  obtain ⟨q_2, hq_2, hf⟩ := bd_some hf
  refine kc_v (va_runV (As := []) (rest := []) ⟨hx, hb, hml, hown, hts⟩ (c_Pn_forgetFound l D cA cP ob ad   q_1 hq_2 H.size) ⟨callB_of 0 hts (gd_Pn_forgetFound) rfl rfl rfl (hts _ (List.mem_cons_of_mem _ wd_64)) (hts _ (List.mem_cons_of_mem _ wd_287)) dd_Pn_forgetFound ⟨Nat.le_of_ble_eq_true rfl, Nat.le_of_ble_eq_true rfl⟩, (hts _ (List.mem_cons_of_mem _ wd_289)), (hts _ (List.mem_cons_of_mem _ wd_1))⟩ (kpV hK hP hD hN hZ hS 0 0 rfl rfl) rfl rfl hl.1 rfl (lv_room (Nat.le_of_ble_eq_true rfl)) d_Pn_locate_6 ⟨Nat.le_of_ble_eq_true rfl, Nat.le_of_ble_eq_true rfl⟩) hP hD hS hA (fun w H locs hw hP hD hS => ?_)
  obtain rfl := hw
  refine lv_aload_n hx hb d_Pn_locate_9 rfl (lv_at hl 0 rfl) ?_
  refine va_get (D := D) (ci := 0) (v := .ref (ob 1)) (C := R_Pn) (T := F_Pn) (N := 8) hx hb hts (fun w h => List.mem_cons_of_mem _ (in_Pn w h)) hown hK hP 0 rfl rfl 0 (by decide) (hts _ (List.mem_cons_of_mem _ wd_249)) (fun _ h9 => h9) rfl d_Pn_locate_10 ?_
  refine lv_aload_n hx hb d_Pn_locate_13 rfl (lv_at hl 0 rfl) ?_
  refine va_get (D := D) (ci := 0) (v := .ref (ob 1)) (C := R_Pn) (T := F_Pn) (N := 8) hx hb hts (fun w h => List.mem_cons_of_mem _ (in_Pn w h)) hown hK hP 0 rfl rfl 0 (by decide) (hts _ (List.mem_cons_of_mem _ wd_249)) (fun _ h9 => h9) rfl d_Pn_locate_14 ?_
  refine va_get (D := D) (ci := 1) (v := .int (gi q_2 3)) (C := R_Pt) (T := F_Pt) (N := 5) hx hb hts (fun w h => List.mem_cons_of_mem _ (in_Pt w h)) hown hK hP 1 rfl rfl 1 (by decide) (hts _ (List.mem_cons_of_mem _ wd_133)) (fun _ h9 => h9) rfl d_Pn_locate_17 ?_
  refine lv_iload_n hx hb d_Pn_locate_20 rfl (lv_at hl 1 rfl) ?_
  refine lv_iload_n hx hb d_Pn_locate_21 rfl (lv_at hl 2 rfl) ?_
  obtain ⟨q_3, hq_3, hf⟩ := bd_some hf
  refine kc_i (va_runV (As := [.int (gi q_2 3), .int x1, .int x2]) (rest := []) ⟨hx, hb, hml, hown, hts⟩ (c_Pt_nearestOf l D cA cP ob ad (gi q_2 3) x1 x2  q_2 hq_3 H.size) ⟨callB_of 3 hts (gd_Pt_nearestOf) rfl rfl rfl (hts _ (List.mem_cons_of_mem _ wd_65)) (hts _ (List.mem_cons_of_mem _ wd_497)) dd_Pt_nearestOf ⟨Nat.le_of_ble_eq_true rfl, Nat.le_of_ble_eq_true rfl⟩, (hts _ (List.mem_cons_of_mem _ wd_498)), (hts _ (List.mem_cons_of_mem _ wd_499))⟩ (kpV hK hP hD hN hZ hS 1 1 rfl rfl) rfl rfl hl.1 rfl (lv_room (Nat.le_of_ble_eq_true rfl)) d_Pn_locate_22 ⟨Nat.le_of_ble_eq_true rfl, Nat.le_of_ble_eq_true rfl⟩) hP hD hS hA (fun r w H locs hw hP hD hS => ?_)
  obtain ⟨rfl, rfl⟩ := hw
  refine lv_istore_n (lv' := [(3, .int q_3.1), (0, .ref (ob 0)), (1, .int x1), (2, .int x2)]) hx hb d_Pn_locate_25 rfl hl (by decide) rfl (fun ls hl => ?_)
  refine lv_iload_n hx hb d_Pn_locate_26 rfl (lv_at hl 0 rfl) ?_
  refine lv_iconst (v := (-1)) hx hb d_Pn_locate_27 (by decide) ?_
  refine lv_icmp_ne (tgt := 33) hx hb d_Pn_locate_28 (by decide) (fun c_4 => ?_) (fun c_4 => ?_)
  · rw [if_neg c_4] at hf
    refine lv_aload_n hx hb d_Pn_locate_33 rfl (lv_at hl 1 rfl) ?_
    refine va_get (D := D) (ci := 0) (v := .ref (ob 1)) (C := R_Pn) (T := F_Pn) (N := 8) hx hb hts (fun w h => List.mem_cons_of_mem _ (in_Pn w h)) hown hK hP 0 rfl rfl 0 (by decide) (hts _ (List.mem_cons_of_mem _ wd_249)) (fun _ h9 => h9) rfl d_Pn_locate_34 ?_
    refine lv_iload_n hx hb d_Pn_locate_37 rfl (lv_at hl 0 rfl) ?_
    refine lv_iload_n hx hb d_Pn_locate_38 rfl (lv_at hl 2 rfl) ?_
    refine lv_iload_n hx hb d_Pn_locate_39 rfl (lv_at hl 3 rfl) ?_
    obtain ⟨q_5, hq_5, hf⟩ := bd_some hf
    refine kc_i (va_runV (As := [.int q_3.1, .int x1, .int x2]) (rest := []) ⟨hx, hb, hml, hown, hts⟩ (c_Pt_isAt l D cA cP ob ad q_3.1 x1 x2  q_3.2 hq_5 H.size) ⟨callB_of 3 hts (gd_Pt_isAt) rfl rfl rfl (hts _ (List.mem_cons_of_mem _ wd_65)) (hts _ (List.mem_cons_of_mem _ wd_505)) dd_Pt_isAt ⟨Nat.le_of_ble_eq_true rfl, Nat.le_of_ble_eq_true rfl⟩, (hts _ (List.mem_cons_of_mem _ wd_506)), (hts _ (List.mem_cons_of_mem _ wd_507))⟩ (kpV hK hP hD hN hZ hS 1 1 rfl rfl) rfl rfl hl.1 rfl (lv_room (Nat.le_of_ble_eq_true rfl)) d_Pn_locate_40 ⟨Nat.le_of_ble_eq_true rfl, Nat.le_of_ble_eq_true rfl⟩) hP hD hS hA (fun r w H locs hw hP hD hS => ?_)
    obtain ⟨rfl, rfl⟩ := hw
    refine lv_if_eq (tgt := 55) hx hb d_Pn_locate_43 (by decide) (fun c_6 => ?_) (fun c_6 => ?_)
    · rw [if_pos c_6] at hf
      refine lv_aload_n hx hb d_Pn_locate_55 rfl (lv_at hl 1 rfl) ?_
      refine va_get (D := D) (ci := 0) (v := .ref (ob 3)) (C := R_Pn) (T := F_Pn) (N := 8) hx hb hts (fun w h => List.mem_cons_of_mem _ (in_Pn w h)) hown hK hP 0 rfl rfl 1 (by decide) (hts _ (List.mem_cons_of_mem _ wd_250)) (fun _ h9 => h9) rfl d_Pn_locate_56 ?_
      obtain ⟨q_7, hq_7, hf⟩ := bd_some hf
      refine kc_i (va_runV (As := []) (rest := []) ⟨hx, hb, hml, hown, hts⟩ (c_Nt_isEmpty l D cA cP ob ad   q_5.2 hq_7 H.size) ⟨callB_of 0 hts (gd_Nt_isEmpty) rfl rfl rfl (hts _ (List.mem_cons_of_mem _ wd_69)) (hts _ (List.mem_cons_of_mem _ wd_568)) dd_Nt_isEmpty ⟨Nat.le_of_ble_eq_true rfl, Nat.le_of_ble_eq_true rfl⟩, (hts _ (List.mem_cons_of_mem _ wd_323)), (hts _ (List.mem_cons_of_mem _ wd_324))⟩ (kpV hK hP hD hN hZ hS 3 3 rfl rfl) rfl rfl hl.1 rfl (lv_room (Nat.le_of_ble_eq_true rfl)) d_Pn_locate_59 ⟨Nat.le_of_ble_eq_true rfl, Nat.le_of_ble_eq_true rfl⟩) hP hD hS hA (fun r w H locs hw hP hD hS => ?_)
      obtain ⟨rfl, rfl⟩ := hw
      refine lv_if_eq (tgt := 74) hx hb d_Pn_locate_62 (by decide) (fun c_8 => ?_) (fun c_8 => ?_)
      · rw [if_pos c_8] at hf
        refine lv_aload_n hx hb d_Pn_locate_74 rfl (lv_at hl 1 rfl) ?_
        refine lv_iload_n hx hb d_Pn_locate_75 rfl (lv_at hl 0 rfl) ?_
        refine lv_iload_n hx hb d_Pn_locate_76 rfl (lv_at hl 2 rfl) ?_
        refine lv_iload_n hx hb d_Pn_locate_77 rfl (lv_at hl 3 rfl) ?_
        obtain ⟨q_9, hq_9, hf⟩ := bd_some hf
        refine kc_i (va_runV (As := [.int q_3.1, .int x1, .int x2]) (rest := []) ⟨hx, hb, hml, hown, hts⟩ (c_Pn_locateInNet l D cA cP ob ad q_3.1 x1 x2  q_7.2 hq_9 H.size) ⟨callB_of 3 hts (gd_Pn_locateInNet) rfl rfl rfl (hts _ (List.mem_cons_of_mem _ wd_64)) (hts _ (List.mem_cons_of_mem _ wd_783)) dd_Pn_locateInNet ⟨Nat.le_of_ble_eq_true rfl, Nat.le_of_ble_eq_true rfl⟩, (hts _ (List.mem_cons_of_mem _ wd_785)), (hts _ (List.mem_cons_of_mem _ wd_33))⟩ (kpV hK hP hD hN hZ hS 0 0 rfl rfl) rfl rfl hl.1 rfl (lv_room (Nat.le_of_ble_eq_true rfl)) d_Pn_locate_78 ⟨Nat.le_of_ble_eq_true rfl, Nat.le_of_ble_eq_true rfl⟩) hP hD hS hA (fun r w H locs hw hP hD hS => ?_)
        obtain ⟨rfl, rfl⟩ := hw
        cases hf
        exact hret _ _ _ _ _ _ ⟨rfl, rfl⟩ hP hD hS d_Pn_locate_81
      · rw [if_neg c_8] at hf
        refine lv_aload_n hx hb d_Pn_locate_65 rfl (lv_at hl 1 rfl) ?_
        refine lv_iload_n hx hb d_Pn_locate_66 rfl (lv_at hl 2 rfl) ?_
        refine lv_iload_n hx hb d_Pn_locate_67 rfl (lv_at hl 3 rfl) ?_
        obtain ⟨q_10, hq_10, hf⟩ := bd_some hf
        refine kc_i (va_runV (As := [.int x1, .int x2]) (rest := []) ⟨hx, hb, hml, hown, hts⟩ (c_Pn_locateOnLine l D cA cP ob ad x1 x2  q_7.2 hq_10 H.size) ⟨callB_of 2 hts (gd_Pn_locateOnLine) rfl rfl rfl (hts _ (List.mem_cons_of_mem _ wd_64)) (hts _ (List.mem_cons_of_mem _ wd_775)) dd_Pn_locateOnLine ⟨Nat.le_of_ble_eq_true rfl, Nat.le_of_ble_eq_true rfl⟩, (hts _ (List.mem_cons_of_mem _ wd_777)), (hts _ (List.mem_cons_of_mem _ wd_31))⟩ (kpV hK hP hD hN hZ hS 0 0 rfl rfl) rfl rfl hl.1 rfl (lv_room (Nat.le_of_ble_eq_true rfl)) d_Pn_locate_68 ⟨Nat.le_of_ble_eq_true rfl, Nat.le_of_ble_eq_true rfl⟩) hP hD hS hA (fun r w H locs hw hP hD hS => ?_)
        obtain ⟨rfl, rfl⟩ := hw
        refine lv_goto (tgt := 81) hx hb d_Pn_locate_71 (by decide) ?_
        cases hf
        exact hret _ _ _ _ _ _ ⟨rfl, rfl⟩ hP hD hS d_Pn_locate_81
    · rw [if_neg c_6] at hf
      refine lv_aload_n hx hb d_Pn_locate_46 rfl (lv_at hl 1 rfl) ?_
      refine va_get (D := D) (ci := 0) (v := .ref (ob 30)) (C := R_Pn) (T := F_Pn) (N := 8) hx hb hts (fun w h => List.mem_cons_of_mem _ (in_Pn w h)) hown hK hP 0 rfl rfl 4 (by decide) (hts _ (List.mem_cons_of_mem _ wd_253)) (fun _ h9 => h9) rfl d_Pn_locate_47 ?_
      refine lv_iconst (v := 0) hx hb d_Pn_locate_50 (by decide) ?_
      refine lv_iload_n hx hb d_Pn_locate_51 rfl (lv_at hl 0 rfl) ?_
      obtain ⟨hi_11, hf⟩ := as_some hf
      obtain ⟨S_12, eS_12, hf⟩ := bn_some hf
      refine va_iast hx hb hK hP hD hS 30 0 rfl rfl (inb_in hi_11) d_Pn_locate_52 (fun H locs hP hD hS => ?_)
      have hP : va_P D clC (cw cA cP ob ad S_12) H := by rw [eS_12]; exact hP
      have hD : va_D A (cw cA cP ob ad S_12) := by rw [eS_12]; exact hD
      refine lv_iconst (v := 3) hx hb d_Pn_locate_53 (by decide) ?_
      cases hf
      exact hret _ _ _ _ _ _ ⟨rfl, rfl⟩ hP hD hS d_Pn_locate_54
  · rw [if_pos c_4] at hf
    refine lv_iconst (v := 0) hx hb d_Pn_locate_31 (by decide) ?_
    cases hf
    exact hret _ _ _ _ _ _ ⟨rfl, rfl⟩ hP hD hS d_Pn_locate_32
def f_Pn_locate (x1 : Int32) (x2 : Int32) (S : St) : Option (Int32 × St) := f_Pn_locate_0  x1 x2 S
theorem c_Pn_locate (l : Launch) (D : va_G) (cA cP : ClassId) (ob : Nat → Nat) (ad : Nat → Nat → Nat) (x1 : Int32) (x2 : Int32)  (S : St) {res : (Int32 × St)} (hf : f_Pn_locate x1 x2 S = some res) : CTi l y_Pn_locate w_Pn_locate rm_Pn_locate 0 0 D clC (TY cA cP) [.ref (ob 0), .int x1, .int x2] (cw cA cP ob ad S) (fun r w => r = res.1 ∧ w = cw cA cP ob ad res.2) :=
  mk_i (cc := b_Pn_locate) (maxL := 4) (own := R_Pn) (by decide) rfl rfl (Nat.le_of_ble_eq_true rfl) (fun p e s m below meth c A Q C0 hret ls hl hP hD hS => w_Pn_locate_0 C0 hret   x1 x2 S _ _ ls hP hD hS (lv_sub hl [0, 1, 2] rfl) hf)
def f_Pn_located_0   (x1 : Int32) (S : St) : Option (Int32 × St) :=
  (if x1 < 0 then
    some ((-1), S)
    else
    (if (nI (gn S 30)) ≤ x1 then
      some ((-1), S)
      else
      as_ (inb x1 (gn S 30)) (some ((ga S 30 (Int32.toNatClampNeg x1)), S))))
set_option maxHeartbeats 4000000 in
set_option maxRecDepth 100000 in
theorem w_Pn_located_0 (C0 : CX p s m args c b_Pn_located 2 R_Pn w_Pn_located D clC cA cP A) {res : (Int32 × St)} (hret : RTi p l e rm_Pn_located s m args below meth c Q D clC A b_Pn_located 0 0 (fun r w => r = res.1 ∧ w = cw cA cP ob ad res.2))    : ∀ (x1 : Int32) (S : St) (H : Heap) (locs : List Loc) (ls : Array Slot), va_P D clC (cw cA cP ob ad S) H → va_D A (cw cA cP ob ad S) → va_S A s.heap H locs → lv_has ls 2 [(0, .ref (ob 0)), (1, .int x1)] → f_Pn_located_0   x1 S = some res → W p l e rm_Pn_located s m args below meth c H locs 0 0 Q (F0 m 0 ls []) := by
  obtain ⟨hx, hb, hml, hown, hts, hK, hA, hN, hZ⟩ := id C0
  intro x1 S H locs ls hP hD hS hl hf
  rw [f_Pn_located_0] at hf
  refine lv_iload_n hx hb d_Pn_located_0 rfl (lv_at hl 1 rfl) ?_
  refine lv_if_lt (tgt := 22) hx hb d_Pn_located_1 (by decide) (fun c_1 => ?_) (fun c_1 => ?_)
  · rw [if_pos c_1] at hf
    refine lv_iconst (v := (-1)) hx hb d_Pn_located_22 (by decide) ?_
    cases hf
    exact hret _ _ _ _ _ _ ⟨rfl, rfl⟩ hP hD hS d_Pn_located_23
  · rw [if_neg c_1] at hf
    refine lv_iload_n hx hb d_Pn_located_4 rfl (lv_at hl 1 rfl) ?_
    refine lv_aload_n hx hb d_Pn_located_5 rfl (lv_at hl 0 rfl) ?_
    refine va_get (D := D) (ci := 0) (v := .ref (ob 30)) (C := R_Pn) (T := F_Pn) (N := 8) hx hb hts (fun w h => List.mem_cons_of_mem _ (in_Pn w h)) hown hK hP 0 rfl rfl 4 (by decide) (hts _ (List.mem_cons_of_mem _ wd_253)) (fun _ h9 => h9) rfl d_Pn_located_6 ?_
    refine va_alen (v := (nI (gn S 30))) hx hb hK hP 30 0 rfl rfl rfl d_Pn_located_9 ?_
    refine lv_icmp_ge (tgt := 22) hx hb d_Pn_located_10 (by decide) (fun c_2 => ?_) (fun c_2 => ?_)
    · rw [if_pos c_2] at hf
      refine lv_iconst (v := (-1)) hx hb d_Pn_located_22 (by decide) ?_
      cases hf
      exact hret _ _ _ _ _ _ ⟨rfl, rfl⟩ hP hD hS d_Pn_located_23
    · rw [if_neg c_2] at hf
      refine lv_aload_n hx hb d_Pn_located_13 rfl (lv_at hl 0 rfl) ?_
      refine va_get (D := D) (ci := 0) (v := .ref (ob 30)) (C := R_Pn) (T := F_Pn) (N := 8) hx hb hts (fun w h => List.mem_cons_of_mem _ (in_Pn w h)) hown hK hP 0 rfl rfl 4 (by decide) (hts _ (List.mem_cons_of_mem _ wd_253)) (fun _ h9 => h9) rfl d_Pn_located_14 ?_
      refine lv_iload_n hx hb d_Pn_located_17 rfl (lv_at hl 1 rfl) ?_
      obtain ⟨hi_3, hf⟩ := as_some hf
      refine va_iald hx hb hK hP 30 0 rfl rfl (inb_in hi_3) d_Pn_located_18 ?_
      refine lv_goto (tgt := 23) hx hb d_Pn_located_19 (by decide) ?_
      cases hf
      exact hret _ _ _ _ _ _ ⟨rfl, rfl⟩ hP hD hS d_Pn_located_23
def f_Pn_located (x1 : Int32) (S : St) : Option (Int32 × St) := f_Pn_located_0  x1 S
theorem c_Pn_located (l : Launch) (D : va_G) (cA cP : ClassId) (ob : Nat → Nat) (ad : Nat → Nat → Nat) (x1 : Int32)  (S : St) {res : (Int32 × St)} (hf : f_Pn_located x1 S = some res) : CTi l y_Pn_located w_Pn_located rm_Pn_located 0 0 D clC (TY cA cP) [.ref (ob 0), .int x1] (cw cA cP ob ad S) (fun r w => r = res.1 ∧ w = cw cA cP ob ad res.2) :=
  mk_i (cc := b_Pn_located) (maxL := 2) (own := R_Pn) (by decide) rfl rfl (Nat.le_of_ble_eq_true rfl) (fun p e s m below meth c A Q C0 hret ls hl hP hD hS => w_Pn_located_0 C0 hret   x1 S _ _ ls hP hD hS (lv_sub hl [0, 1] rfl) hf)
def f_Pn_nearest_0   (x1 : Int32) (x2 : Int32) (S : St) : Option (Int32 × St) :=
  bd (f_Pn_checkPlace x1 x2 S) (fun q_1 => (if (gi q_1 3) = 0 then
    none
    else
    bd (f_Pt_nearestOf (gi q_1 3) x1 x2 q_1) (fun q_3 => some (q_3.1, q_3.2))))
set_option maxHeartbeats 4000000 in
set_option maxRecDepth 100000 in
theorem w_Pn_nearest_0 (C0 : CX p s m args c b_Pn_nearest 3 R_Pn w_Pn_nearest D clC cA cP A) {res : (Int32 × St)} (hret : RTi p l e rm_Pn_nearest s m args below meth c Q D clC A b_Pn_nearest 0 0 (fun r w => r = res.1 ∧ w = cw cA cP ob ad res.2))    : ∀ (x1 : Int32) (x2 : Int32) (S : St) (H : Heap) (locs : List Loc) (ls : Array Slot), va_P D clC (cw cA cP ob ad S) H → va_D A (cw cA cP ob ad S) → va_S A s.heap H locs → lv_has ls 3 [(0, .ref (ob 0)), (1, .int x1), (2, .int x2)] → f_Pn_nearest_0   x1 x2 S = some res → W p l e rm_Pn_nearest s m args below meth c H locs 0 0 Q (F0 m 0 ls []) := by
  obtain ⟨hx, hb, hml, hown, hts, hK, hA, hN, hZ⟩ := id C0
  intro x1 x2 S H locs ls hP hD hS hl hf
  rw [f_Pn_nearest_0] at hf
  refine lv_iload_n hx hb d_Pn_nearest_0 rfl (lv_at hl 1 rfl) ?_
  refine lv_iload_n hx hb d_Pn_nearest_1 rfl (lv_at hl 2 rfl) ?_
  obtain ⟨q_1, hq_1, hf⟩ := bd_some hf
  refine kc_v (va_runS (As := [.int x1, .int x2]) (rest := []) ⟨hx, hb, hml, hown, hts⟩ (c_Pn_checkPlace l D cA cP ob ad x1 x2  S hq_1 H.size) ⟨callB_of 2 hts (gd_Pn_checkPlace) rfl rfl rfl (hts _ (List.mem_cons_of_mem _ wd_64)) (hts _ (List.mem_cons_of_mem _ wd_424)) dd_Pn_checkPlace ⟨Nat.le_of_ble_eq_true rfl, Nat.le_of_ble_eq_true rfl⟩, (hts _ (List.mem_cons_of_mem _ wd_425))⟩ (kpS hK hP hD hN hZ hS) rfl rfl hl.1 rfl (lv_room (Nat.le_of_ble_eq_true rfl)) d_Pn_nearest_2 ⟨Nat.le_of_ble_eq_true rfl, Nat.le_of_ble_eq_true rfl⟩) hP hD hS hA (fun w H locs hw hP hD hS => ?_)
  obtain rfl := hw
  refine lv_aload_n hx hb d_Pn_nearest_5 rfl (lv_at hl 0 rfl) ?_
  refine va_get (D := D) (ci := 0) (v := .ref (ob 1)) (C := R_Pn) (T := F_Pn) (N := 8) hx hb hts (fun w h => List.mem_cons_of_mem _ (in_Pn w h)) hown hK hP 0 rfl rfl 0 (by decide) (hts _ (List.mem_cons_of_mem _ wd_249)) (fun _ h9 => h9) rfl d_Pn_nearest_6 ?_
  refine va_get (D := D) (ci := 1) (v := .int (gi q_1 3)) (C := R_Pt) (T := F_Pt) (N := 5) hx hb hts (fun w h => List.mem_cons_of_mem _ (in_Pt w h)) hown hK hP 1 rfl rfl 1 (by decide) (hts _ (List.mem_cons_of_mem _ wd_133)) (fun _ h9 => h9) rfl d_Pn_nearest_9 ?_
  refine lv_if_ne (tgt := 25) hx hb d_Pn_nearest_12 (by decide) (fun c_2 => ?_) (fun c_2 => ?_)
  · rw [if_neg c_2] at hf
    refine lv_aload_n hx hb d_Pn_nearest_25 rfl (lv_at hl 0 rfl) ?_
    refine va_get (D := D) (ci := 0) (v := .ref (ob 1)) (C := R_Pn) (T := F_Pn) (N := 8) hx hb hts (fun w h => List.mem_cons_of_mem _ (in_Pn w h)) hown hK hP 0 rfl rfl 0 (by decide) (hts _ (List.mem_cons_of_mem _ wd_249)) (fun _ h9 => h9) rfl d_Pn_nearest_26 ?_
    refine lv_aload_n hx hb d_Pn_nearest_29 rfl (lv_at hl 0 rfl) ?_
    refine va_get (D := D) (ci := 0) (v := .ref (ob 1)) (C := R_Pn) (T := F_Pn) (N := 8) hx hb hts (fun w h => List.mem_cons_of_mem _ (in_Pn w h)) hown hK hP 0 rfl rfl 0 (by decide) (hts _ (List.mem_cons_of_mem _ wd_249)) (fun _ h9 => h9) rfl d_Pn_nearest_30 ?_
    refine va_get (D := D) (ci := 1) (v := .int (gi q_1 3)) (C := R_Pt) (T := F_Pt) (N := 5) hx hb hts (fun w h => List.mem_cons_of_mem _ (in_Pt w h)) hown hK hP 1 rfl rfl 1 (by decide) (hts _ (List.mem_cons_of_mem _ wd_133)) (fun _ h9 => h9) rfl d_Pn_nearest_33 ?_
    refine lv_iload_n hx hb d_Pn_nearest_36 rfl (lv_at hl 1 rfl) ?_
    refine lv_iload_n hx hb d_Pn_nearest_37 rfl (lv_at hl 2 rfl) ?_
    obtain ⟨q_3, hq_3, hf⟩ := bd_some hf
    refine kc_i (va_runV (As := [.int (gi q_1 3), .int x1, .int x2]) (rest := []) ⟨hx, hb, hml, hown, hts⟩ (c_Pt_nearestOf l D cA cP ob ad (gi q_1 3) x1 x2  q_1 hq_3 H.size) ⟨callB_of 3 hts (gd_Pt_nearestOf) rfl rfl rfl (hts _ (List.mem_cons_of_mem _ wd_65)) (hts _ (List.mem_cons_of_mem _ wd_497)) dd_Pt_nearestOf ⟨Nat.le_of_ble_eq_true rfl, Nat.le_of_ble_eq_true rfl⟩, (hts _ (List.mem_cons_of_mem _ wd_498)), (hts _ (List.mem_cons_of_mem _ wd_499))⟩ (kpV hK hP hD hN hZ hS 1 1 rfl rfl) rfl rfl hl.1 rfl (lv_room (Nat.le_of_ble_eq_true rfl)) d_Pn_nearest_38 ⟨Nat.le_of_ble_eq_true rfl, Nat.le_of_ble_eq_true rfl⟩) hP hD hS hA (fun r w H locs hw hP hD hS => ?_)
    obtain ⟨rfl, rfl⟩ := hw
    cases hf
    exact hret _ _ _ _ _ _ ⟨rfl, rfl⟩ hP hD hS d_Pn_nearest_41
  · rw [if_pos c_2] at hf
    cases hf
def f_Pn_nearest (x1 : Int32) (x2 : Int32) (S : St) : Option (Int32 × St) := f_Pn_nearest_0  x1 x2 S
theorem c_Pn_nearest (l : Launch) (D : va_G) (cA cP : ClassId) (ob : Nat → Nat) (ad : Nat → Nat → Nat) (x1 : Int32) (x2 : Int32)  (S : St) {res : (Int32 × St)} (hf : f_Pn_nearest x1 x2 S = some res) : CTi l y_Pn_nearest w_Pn_nearest rm_Pn_nearest 0 0 D clC (TY cA cP) [.ref (ob 0), .int x1, .int x2] (cw cA cP ob ad S) (fun r w => r = res.1 ∧ w = cw cA cP ob ad res.2) :=
  mk_i (cc := b_Pn_nearest) (maxL := 3) (own := R_Pn) (by decide) rfl rfl (Nat.le_of_ble_eq_true rfl) (fun p e s m below meth c A Q C0 hret ls hl hP hD hS => w_Pn_nearest_0 C0 hret   x1 x2 S _ _ ls hP hD hS (lv_sub hl [0, 1, 2] rfl) hf)
def f_Pn_closest_9    (S : St) : Option (Int64 × St) :=
  none
set_option maxHeartbeats 4000000 in
set_option maxRecDepth 100000 in
theorem w_Pn_closest_9 (C0 : CX p s m args c b_Pn_closest 2 R_Pn w_Pn_closest D clC cA cP A) {res : (Int64 × St)} (hret : RTl p l e rm_Pn_closest s m args below meth c Q D clC A b_Pn_closest 0 0 (fun r w => r = res.1 ∧ w = cw cA cP ob ad res.2))    : ∀  (S : St) (H : Heap) (locs : List Loc) (ls : Array Slot), va_P D clC (cw cA cP ob ad S) H → va_D A (cw cA cP ob ad S) → va_S A s.heap H locs → lv_has ls 2 [] → f_Pn_closest_9    S = some res → W p l e rm_Pn_closest s m args below meth c H locs 0 0 Q (F0 m 9 ls []) := by
  obtain ⟨hx, hb, hml, hown, hts, hK, hA, hN, hZ⟩ := id C0
  intro  S H locs ls hP hD hS hl hf
  rw [f_Pn_closest_9] at hf
  cases hf
def f_Pn_closest_0   (x1 : Int32) (S : St) : Option (Int64 × St) :=
  (if x1 < 0 then
    f_Pn_closest_9    S
    else
    (if x1 ≤ 2 then
      (if 2 ≤ (gi S 3) then
        (if x1 = 0 then
          some ((gl S 0), S)
          else
          (if x1 = 1 then
            some ((Int32.toInt64 (gi S 0)), S)
            else
            some ((Int32.toInt64 (gi S 1)), S)))
        else
        none)
      else
      f_Pn_closest_9    S))
set_option maxHeartbeats 4000000 in
set_option maxRecDepth 100000 in
theorem w_Pn_closest_0 (C0 : CX p s m args c b_Pn_closest 2 R_Pn w_Pn_closest D clC cA cP A) {res : (Int64 × St)} (hret : RTl p l e rm_Pn_closest s m args below meth c Q D clC A b_Pn_closest 0 0 (fun r w => r = res.1 ∧ w = cw cA cP ob ad res.2))    : ∀ (x1 : Int32) (S : St) (H : Heap) (locs : List Loc) (ls : Array Slot), va_P D clC (cw cA cP ob ad S) H → va_D A (cw cA cP ob ad S) → va_S A s.heap H locs → lv_has ls 2 [(0, .ref (ob 0)), (1, .int x1)] → f_Pn_closest_0   x1 S = some res → W p l e rm_Pn_closest s m args below meth c H locs 0 0 Q (F0 m 0 ls []) := by
  obtain ⟨hx, hb, hml, hown, hts, hK, hA, hN, hZ⟩ := id C0
  intro x1 S H locs ls hP hD hS hl hf
  rw [f_Pn_closest_0] at hf
  refine lv_iload_n hx hb d_Pn_closest_0 rfl (lv_at hl 1 rfl) ?_
  refine lv_if_lt (tgt := 9) hx hb d_Pn_closest_1 (by decide) (fun c_1 => ?_) (fun c_1 => ?_)
  · rw [if_pos c_1] at hf
    exact w_Pn_closest_9 C0 hret     S H locs ls hP hD hS (lv_sub hl [] rfl) hf
  · rw [if_neg c_1] at hf
    refine lv_iload_n hx hb d_Pn_closest_4 rfl (lv_at hl 1 rfl) ?_
    refine lv_iconst (v := 2) hx hb d_Pn_closest_5 (by decide) ?_
    refine lv_icmp_le (tgt := 19) hx hb d_Pn_closest_6 (by decide) (fun c_2 => ?_) (fun c_2 => ?_)
    · rw [if_pos c_2] at hf
      refine lv_aload_n hx hb d_Pn_closest_19 rfl (lv_at hl 0 rfl) ?_
      refine va_get (D := D) (ci := 0) (v := .ref (ob 1)) (C := R_Pn) (T := F_Pn) (N := 8) hx hb hts (fun w h => List.mem_cons_of_mem _ (in_Pn w h)) hown hK hP 0 rfl rfl 0 (by decide) (hts _ (List.mem_cons_of_mem _ wd_249)) (fun _ h9 => h9) rfl d_Pn_closest_20 ?_
      refine va_get (D := D) (ci := 1) (v := .int (gi S 3)) (C := R_Pt) (T := F_Pt) (N := 5) hx hb hts (fun w h => List.mem_cons_of_mem _ (in_Pt w h)) hown hK hP 1 rfl rfl 1 (by decide) (hts _ (List.mem_cons_of_mem _ wd_133)) (fun _ h9 => h9) rfl d_Pn_closest_23 ?_
      refine lv_iconst (v := 2) hx hb d_Pn_closest_26 (by decide) ?_
      refine lv_icmp_ge (tgt := 40) hx hb d_Pn_closest_27 (by decide) (fun c_3 => ?_) (fun c_3 => ?_)
      · rw [if_pos c_3] at hf
        refine lv_iload_n hx hb d_Pn_closest_40 rfl (lv_at hl 1 rfl) ?_
        refine lv_if_ne (tgt := 49) hx hb d_Pn_closest_41 (by decide) (fun c_4 => ?_) (fun c_4 => ?_)
        · rw [if_neg c_4] at hf
          refine lv_iload_n hx hb d_Pn_closest_49 rfl (lv_at hl 1 rfl) ?_
          refine lv_iconst (v := 1) hx hb d_Pn_closest_50 (by decide) ?_
          refine lv_icmp_ne (tgt := 62) hx hb d_Pn_closest_51 (by decide) (fun c_5 => ?_) (fun c_5 => ?_)
          · rw [if_neg c_5] at hf
            refine lv_aload_n hx hb d_Pn_closest_62 rfl (lv_at hl 0 rfl) ?_
            refine va_get (D := D) (ci := 0) (v := .int (gi S 1)) (C := R_Pn) (T := F_Pn) (N := 8) hx hb hts (fun w h => List.mem_cons_of_mem _ (in_Pn w h)) hown hK hP 0 rfl rfl 7 (by decide) (hts _ (List.mem_cons_of_mem _ wd_256)) (fun _ h9 => h9) rfl d_Pn_closest_63 ?_
            refine lv_i2l (v := (Int32.toInt64 (gi S 1))) hx hb d_Pn_closest_66 rfl ?_
            cases hf
            exact hret _ _ _ _ _ _ ⟨rfl, rfl⟩ hP hD hS d_Pn_closest_67
          · rw [if_pos c_5] at hf
            refine lv_aload_n hx hb d_Pn_closest_54 rfl (lv_at hl 0 rfl) ?_
            refine va_get (D := D) (ci := 0) (v := .int (gi S 0)) (C := R_Pn) (T := F_Pn) (N := 8) hx hb hts (fun w h => List.mem_cons_of_mem _ (in_Pn w h)) hown hK hP 0 rfl rfl 6 (by decide) (hts _ (List.mem_cons_of_mem _ wd_255)) (fun _ h9 => h9) rfl d_Pn_closest_55 ?_
            refine lv_i2l (v := (Int32.toInt64 (gi S 0))) hx hb d_Pn_closest_58 rfl ?_
            refine lv_goto (tgt := 67) hx hb d_Pn_closest_59 (by decide) ?_
            cases hf
            exact hret _ _ _ _ _ _ ⟨rfl, rfl⟩ hP hD hS d_Pn_closest_67
        · rw [if_pos c_4] at hf
          refine lv_aload_n hx hb d_Pn_closest_44 rfl (lv_at hl 0 rfl) ?_
          refine va_get (D := D) (ci := 0) (v := .long (gl S 0)) (C := R_Pn) (T := F_Pn) (N := 8) hx hb hts (fun w h => List.mem_cons_of_mem _ (in_Pn w h)) hown hK hP 0 rfl rfl 5 (by decide) (hts _ (List.mem_cons_of_mem _ wd_254)) (fun _ h9 => h9) rfl d_Pn_closest_45 ?_
          cases hf
          exact hret _ _ _ _ _ _ ⟨rfl, rfl⟩ hP hD hS d_Pn_closest_48
      · rw [if_neg c_3] at hf
        cases hf
    · rw [if_neg c_2] at hf
      exact w_Pn_closest_9 C0 hret     S H locs ls hP hD hS (lv_sub hl [] rfl) hf
def f_Pn_closest (x1 : Int32) (S : St) : Option (Int64 × St) := f_Pn_closest_0  x1 S
theorem c_Pn_closest (l : Launch) (D : va_G) (cA cP : ClassId) (ob : Nat → Nat) (ad : Nat → Nat → Nat) (x1 : Int32)  (S : St) {res : (Int64 × St)} (hf : f_Pn_closest x1 S = some res) : CTl l y_Pn_closest w_Pn_closest rm_Pn_closest 0 0 D clC (TY cA cP) [.ref (ob 0), .int x1] (cw cA cP ob ad S) (fun r w => r = res.1 ∧ w = cw cA cP ob ad res.2) :=
  mk_l (cc := b_Pn_closest) (maxL := 2) (own := R_Pn) (by decide) rfl rfl (Nat.le_of_ble_eq_true rfl) (fun p e s m below meth c A Q C0 hret ls hl hP hD hS => w_Pn_closest_0 C0 hret   x1 S _ _ ls hP hD hS (lv_sub hl [0, 1] rfl) hf)
def f_Pn_point_14    (S : St) : Option (Int32 × St) :=
  none
set_option maxHeartbeats 4000000 in
set_option maxRecDepth 100000 in
theorem w_Pn_point_14 (C0 : CX p s m args c b_Pn_point 3 R_Pn w_Pn_point D clC cA cP A) {res : (Int32 × St)} (hret : RTi p l e rm_Pn_point s m args below meth c Q D clC A b_Pn_point 0 0 (fun r w => r = res.1 ∧ w = cw cA cP ob ad res.2))    : ∀  (S : St) (H : Heap) (locs : List Loc) (ls : Array Slot), va_P D clC (cw cA cP ob ad S) H → va_D A (cw cA cP ob ad S) → va_S A s.heap H locs → lv_has ls 3 [] → f_Pn_point_14    S = some res → W p l e rm_Pn_point s m args below meth c H locs 0 0 Q (F0 m 14 ls []) := by
  obtain ⟨hx, hb, hml, hown, hts, hK, hA, hN, hZ⟩ := id C0
  intro  S H locs ls hP hD hS hl hf
  rw [f_Pn_point_14] at hf
  cases hf
def f_Pn_point_0   (x1 : Int32) (x2 : Int32) (S : St) : Option (Int32 × St) :=
  bd (f_Pn_checkNumber x1 S) (fun q_1 => (if x2 < 0 then
    f_Pn_point_14    q_1
    else
    (if x2 ≤ 1 then
      (if x2 = 0 then
        bd (f_Pt_x x1 q_1) (fun q_6 => some (q_6.1, q_6.2))
        else
        bd (f_Pt_y x1 q_1) (fun q_5 => some (q_5.1, q_5.2)))
      else
      f_Pn_point_14    q_1)))
set_option maxHeartbeats 4000000 in
set_option maxRecDepth 100000 in
theorem w_Pn_point_0 (C0 : CX p s m args c b_Pn_point 3 R_Pn w_Pn_point D clC cA cP A) {res : (Int32 × St)} (hret : RTi p l e rm_Pn_point s m args below meth c Q D clC A b_Pn_point 0 0 (fun r w => r = res.1 ∧ w = cw cA cP ob ad res.2))    : ∀ (x1 : Int32) (x2 : Int32) (S : St) (H : Heap) (locs : List Loc) (ls : Array Slot), va_P D clC (cw cA cP ob ad S) H → va_D A (cw cA cP ob ad S) → va_S A s.heap H locs → lv_has ls 3 [(0, .ref (ob 0)), (1, .int x1), (2, .int x2)] → f_Pn_point_0   x1 x2 S = some res → W p l e rm_Pn_point s m args below meth c H locs 0 0 Q (F0 m 0 ls []) := by
  obtain ⟨hx, hb, hml, hown, hts, hK, hA, hN, hZ⟩ := id C0
  intro x1 x2 S H locs ls hP hD hS hl hf
  rw [f_Pn_point_0] at hf
  refine lv_aload_n hx hb d_Pn_point_0 rfl (lv_at hl 0 rfl) ?_
  refine lv_iload_n hx hb d_Pn_point_1 rfl (lv_at hl 1 rfl) ?_
  obtain ⟨q_1, hq_1, hf⟩ := bd_some hf
  refine kc_v (va_runV (As := [.int x1]) (rest := []) ⟨hx, hb, hml, hown, hts⟩ (c_Pn_checkNumber l D cA cP ob ad x1  S hq_1 H.size) ⟨callB_of 1 hts (gd_Pn_checkNumber) rfl rfl rfl (hts _ (List.mem_cons_of_mem _ wd_64)) (hts _ (List.mem_cons_of_mem _ wd_720)) dd_Pn_checkNumber ⟨Nat.le_of_ble_eq_true rfl, Nat.le_of_ble_eq_true rfl⟩, (hts _ (List.mem_cons_of_mem _ wd_722)), (hts _ (List.mem_cons_of_mem _ wd_27))⟩ (kpV hK hP hD hN hZ hS 0 0 rfl rfl) rfl rfl hl.1 rfl (lv_room (Nat.le_of_ble_eq_true rfl)) d_Pn_point_2 ⟨Nat.le_of_ble_eq_true rfl, Nat.le_of_ble_eq_true rfl⟩) hP hD hS hA (fun w H locs hw hP hD hS => ?_)
  obtain rfl := hw
  refine lv_iload_n hx hb d_Pn_point_5 rfl (lv_at hl 2 rfl) ?_
  refine lv_if_lt (tgt := 14) hx hb d_Pn_point_6 (by decide) (fun c_2 => ?_) (fun c_2 => ?_)
  · rw [if_pos c_2] at hf
    exact w_Pn_point_14 C0 hret     q_1 H locs ls hP hD hS (lv_sub hl [] rfl) hf
  · rw [if_neg c_2] at hf
    refine lv_iload_n hx hb d_Pn_point_9 rfl (lv_at hl 2 rfl) ?_
    refine lv_iconst (v := 1) hx hb d_Pn_point_10 (by decide) ?_
    refine lv_icmp_le (tgt := 24) hx hb d_Pn_point_11 (by decide) (fun c_3 => ?_) (fun c_3 => ?_)
    · rw [if_pos c_3] at hf
      refine lv_iload_n hx hb d_Pn_point_24 rfl (lv_at hl 2 rfl) ?_
      refine lv_if_ne (tgt := 39) hx hb d_Pn_point_25 (by decide) (fun c_4 => ?_) (fun c_4 => ?_)
      · rw [if_neg c_4] at hf
        refine lv_aload_n hx hb d_Pn_point_39 rfl (lv_at hl 0 rfl) ?_
        refine va_get (D := D) (ci := 0) (v := .ref (ob 1)) (C := R_Pn) (T := F_Pn) (N := 8) hx hb hts (fun w h => List.mem_cons_of_mem _ (in_Pn w h)) hown hK hP 0 rfl rfl 0 (by decide) (hts _ (List.mem_cons_of_mem _ wd_249)) (fun _ h9 => h9) rfl d_Pn_point_40 ?_
        refine lv_iload_n hx hb d_Pn_point_43 rfl (lv_at hl 1 rfl) ?_
        obtain ⟨q_5, hq_5, hf⟩ := bd_some hf
        refine kc_i (va_runV (As := [.int x1]) (rest := []) ⟨hx, hb, hml, hown, hts⟩ (c_Pt_y l D cA cP ob ad x1  q_1 hq_5 H.size) ⟨callB_of 1 hts (gd_Pt_y) rfl rfl rfl (hts _ (List.mem_cons_of_mem _ wd_65)) (hts _ (List.mem_cons_of_mem _ wd_566)) dd_Pt_y ⟨Nat.le_of_ble_eq_true rfl, Nat.le_of_ble_eq_true rfl⟩, (hts _ (List.mem_cons_of_mem _ wd_405)), (hts _ (List.mem_cons_of_mem _ wd_406))⟩ (kpV hK hP hD hN hZ hS 1 1 rfl rfl) rfl rfl hl.1 rfl (lv_room (Nat.le_of_ble_eq_true rfl)) d_Pn_point_44 ⟨Nat.le_of_ble_eq_true rfl, Nat.le_of_ble_eq_true rfl⟩) hP hD hS hA (fun r w H locs hw hP hD hS => ?_)
        obtain ⟨rfl, rfl⟩ := hw
        cases hf
        exact hret _ _ _ _ _ _ ⟨rfl, rfl⟩ hP hD hS d_Pn_point_47
      · rw [if_pos c_4] at hf
        refine lv_aload_n hx hb d_Pn_point_28 rfl (lv_at hl 0 rfl) ?_
        refine va_get (D := D) (ci := 0) (v := .ref (ob 1)) (C := R_Pn) (T := F_Pn) (N := 8) hx hb hts (fun w h => List.mem_cons_of_mem _ (in_Pn w h)) hown hK hP 0 rfl rfl 0 (by decide) (hts _ (List.mem_cons_of_mem _ wd_249)) (fun _ h9 => h9) rfl d_Pn_point_29 ?_
        refine lv_iload_n hx hb d_Pn_point_32 rfl (lv_at hl 1 rfl) ?_
        obtain ⟨q_6, hq_6, hf⟩ := bd_some hf
        refine kc_i (va_runV (As := [.int x1]) (rest := []) ⟨hx, hb, hml, hown, hts⟩ (c_Pt_x l D cA cP ob ad x1  q_1 hq_6 H.size) ⟨callB_of 1 hts (gd_Pt_x) rfl rfl rfl (hts _ (List.mem_cons_of_mem _ wd_65)) (hts _ (List.mem_cons_of_mem _ wd_565)) dd_Pt_x ⟨Nat.le_of_ble_eq_true rfl, Nat.le_of_ble_eq_true rfl⟩, (hts _ (List.mem_cons_of_mem _ wd_401)), (hts _ (List.mem_cons_of_mem _ wd_402))⟩ (kpV hK hP hD hN hZ hS 1 1 rfl rfl) rfl rfl hl.1 rfl (lv_room (Nat.le_of_ble_eq_true rfl)) d_Pn_point_33 ⟨Nat.le_of_ble_eq_true rfl, Nat.le_of_ble_eq_true rfl⟩) hP hD hS hA (fun r w H locs hw hP hD hS => ?_)
        obtain ⟨rfl, rfl⟩ := hw
        refine lv_goto (tgt := 47) hx hb d_Pn_point_36 (by decide) ?_
        cases hf
        exact hret _ _ _ _ _ _ ⟨rfl, rfl⟩ hP hD hS d_Pn_point_47
    · rw [if_neg c_3] at hf
      exact w_Pn_point_14 C0 hret     q_1 H locs ls hP hD hS (lv_sub hl [] rfl) hf
def f_Pn_point (x1 : Int32) (x2 : Int32) (S : St) : Option (Int32 × St) := f_Pn_point_0  x1 x2 S
theorem c_Pn_point (l : Launch) (D : va_G) (cA cP : ClassId) (ob : Nat → Nat) (ad : Nat → Nat → Nat) (x1 : Int32) (x2 : Int32)  (S : St) {res : (Int32 × St)} (hf : f_Pn_point x1 x2 S = some res) : CTi l y_Pn_point w_Pn_point rm_Pn_point 0 0 D clC (TY cA cP) [.ref (ob 0), .int x1, .int x2] (cw cA cP ob ad S) (fun r w => r = res.1 ∧ w = cw cA cP ob ad res.2) :=
  mk_i (cc := b_Pn_point) (maxL := 3) (own := R_Pn) (by decide) rfl rfl (Nat.le_of_ble_eq_true rfl) (fun p e s m below meth c A Q C0 hret ls hl hP hD hS => w_Pn_point_0 C0 hret   x1 x2 S _ _ ls hP hD hS (lv_sub hl [0, 1, 2] rfl) hf)
def f_Pn_count_0   (x1 : Int32) (S : St) : Option (Int32 × St) :=
  (if Int32.toInt x1 = 0 then
    some ((gi S 3), S)
    else (if Int32.toInt x1 = 1 then
    bd (f_Nt_solidCount  S) (fun q_3 => some (q_3.1, q_3.2))
    else (if Int32.toInt x1 = 2 then
    bd (f_Ol_many  S) (fun q_5 => some (q_5.1, q_5.2))
    else some ((-1), S))))
set_option maxHeartbeats 4000000 in
set_option maxRecDepth 100000 in
theorem w_Pn_count_0 (C0 : CX p s m args c b_Pn_count 2 R_Pn w_Pn_count D clC cA cP A) {res : (Int32 × St)} (hret : RTi p l e rm_Pn_count s m args below meth c Q D clC A b_Pn_count 0 0 (fun r w => r = res.1 ∧ w = cw cA cP ob ad res.2))    : ∀ (x1 : Int32) (S : St) (H : Heap) (locs : List Loc) (ls : Array Slot), va_P D clC (cw cA cP ob ad S) H → va_D A (cw cA cP ob ad S) → va_S A s.heap H locs → lv_has ls 2 [(0, .ref (ob 0)), (1, .int x1)] → f_Pn_count_0   x1 S = some res → W p l e rm_Pn_count s m args below meth c H locs 0 0 Q (F0 m 0 ls []) := by
  obtain ⟨hx, hb, hml, hown, hts, hK, hA, hN, hZ⟩ := id C0
  intro x1 S H locs ls hP hD hS hl hf
  rw [f_Pn_count_0] at hf
  refine lv_iload_n hx hb d_Pn_count_0 rfl (lv_at hl 1 rfl) ?_
  by_cases c_1 : Int32.toInt x1 = 0
  · rw [if_pos c_1] at hf
    refine lv_tableIn (tgt := 28) hx hb d_Pn_count_1 (by omega) (by omega) (by rw [c_1]; rfl) (by decide) ?_
    refine lv_aload_n hx hb d_Pn_count_28 rfl (lv_at hl 0 rfl) ?_
    refine va_get (D := D) (ci := 0) (v := .ref (ob 1)) (C := R_Pn) (T := F_Pn) (N := 8) hx hb hts (fun w h => List.mem_cons_of_mem _ (in_Pn w h)) hown hK hP 0 rfl rfl 0 (by decide) (hts _ (List.mem_cons_of_mem _ wd_249)) (fun _ h9 => h9) rfl d_Pn_count_29 ?_
    refine va_get (D := D) (ci := 1) (v := .int (gi S 3)) (C := R_Pt) (T := F_Pt) (N := 5) hx hb hts (fun w h => List.mem_cons_of_mem _ (in_Pt w h)) hown hK hP 1 rfl rfl 1 (by decide) (hts _ (List.mem_cons_of_mem _ wd_133)) (fun _ h9 => h9) rfl d_Pn_count_32 ?_
    cases hf
    exact hret _ _ _ _ _ _ ⟨rfl, rfl⟩ hP hD hS d_Pn_count_35
  rw [if_neg c_1] at hf
  by_cases c_2 : Int32.toInt x1 = 1
  · rw [if_pos c_2] at hf
    refine lv_tableIn (tgt := 36) hx hb d_Pn_count_1 (by omega) (by omega) (by rw [c_2]; rfl) (by decide) ?_
    refine lv_aload_n hx hb d_Pn_count_36 rfl (lv_at hl 0 rfl) ?_
    refine va_get (D := D) (ci := 0) (v := .ref (ob 3)) (C := R_Pn) (T := F_Pn) (N := 8) hx hb hts (fun w h => List.mem_cons_of_mem _ (in_Pn w h)) hown hK hP 0 rfl rfl 1 (by decide) (hts _ (List.mem_cons_of_mem _ wd_250)) (fun _ h9 => h9) rfl d_Pn_count_37 ?_
    obtain ⟨q_3, hq_3, hf⟩ := bd_some hf
    refine kc_i (va_runV (As := []) (rest := []) ⟨hx, hb, hml, hown, hts⟩ (c_Nt_solidCount l D cA cP ob ad   S hq_3 H.size) ⟨callB_of 0 hts (gd_Nt_solidCount) rfl rfl rfl (hts _ (List.mem_cons_of_mem _ wd_69)) (hts _ (List.mem_cons_of_mem _ wd_310)) dd_Nt_solidCount ⟨Nat.le_of_ble_eq_true rfl, Nat.le_of_ble_eq_true rfl⟩, (hts _ (List.mem_cons_of_mem _ wd_311)), (hts _ (List.mem_cons_of_mem _ wd_312))⟩ (kpV hK hP hD hN hZ hS 3 3 rfl rfl) rfl rfl hl.1 rfl (lv_room (Nat.le_of_ble_eq_true rfl)) d_Pn_count_40 ⟨Nat.le_of_ble_eq_true rfl, Nat.le_of_ble_eq_true rfl⟩) hP hD hS hA (fun r w H locs hw hP hD hS => ?_)
    obtain ⟨rfl, rfl⟩ := hw
    cases hf
    exact hret _ _ _ _ _ _ ⟨rfl, rfl⟩ hP hD hS d_Pn_count_43
  rw [if_neg c_2] at hf
  by_cases c_4 : Int32.toInt x1 = 2
  · rw [if_pos c_4] at hf
    refine lv_tableIn (tgt := 44) hx hb d_Pn_count_1 (by omega) (by omega) (by rw [c_4]; rfl) (by decide) ?_
    refine lv_aload_n hx hb d_Pn_count_44 rfl (lv_at hl 0 rfl) ?_
    refine va_get (D := D) (ci := 0) (v := .ref (ob 5)) (C := R_Pn) (T := F_Pn) (N := 8) hx hb hts (fun w h => List.mem_cons_of_mem _ (in_Pn w h)) hown hK hP 0 rfl rfl 3 (by decide) (hts _ (List.mem_cons_of_mem _ wd_252)) (fun _ h9 => h9) rfl d_Pn_count_45 ?_
    obtain ⟨q_5, hq_5, hf⟩ := bd_some hf
    refine kc_i (va_runV (As := []) (rest := []) ⟨hx, hb, hml, hown, hts⟩ (c_Ol_many l D cA cP ob ad   S hq_5 H.size) ⟨callB_of 0 hts (gd_Ol_many) rfl rfl rfl (hts _ (List.mem_cons_of_mem _ wd_71)) (hts _ (List.mem_cons_of_mem _ wd_314)) dd_Ol_many ⟨Nat.le_of_ble_eq_true rfl, Nat.le_of_ble_eq_true rfl⟩, (hts _ (List.mem_cons_of_mem _ wd_315)), (hts _ (List.mem_cons_of_mem _ wd_316))⟩ (kpV hK hP hD hN hZ hS 5 5 rfl rfl) rfl rfl hl.1 rfl (lv_room (Nat.le_of_ble_eq_true rfl)) d_Pn_count_48 ⟨Nat.le_of_ble_eq_true rfl, Nat.le_of_ble_eq_true rfl⟩) hP hD hS hA (fun r w H locs hw hP hD hS => ?_)
    obtain ⟨rfl, rfl⟩ := hw
    cases hf
    exact hret _ _ _ _ _ _ ⟨rfl, rfl⟩ hP hD hS d_Pn_count_51
  rw [if_neg c_4] at hf
  refine lv_tableOut (tgt := 52) hx hb d_Pn_count_1 (by omega) (by decide) ?_
  refine lv_iconst (v := (-1)) hx hb d_Pn_count_52 (by decide) ?_
  cases hf
  exact hret _ _ _ _ _ _ ⟨rfl, rfl⟩ hP hD hS d_Pn_count_53
def f_Pn_count (x1 : Int32) (S : St) : Option (Int32 × St) := f_Pn_count_0  x1 S
theorem c_Pn_count (l : Launch) (D : va_G) (cA cP : ClassId) (ob : Nat → Nat) (ad : Nat → Nat → Nat) (x1 : Int32)  (S : St) {res : (Int32 × St)} (hf : f_Pn_count x1 S = some res) : CTi l y_Pn_count w_Pn_count rm_Pn_count 0 0 D clC (TY cA cP) [.ref (ob 0), .int x1] (cw cA cP ob ad S) (fun r w => r = res.1 ∧ w = cw cA cP ob ad res.2) :=
  mk_i (cc := b_Pn_count) (maxL := 2) (own := R_Pn) (by decide) rfl rfl (Nat.le_of_ble_eq_true rfl) (fun p e s m below meth c A Q C0 hret ls hl hP hD hS => w_Pn_count_0 C0 hret   x1 S _ _ ls hP hD hS (lv_sub hl [0, 1] rfl) hf)
def f_Md_thrown_0    (S : St) : Option (Int32 × St) :=
  some ((gi S 0), S)
set_option maxHeartbeats 4000000 in
set_option maxRecDepth 100000 in
theorem w_Md_thrown_0 (C0 : CX p s m args c b_Md_thrown 1 R_Md w_Md_thrown D clC cA cP A) {res : (Int32 × St)} (hret : RTi p l e rm_Md_thrown s m args below meth c Q D clC A b_Md_thrown 0 0 (fun r w => r = res.1 ∧ w = mw cA cP ob ad res.2))    : ∀  (S : St) (H : Heap) (locs : List Loc) (ls : Array Slot), va_P D clC (mw cA cP ob ad S) H → va_D A (mw cA cP ob ad S) → va_S A s.heap H locs → lv_has ls 1 [(0, .ref (ob 0))] → f_Md_thrown_0    S = some res → W p l e rm_Md_thrown s m args below meth c H locs 0 0 Q (F0 m 0 ls []) := by
  obtain ⟨hx, hb, hml, hown, hts, hK, hA, hN, hZ⟩ := id C0
  intro  S H locs ls hP hD hS hl hf
  rw [f_Md_thrown_0] at hf
  refine lv_aload_n hx hb d_Md_thrown_0 rfl (lv_at hl 0 rfl) ?_
  refine va_get (D := D) (ci := 7) (v := .int (gi S 0)) (C := R_Md) (T := F_Md) (N := 26) hx hb hts (fun w h => List.mem_cons_of_mem _ (in_Md w h)) hown hK hP 0 rfl rfl 0 (by decide) (hts _ (List.mem_cons_of_mem _ wd_822)) (fun _ h9 => h9) rfl d_Md_thrown_1 ?_
  cases hf
  exact hret _ _ _ _ _ _ ⟨rfl, rfl⟩ hP hD hS d_Md_thrown_4
def f_Md_thrown  (S : St) : Option (Int32 × St) := f_Md_thrown_0   S
theorem c_Md_thrown (l : Launch) (D : va_G) (cA cP : ClassId) (ob : Nat → Nat) (ad : Nat → Nat → Nat)   (S : St) {res : (Int32 × St)} (hf : f_Md_thrown  S = some res) : CTi l y_Md_thrown w_Md_thrown rm_Md_thrown 0 0 D clC (TY cA cP) [.ref (ob 0)] (mw cA cP ob ad S) (fun r w => r = res.1 ∧ w = mw cA cP ob ad res.2) :=
  mk_i (cc := b_Md_thrown) (maxL := 1) (own := R_Md) (by decide) rfl rfl (Nat.le_of_ble_eq_true rfl) (fun p e s m below meth c A Q C0 hret ls hl hP hD hS => w_Md_thrown_0 C0 hret    S _ _ ls hP hD hS (lv_sub hl [0] rfl) hf)
def f_Md_fail_0   (x1 : Int32) (S : St) : Option (Int32 × St) :=
  bn (seti S 0 x1) (fun S_1 => some (0, S_1))
set_option maxHeartbeats 4000000 in
set_option maxRecDepth 100000 in
theorem w_Md_fail_0 (C0 : CX p s m args c b_Md_fail 2 R_Md w_Md_fail D clC cA cP A) {res : (Int32 × St)} (hret : RTi p l e rm_Md_fail s m args below meth c Q D clC A b_Md_fail 0 0 (fun r w => r = res.1 ∧ w = mw cA cP ob ad res.2))    : ∀ (x1 : Int32) (S : St) (H : Heap) (locs : List Loc) (ls : Array Slot), va_P D clC (mw cA cP ob ad S) H → va_D A (mw cA cP ob ad S) → va_S A s.heap H locs → lv_has ls 2 [(0, .ref (ob 0)), (1, .int x1)] → f_Md_fail_0   x1 S = some res → W p l e rm_Md_fail s m args below meth c H locs 0 0 Q (F0 m 0 ls []) := by
  obtain ⟨hx, hb, hml, hown, hts, hK, hA, hN, hZ⟩ := id C0
  intro x1 S H locs ls hP hD hS hl hf
  rw [f_Md_fail_0] at hf
  refine lv_aload_n hx hb d_Md_fail_0 rfl (lv_at hl 0 rfl) ?_
  refine lv_iload_n hx hb d_Md_fail_1 rfl (lv_at hl 1 rfl) ?_
  obtain ⟨S_1, eS_1, hf⟩ := bn_some hf
  refine va_put (D := D) (ci := 7) (v := .int x1) (ty := .int) (C := R_Md) (T := F_Md) (N := 26) hx hb hts (fun w h => List.mem_cons_of_mem _ (in_Md w h)) t_Md tk_Md nk_Md hown hK hP hD hS 0 rfl rfl 0 (by decide) (hts _ (List.mem_cons_of_mem _ wd_822)) (fun _ h9 => h9) rfl (by decide +kernel) rfl rfl (Nat.le_of_ble_eq_true rfl) d_Md_fail_2 (fun H locs hP hD hS => ?_)
  have hP : va_P D clC (mw cA cP ob ad S_1) H := by rw [eS_1]; exact hP
  have hD : va_D A (mw cA cP ob ad S_1) := by rw [eS_1]; exact hD
  refine lv_iconst (v := 0) hx hb d_Md_fail_5 (by decide) ?_
  cases hf
  exact hret _ _ _ _ _ _ ⟨rfl, rfl⟩ hP hD hS d_Md_fail_6
def f_Md_fail (x1 : Int32) (S : St) : Option (Int32 × St) := f_Md_fail_0  x1 S
theorem c_Md_fail (l : Launch) (D : va_G) (cA cP : ClassId) (ob : Nat → Nat) (ad : Nat → Nat → Nat) (x1 : Int32)  (S : St) {res : (Int32 × St)} (hf : f_Md_fail x1 S = some res) : CTi l y_Md_fail w_Md_fail rm_Md_fail 0 0 D clC (TY cA cP) [.ref (ob 0), .int x1] (mw cA cP ob ad S) (fun r w => r = res.1 ∧ w = mw cA cP ob ad res.2) :=
  mk_i (cc := b_Md_fail) (maxL := 2) (own := R_Md) (by decide) rfl rfl (Nat.le_of_ble_eq_true rfl) (fun p e s m below meth c A Q C0 hret ls hl hP hD hS => w_Md_fail_0 C0 hret   x1 S _ _ ls hP hD hS (lv_sub hl [0, 1] rfl) hf)
def f_Md_within_0   (x0 : Int32) (x1 : Int32) (x2 : Int32) (S : St) : Option (Int32 × St) :=
  (if x0 < x1 then
    some (0, S)
    else
    (if x2 < x0 then
      some (0, S)
      else
      some (1, S)))
set_option maxHeartbeats 4000000 in
set_option maxRecDepth 100000 in
theorem w_Md_within_0 (C0 : CX p s m args c b_Md_within 3 R_Md w_Md_within D clC cA cP A) {res : (Int32 × St)} (hret : RTz p l e rm_Md_within s m args below meth c Q D clC A b_Md_within 0 0 (fun r w => r = res.1 ∧ w = mw cA cP ob ad res.2))    : ∀ (x0 : Int32) (x1 : Int32) (x2 : Int32) (S : St) (H : Heap) (locs : List Loc) (ls : Array Slot), va_P D clC (mw cA cP ob ad S) H → va_D A (mw cA cP ob ad S) → va_S A s.heap H locs → lv_has ls 3 [(0, .int x0), (1, .int x1), (2, .int x2)] → f_Md_within_0   x0 x1 x2 S = some res → W p l e rm_Md_within s m args below meth c H locs 0 0 Q (F0 m 0 ls []) := by
  obtain ⟨hx, hb, hml, hown, hts, hK, hA, hN, hZ⟩ := id C0
  intro x0 x1 x2 S H locs ls hP hD hS hl hf
  rw [f_Md_within_0] at hf
  refine lv_iload_n hx hb d_Md_within_0 rfl (lv_at hl 0 rfl) ?_
  refine lv_iload_n hx hb d_Md_within_1 rfl (lv_at hl 1 rfl) ?_
  refine lv_icmp_lt (tgt := 14) hx hb d_Md_within_2 (by decide) (fun c_1 => ?_) (fun c_1 => ?_)
  · rw [if_pos c_1] at hf
    refine lv_iconst (v := 0) hx hb d_Md_within_14 (by decide) ?_
    cases hf
    exact hret _ _ _ _ _ _ ⟨rfl, rfl⟩ rfl hP hD hS d_Md_within_15
  · rw [if_neg c_1] at hf
    refine lv_iload_n hx hb d_Md_within_5 rfl (lv_at hl 0 rfl) ?_
    refine lv_iload_n hx hb d_Md_within_6 rfl (lv_at hl 2 rfl) ?_
    refine lv_icmp_gt (tgt := 14) hx hb d_Md_within_7 (by decide) (fun c_2 => ?_) (fun c_2 => ?_)
    · rw [if_pos c_2] at hf
      refine lv_iconst (v := 0) hx hb d_Md_within_14 (by decide) ?_
      cases hf
      exact hret _ _ _ _ _ _ ⟨rfl, rfl⟩ rfl hP hD hS d_Md_within_15
    · rw [if_neg c_2] at hf
      refine lv_iconst (v := 1) hx hb d_Md_within_10 (by decide) ?_
      refine lv_goto (tgt := 15) hx hb d_Md_within_11 (by decide) ?_
      cases hf
      exact hret _ _ _ _ _ _ ⟨rfl, rfl⟩ rfl hP hD hS d_Md_within_15
def f_Md_within (x0 : Int32) (x1 : Int32) (x2 : Int32) (S : St) : Option (Int32 × St) := f_Md_within_0  x0 x1 x2 S
theorem c_Md_within (l : Launch) (D : va_G) (cA cP : ClassId) (ob : Nat → Nat) (ad : Nat → Nat → Nat) (x0 : Int32) (x1 : Int32) (x2 : Int32)  (S : St) {res : (Int32 × St)} (hf : f_Md_within x0 x1 x2 S = some res) : CTi l y_Md_within w_Md_within rm_Md_within 0 0 D clC (TY cA cP) [.int x0, .int x1, .int x2] (mw cA cP ob ad S) (fun r w => r = res.1 ∧ w = mw cA cP ob ad res.2) :=
  mk_z (cc := b_Md_within) (maxL := 3) (own := R_Md) (by decide) rfl rfl (Nat.le_of_ble_eq_true rfl) (fun p e s m below meth c A Q C0 hret ls hl hP hD hS => w_Md_within_0 C0 hret   x0 x1 x2 S _ _ ls hP hD hS (lv_sub hl [0, 1, 2] rfl) hf)
def f_Md_isFar_22    (S : St) : Option (Int32 × St) :=
  some (1, S)
set_option maxHeartbeats 4000000 in
set_option maxRecDepth 100000 in
theorem w_Md_isFar_22 (C0 : CX p s m args c b_Md_isFar 2 R_Md w_Md_isFar D clC cA cP A) {res : (Int32 × St)} (hret : RTz p l e rm_Md_isFar s m args below meth c Q D clC A b_Md_isFar 0 0 (fun r w => r = res.1 ∧ w = mw cA cP ob ad res.2))    : ∀  (S : St) (H : Heap) (locs : List Loc) (ls : Array Slot), va_P D clC (mw cA cP ob ad S) H → va_D A (mw cA cP ob ad S) → va_S A s.heap H locs → lv_has ls 2 [] → f_Md_isFar_22    S = some res → W p l e rm_Md_isFar s m args below meth c H locs 0 0 Q (F0 m 22 ls []) := by
  obtain ⟨hx, hb, hml, hown, hts, hK, hA, hN, hZ⟩ := id C0
  intro  S H locs ls hP hD hS hl hf
  rw [f_Md_isFar_22] at hf
  refine lv_iconst (v := 1) hx hb d_Md_isFar_22 (by decide) ?_
  refine lv_goto (tgt := 27) hx hb d_Md_isFar_23 (by decide) ?_
  cases hf
  exact hret _ _ _ _ _ _ ⟨rfl, rfl⟩ rfl hP hD hS d_Md_isFar_27
def f_Md_isFar_0   (x0 : Int32) (x1 : Int32) (S : St) : Option (Int32 × St) :=
  bd (f_Md_within x0 (-1000000000) 1000000000 S) (fun q_1 => (if q_1.1 = 0 then
    f_Md_isFar_22    q_1.2
    else
    bd (f_Md_within x1 (-1000000000) 1000000000 q_1.2) (fun q_3 => (if q_3.1 = 0 then
      f_Md_isFar_22    q_3.2
      else
      some (0, q_3.2)))))
set_option maxHeartbeats 4000000 in
set_option maxRecDepth 100000 in
theorem w_Md_isFar_0 (C0 : CX p s m args c b_Md_isFar 2 R_Md w_Md_isFar D clC cA cP A) {res : (Int32 × St)} (hret : RTz p l e rm_Md_isFar s m args below meth c Q D clC A b_Md_isFar 0 0 (fun r w => r = res.1 ∧ w = mw cA cP ob ad res.2))    : ∀ (x0 : Int32) (x1 : Int32) (S : St) (H : Heap) (locs : List Loc) (ls : Array Slot), va_P D clC (mw cA cP ob ad S) H → va_D A (mw cA cP ob ad S) → va_S A s.heap H locs → lv_has ls 2 [(0, .int x0), (1, .int x1)] → f_Md_isFar_0   x0 x1 S = some res → W p l e rm_Md_isFar s m args below meth c H locs 0 0 Q (F0 m 0 ls []) := by
  obtain ⟨hx, hb, hml, hown, hts, hK, hA, hN, hZ⟩ := id C0
  intro x0 x1 S H locs ls hP hD hS hl hf
  rw [f_Md_isFar_0] at hf
  refine lv_iload_n hx hb d_Md_isFar_0 rfl (lv_at hl 0 rfl) ?_
  refine lv_ldc (v := (-1000000000)) hx hb hown (hts _ (List.mem_cons_of_mem _ wd_912)) d_Md_isFar_1 ?_
  refine lv_ldc (v := 1000000000) hx hb hown (hts _ (List.mem_cons_of_mem _ wd_913)) d_Md_isFar_3 ?_
  obtain ⟨q_1, hq_1, hf⟩ := bd_some hf
  refine kc_i (va_runS (As := [.int x0, .int (-1000000000), .int 1000000000]) (rest := []) ⟨hx, hb, hml, hown, hts⟩ (c_Md_within l D cA cP ob ad x0 (-1000000000) 1000000000  S hq_1 H.size) ⟨callB_of 3 hts (gd_Md_within) rfl rfl rfl (hts _ (List.mem_cons_of_mem _ wd_72)) (hts _ (List.mem_cons_of_mem _ wd_914)) dd_Md_within ⟨Nat.le_of_ble_eq_true rfl, Nat.le_of_ble_eq_true rfl⟩, (hts _ (List.mem_cons_of_mem _ wd_915))⟩ (kpS hK hP hD hN hZ hS) rfl rfl hl.1 rfl (lv_room (Nat.le_of_ble_eq_true rfl)) d_Md_isFar_5 ⟨Nat.le_of_ble_eq_true rfl, Nat.le_of_ble_eq_true rfl⟩) hP hD hS hA (fun r w H locs hw hP hD hS => ?_)
  obtain ⟨rfl, rfl⟩ := hw
  refine lv_if_eq (tgt := 22) hx hb d_Md_isFar_8 (by decide) (fun c_2 => ?_) (fun c_2 => ?_)
  · rw [if_pos c_2] at hf
    exact w_Md_isFar_22 C0 hret     q_1.2 H locs ls hP hD hS (lv_sub hl [] rfl) hf
  · rw [if_neg c_2] at hf
    refine lv_iload_n hx hb d_Md_isFar_11 rfl (lv_at hl 1 rfl) ?_
    refine lv_ldc (v := (-1000000000)) hx hb hown (hts _ (List.mem_cons_of_mem _ wd_912)) d_Md_isFar_12 ?_
    refine lv_ldc (v := 1000000000) hx hb hown (hts _ (List.mem_cons_of_mem _ wd_913)) d_Md_isFar_14 ?_
    obtain ⟨q_3, hq_3, hf⟩ := bd_some hf
    refine kc_i (va_runS (As := [.int x1, .int (-1000000000), .int 1000000000]) (rest := []) ⟨hx, hb, hml, hown, hts⟩ (c_Md_within l D cA cP ob ad x1 (-1000000000) 1000000000  q_1.2 hq_3 H.size) ⟨callB_of 3 hts (gd_Md_within) rfl rfl rfl (hts _ (List.mem_cons_of_mem _ wd_72)) (hts _ (List.mem_cons_of_mem _ wd_914)) dd_Md_within ⟨Nat.le_of_ble_eq_true rfl, Nat.le_of_ble_eq_true rfl⟩, (hts _ (List.mem_cons_of_mem _ wd_915))⟩ (kpS hK hP hD hN hZ hS) rfl rfl hl.1 rfl (lv_room (Nat.le_of_ble_eq_true rfl)) d_Md_isFar_16 ⟨Nat.le_of_ble_eq_true rfl, Nat.le_of_ble_eq_true rfl⟩) hP hD hS hA (fun r w H locs hw hP hD hS => ?_)
    obtain ⟨rfl, rfl⟩ := hw
    refine lv_if_ne (tgt := 26) hx hb d_Md_isFar_19 (by decide) (fun c_4 => ?_) (fun c_4 => ?_)
    · rw [if_neg c_4] at hf
      refine lv_iconst (v := 0) hx hb d_Md_isFar_26 (by decide) ?_
      cases hf
      exact hret _ _ _ _ _ _ ⟨rfl, rfl⟩ rfl hP hD hS d_Md_isFar_27
    · rw [if_pos c_4] at hf
      exact w_Md_isFar_22 C0 hret     q_3.2 H locs ls hP hD hS (lv_sub hl [] rfl) hf
def f_Md_isFar (x0 : Int32) (x1 : Int32) (S : St) : Option (Int32 × St) := f_Md_isFar_0  x0 x1 S
theorem c_Md_isFar (l : Launch) (D : va_G) (cA cP : ClassId) (ob : Nat → Nat) (ad : Nat → Nat → Nat) (x0 : Int32) (x1 : Int32)  (S : St) {res : (Int32 × St)} (hf : f_Md_isFar x0 x1 S = some res) : CTi l y_Md_isFar w_Md_isFar rm_Md_isFar 0 0 D clC (TY cA cP) [.int x0, .int x1] (mw cA cP ob ad S) (fun r w => r = res.1 ∧ w = mw cA cP ob ad res.2) :=
  mk_z (cc := b_Md_isFar) (maxL := 2) (own := R_Md) (by decide) rfl rfl (Nat.le_of_ble_eq_true rfl) (fun p e s m below meth c A Q C0 hret ls hl hP hD hS => w_Md_isFar_0 C0 hret   x0 x1 S _ _ ls hP hD hS (lv_sub hl [0, 1] rfl) hf)
def f_Md_sign_0   (x0 : Int64) (S : St) : Option (Int32 × St) :=
  (if (lg_cmp x0 0) ≤ 0 then
    (if 0 ≤ (lg_cmp x0 0) then
      some (0, S)
      else
      some ((-1), S))
    else
    some (1, S))
set_option maxHeartbeats 4000000 in
set_option maxRecDepth 100000 in
theorem w_Md_sign_0 (C0 : CX p s m args c b_Md_sign 2 R_Md w_Md_sign D clC cA cP A) {res : (Int32 × St)} (hret : RTi p l e rm_Md_sign s m args below meth c Q D clC A b_Md_sign 0 0 (fun r w => r = res.1 ∧ w = mw cA cP ob ad res.2))    : ∀ (x0 : Int64) (S : St) (H : Heap) (locs : List Loc) (ls : Array Slot), va_P D clC (mw cA cP ob ad S) H → va_D A (mw cA cP ob ad S) → va_S A s.heap H locs → lv_has ls 2 [(0, .long x0)] → f_Md_sign_0   x0 S = some res → W p l e rm_Md_sign s m args below meth c H locs 0 0 Q (F0 m 0 ls []) := by
  obtain ⟨hx, hb, hml, hown, hts, hK, hA, hN, hZ⟩ := id C0
  intro x0 S H locs ls hP hD hS hl hf
  rw [f_Md_sign_0] at hf
  refine lv_lload_n hx hb d_Md_sign_0 rfl (lv_at hl 0 rfl) ?_
  refine lv_lconst (v := 0) hx hb d_Md_sign_1 (by decide) ?_
  refine W.lcmp hx hb d_Md_sign_2 ?_
  refine lv_if_le (tgt := 10) hx hb d_Md_sign_3 (by decide) (fun c_1 => ?_) (fun c_1 => ?_)
  · rw [if_pos c_1] at hf
    refine lv_lload_n hx hb d_Md_sign_10 rfl (lv_at hl 0 rfl) ?_
    refine lv_lconst (v := 0) hx hb d_Md_sign_11 (by decide) ?_
    refine W.lcmp hx hb d_Md_sign_12 ?_
    refine lv_if_ge (tgt := 20) hx hb d_Md_sign_13 (by decide) (fun c_2 => ?_) (fun c_2 => ?_)
    · rw [if_pos c_2] at hf
      refine lv_iconst (v := 0) hx hb d_Md_sign_20 (by decide) ?_
      cases hf
      exact hret _ _ _ _ _ _ ⟨rfl, rfl⟩ hP hD hS d_Md_sign_21
    · rw [if_neg c_2] at hf
      refine lv_iconst (v := (-1)) hx hb d_Md_sign_16 (by decide) ?_
      refine lv_goto (tgt := 21) hx hb d_Md_sign_17 (by decide) ?_
      cases hf
      exact hret _ _ _ _ _ _ ⟨rfl, rfl⟩ hP hD hS d_Md_sign_21
  · rw [if_neg c_1] at hf
    refine lv_iconst (v := 1) hx hb d_Md_sign_6 (by decide) ?_
    refine lv_goto (tgt := 21) hx hb d_Md_sign_7 (by decide) ?_
    cases hf
    exact hret _ _ _ _ _ _ ⟨rfl, rfl⟩ hP hD hS d_Md_sign_21
def f_Md_sign (x0 : Int64) (S : St) : Option (Int32 × St) := f_Md_sign_0  x0 S
theorem c_Md_sign (l : Launch) (D : va_G) (cA cP : ClassId) (ob : Nat → Nat) (ad : Nat → Nat → Nat) (x0 : Int64)  (S : St) {res : (Int32 × St)} (hf : f_Md_sign x0 S = some res) : CTi l y_Md_sign w_Md_sign rm_Md_sign 0 0 D clC (TY cA cP) [.long x0] (mw cA cP ob ad S) (fun r w => r = res.1 ∧ w = mw cA cP ob ad res.2) :=
  mk_i (cc := b_Md_sign) (maxL := 2) (own := R_Md) (by decide) rfl rfl (Nat.le_of_ble_eq_true rfl) (fun p e s m below meth c A Q C0 hret ls hl hP hD hS => w_Md_sign_0 C0 hret   x0 S _ _ ls hP hD hS (lv_sub hl [0] rfl) hf)
def f_Md_cross_0   (x0 : Int64) (x2 : Int64) (x4 : Int64) (x6 : Int64) (S : St) : Option (Int64 × St) :=
  some (((x0 * x6) - (x2 * x4)), S)
set_option maxHeartbeats 4000000 in
set_option maxRecDepth 100000 in
theorem w_Md_cross_0 (C0 : CX p s m args c b_Md_cross 8 R_Md w_Md_cross D clC cA cP A) {res : (Int64 × St)} (hret : RTl p l e rm_Md_cross s m args below meth c Q D clC A b_Md_cross 0 0 (fun r w => r = res.1 ∧ w = mw cA cP ob ad res.2))    : ∀ (x0 : Int64) (x2 : Int64) (x4 : Int64) (x6 : Int64) (S : St) (H : Heap) (locs : List Loc) (ls : Array Slot), va_P D clC (mw cA cP ob ad S) H → va_D A (mw cA cP ob ad S) → va_S A s.heap H locs → lv_has ls 8 [(0, .long x0), (2, .long x2), (4, .long x4), (6, .long x6)] → f_Md_cross_0   x0 x2 x4 x6 S = some res → W p l e rm_Md_cross s m args below meth c H locs 0 0 Q (F0 m 0 ls []) := by
  obtain ⟨hx, hb, hml, hown, hts, hK, hA, hN, hZ⟩ := id C0
  intro x0 x2 x4 x6 S H locs ls hP hD hS hl hf
  rw [f_Md_cross_0] at hf
  refine lv_lload_n hx hb d_Md_cross_0 rfl (lv_at hl 0 rfl) ?_
  refine lv_lload hx hb d_Md_cross_1 (lv_at hl 3 rfl) ?_
  refine lv_lmul hx hb d_Md_cross_3 ?_
  refine lv_lload_n hx hb d_Md_cross_4 rfl (lv_at hl 1 rfl) ?_
  refine lv_lload hx hb d_Md_cross_5 (lv_at hl 2 rfl) ?_
  refine lv_lmul hx hb d_Md_cross_7 ?_
  refine lv_lsub hx hb d_Md_cross_8 ?_
  cases hf
  exact hret _ _ _ _ _ _ ⟨rfl, rfl⟩ hP hD hS d_Md_cross_9
def f_Md_cross (x0 : Int64) (x2 : Int64) (x4 : Int64) (x6 : Int64) (S : St) : Option (Int64 × St) := f_Md_cross_0  x0 x2 x4 x6 S
theorem c_Md_cross (l : Launch) (D : va_G) (cA cP : ClassId) (ob : Nat → Nat) (ad : Nat → Nat → Nat) (x0 : Int64) (x2 : Int64) (x4 : Int64) (x6 : Int64)  (S : St) {res : (Int64 × St)} (hf : f_Md_cross x0 x2 x4 x6 S = some res) : CTl l y_Md_cross w_Md_cross rm_Md_cross 0 0 D clC (TY cA cP) [.long x0, .long x2, .long x4, .long x6] (mw cA cP ob ad S) (fun r w => r = res.1 ∧ w = mw cA cP ob ad res.2) :=
  mk_l (cc := b_Md_cross) (maxL := 8) (own := R_Md) (by decide) rfl rfl (Nat.le_of_ble_eq_true rfl) (fun p e s m below meth c A Q C0 hret ls hl hP hD hS => w_Md_cross_0 C0 hret   x0 x2 x4 x6 S _ _ ls hP hD hS (lv_sub hl [0, 1, 2, 3] rfl) hf)
end
