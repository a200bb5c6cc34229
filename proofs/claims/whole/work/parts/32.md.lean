section
variable {p : Program} {l : Launch} {e : Env} {s : State} {m : MethodId} {args : Array Value} {below : List Frame} {meth : Method} {c : Code} {Q : State → Prop} {D : va_G} {cA cP : ClassId} {ob : Nat → Nat} {ad : Nat → Nat → Nat} {A : Nat → Prop}
def f_Md_closest_114  (k43 : Int32 → Int32 → Int32 → Int32 → St → Option (Int64 × St)) (k58 : Int32 → Int32 → Int32 → Int32 → Int32 → St → Option (Int64 × St)) (x1 : Int32) (x2 : Int32) (x3 : Int32) (x4 : Int32) (x5 : Int32) (S : St) : Option (Int64 × St) :=
  bn (x5 + 1) (fun x5_1 => k58 x1 x2 x3 x4 x5_1 S)
set_option maxHeartbeats 4000000 in
set_option maxRecDepth 100000 in
theorem w_Md_closest_114 (C0 : CX p s m args c b_Md_closest 6 R_Md w_Md_closest D clC cA cP A) {res : (Int64 × St)} (hret : RTl p l e rm_Md_closest s m args below meth c Q D clC A b_Md_closest 0 0 (fun r w => r = res.1 ∧ w = mw cA cP ob ad res.2))   (k43 : Int32 → Int32 → Int32 → Int32 → St → Option (Int64 × St)) (hk43 : ∀ (x1 : Int32) (x2 : Int32) (x3 : Int32) (x4 : Int32) (S : St) (H : Heap) (locs : List Loc) (ls : Array Slot), va_P D clC (mw cA cP ob ad S) H → va_D A (mw cA cP ob ad S) → va_S A s.heap H locs → lv_has ls 6 [(0, .ref (ob 0)), (1, .int x1), (2, .int x2), (3, .int x3), (4, .int x4)] → k43 x1 x2 x3 x4 S = some res → W p l e rm_Md_closest s m args below meth c H locs 0 0 Q (F0 m 43 ls [])) (k58 : Int32 → Int32 → Int32 → Int32 → Int32 → St → Option (Int64 × St)) (hk58 : ∀ (x1 : Int32) (x2 : Int32) (x3 : Int32) (x4 : Int32) (x5 : Int32) (S : St) (H : Heap) (locs : List Loc) (ls : Array Slot), va_P D clC (mw cA cP ob ad S) H → va_D A (mw cA cP ob ad S) → va_S A s.heap H locs → lv_has ls 6 [(0, .ref (ob 0)), (1, .int x1), (2, .int x2), (3, .int x3), (4, .int x4), (5, .int x5)] → k58 x1 x2 x3 x4 x5 S = some res → W p l e rm_Md_closest s m args below meth c H locs 0 0 Q (F0 m 58 ls [])) : ∀ (x1 : Int32) (x2 : Int32) (x3 : Int32) (x4 : Int32) (x5 : Int32) (S : St) (H : Heap) (locs : List Loc) (ls : Array Slot), va_P D clC (mw cA cP ob ad S) H → va_D A (mw cA cP ob ad S) → va_S A s.heap H locs → lv_has ls 6 [(0, .ref (ob 0)), (1, .int x1), (2, .int x2), (3, .int x3), (4, .int x4), (5, .int x5)] → f_Md_closest_114  k43 k58 x1 x2 x3 x4 x5 S = some res → W p l e rm_Md_closest s m args below meth c H locs 0 0 Q (F0 m 114 ls []) := by
  obtain ⟨hx, hb, hml, hown, hts, hK, hA, hN, hZ⟩ := id C0
  intro x1 x2 x3 x4 x5 S H locs ls hP hD hS hl hf
  rw [f_Md_closest_114] at hf
  obtain ⟨x5_1, ex5_1, hf⟩ := bn_some hf
  refine lv_iinc (v := x5_1) (lv' := [(5, .int x5_1), (0, .ref (ob 0)), (1, .int x1), (2, .int x2), (3, .int x3), (4, .int x4)]) hx hb d_Md_closest_114 hl (k := 5) rfl (by rw [ex5_1]; rfl) (by decide) rfl (fun ls hl => ?_)
  refine lv_goto (tgt := 58) hx hb d_Md_closest_117 (by decide) ?_
  exact hk58 x1 x2 x3 x4 x5_1 S H locs ls hP hD hS (lv_sub hl [1, 2, 3, 4, 5, 0] rfl) hf
def f_Md_closest_58  (k43 : Int32 → Int32 → Int32 → Int32 → St → Option (Int64 × St)) : Nat → Int32 → Int32 → Int32 → Int32 → Int32 → St → Option (Int64 × St)
  | 0 => fun _ _ _ _ _ _ => none
  | n + 1 => fun x1 x2 x3 x4 x5 S => (if (gi S 2) ≤ x5 then
      bn (x4 + 1) (fun x4_2 => k43 x1 x2 x3 x4_2 S)
      else
      as_ (inb x5 (gn S 1)) (as_ (inb x5 (gn S 2)) (bd (f_Md_apart x4 (ga S 1 (Int32.toNatClampNeg x5)) (ga S 2 (Int32.toNatClampNeg x5)) S) (fun q_5 => as_ (inb x3 (gn q_5.2 1)) (as_ (inb x3 (gn q_5.2 2)) (bd (f_Md_apart x2 (ga q_5.2 1 (Int32.toNatClampNeg x3)) (ga q_5.2 2 (Int32.toNatClampNeg x3)) q_5.2) (fun q_8 => (if 0 ≤ (lg_cmp q_5.1 q_8.1) then
        f_Md_closest_114  k43 (f_Md_closest_58 k43 n) x1 x2 x3 x4 x5 q_8.2
        else
        f_Md_closest_114  k43 (f_Md_closest_58 k43 n) x1 x4 x5 x4 x5 q_8.2))))))))
set_option maxHeartbeats 4000000 in
set_option maxRecDepth 100000 in
theorem w_Md_closest_58 (C0 : CX p s m args c b_Md_closest 6 R_Md w_Md_closest D clC cA cP A) {res : (Int64 × St)} (hret : RTl p l e rm_Md_closest s m args below meth c Q D clC A b_Md_closest 0 0 (fun r w => r = res.1 ∧ w = mw cA cP ob ad res.2))   (k43 : Int32 → Int32 → Int32 → Int32 → St → Option (Int64 × St)) (hk43 : ∀ (x1 : Int32) (x2 : Int32) (x3 : Int32) (x4 : Int32) (S : St) (H : Heap) (locs : List Loc) (ls : Array Slot), va_P D clC (mw cA cP ob ad S) H → va_D A (mw cA cP ob ad S) → va_S A s.heap H locs → lv_has ls 6 [(0, .ref (ob 0)), (1, .int x1), (2, .int x2), (3, .int x3), (4, .int x4)] → k43 x1 x2 x3 x4 S = some res → W p l e rm_Md_closest s m args below meth c H locs 0 0 Q (F0 m 43 ls [])) : ∀ (n : Nat) (x1 : Int32) (x2 : Int32) (x3 : Int32) (x4 : Int32) (x5 : Int32) (S : St) (H : Heap) (locs : List Loc) (ls : Array Slot), va_P D clC (mw cA cP ob ad S) H → va_D A (mw cA cP ob ad S) → va_S A s.heap H locs → lv_has ls 6 [(0, .ref (ob 0)), (1, .int x1), (2, .int x2), (3, .int x3), (4, .int x4), (5, .int x5)] → f_Md_closest_58  k43 n x1 x2 x3 x4 x5 S = some res → W p l e rm_Md_closest s m args below meth c H locs 0 0 Q (F0 m 58 ls []) := by
  obtain ⟨hx, hb, hml, hown, hts, hK, hA, hN, hZ⟩ := id C0
  intro n
  induction n with
  | zero =>
    intro x1 x2 x3 x4 x5 S H locs ls hP hD hS hl hf
    cases hf
  | succ n ih =>
    intro x1 x2 x3 x4 x5 S H locs ls hP hD hS hl hf
    rw [f_Md_closest_58] at hf
    try dsimp only at hf
    refine lv_iload hx hb d_Md_closest_58 (lv_at hl 5 rfl) ?_
    refine lv_aload_n hx hb d_Md_closest_60 rfl (lv_at hl 0 rfl) ?_
    refine va_get (D := D) (ci := 7) (v := .int (gi S 2)) (C := R_Md) (T := F_Md) (N := 26) hx hb hts (fun w h => List.mem_cons_of_mem _ (in_Md w h)) hown hK hP 0 rfl rfl 2 (by decide) (hts _ (List.mem_cons_of_mem _ wd_824)) (fun _ h9 => h9) rfl d_Md_closest_61 ?_
    refine lv_icmp_ge (tgt := 120) hx hb d_Md_closest_64 (by decide) (fun c_1 => ?_) (fun c_1 => ?_)
    · rw [if_pos c_1] at hf
      obtain ⟨x4_2, ex4_2, hf⟩ := bn_some hf
      refine lv_iinc (v := x4_2) (lv' := [(4, .int x4_2), (0, .ref (ob 0)), (1, .int x1), (2, .int x2), (3, .int x3), (5, .int x5)]) hx hb d_Md_closest_120 hl (k := 4) rfl (by rw [ex4_2]; rfl) (by decide) rfl (fun ls hl => ?_)
      refine lv_goto (tgt := 43) hx hb d_Md_closest_123 (by decide) ?_
      exact hk43 x1 x2 x3 x4_2 S H locs ls hP hD hS (lv_sub hl [1, 2, 3, 4, 0] rfl) hf
    · rw [if_neg c_1] at hf
      refine lv_aload_n hx hb d_Md_closest_67 rfl (lv_at hl 0 rfl) ?_
      refine lv_iload hx hb d_Md_closest_68 (lv_at hl 4 rfl) ?_
      refine lv_aload_n hx hb d_Md_closest_70 rfl (lv_at hl 0 rfl) ?_
      refine va_get (D := D) (ci := 7) (v := .ref (ob 1)) (C := R_Md) (T := F_Md) (N := 26) hx hb hts (fun w h => List.mem_cons_of_mem _ (in_Md w h)) hown hK hP 0 rfl rfl 3 (by decide) (hts _ (List.mem_cons_of_mem _ wd_825)) (fun _ h9 => h9) rfl d_Md_closest_71 ?_
      refine lv_iload hx hb d_Md_closest_74 (lv_at hl 5 rfl) ?_
      obtain ⟨hi_3, hf⟩ := as_some hf
      refine va_iald hx hb hK hP 1 0 rfl rfl (inb_in hi_3) d_Md_closest_76 ?_
      refine lv_aload_n hx hb d_Md_closest_77 rfl (lv_at hl 0 rfl) ?_
      refine va_get (D := D) (ci := 7) (v := .ref (ob 2)) (C := R_Md) (T := F_Md) (N := 26) hx hb hts (fun w h => List.mem_cons_of_mem _ (in_Md w h)) hown hK hP 0 rfl rfl 4 (by decide) (hts _ (List.mem_cons_of_mem _ wd_826)) (fun _ h9 => h9) rfl d_Md_closest_78 ?_
      refine lv_iload hx hb d_Md_closest_81 (lv_at hl 5 rfl) ?_
      obtain ⟨hi_4, hf⟩ := as_some hf
      refine va_iald hx hb hK hP 2 0 rfl rfl (inb_in hi_4) d_Md_closest_83 ?_
      obtain ⟨q_5, hq_5, hf⟩ := bd_some hf
      refine kc_l (va_runV (As := [.int x4, .int (ga S 1 (Int32.toNatClampNeg x5)), .int (ga S 2 (Int32.toNatClampNeg x5))]) (rest := []) ⟨hx, hb, hml, hown, hts⟩ (c_Md_apart l D cA cP ob ad x4 (ga S 1 (Int32.toNatClampNeg x5)) (ga S 2 (Int32.toNatClampNeg x5))  S hq_5 H.size) ⟨callB_of 3 hts (gd_Md_apart) rfl rfl rfl (hts _ (List.mem_cons_of_mem _ wd_72)) (hts _ (List.mem_cons_of_mem _ wd_975)) dd_Md_apart ⟨Nat.le_of_ble_eq_true rfl, Nat.le_of_ble_eq_true rfl⟩, (hts _ (List.mem_cons_of_mem _ wd_977)), (hts _ (List.mem_cons_of_mem _ wd_44))⟩ (kpV hK hP hD hN hZ hS 7 0 rfl rfl) rfl rfl hl.1 rfl (lv_room (Nat.le_of_ble_eq_true rfl)) d_Md_closest_84 ⟨Nat.le_of_ble_eq_true rfl, Nat.le_of_ble_eq_true rfl⟩) hP hD hS hA (fun r w H locs hw hP hD hS => ?_)
      obtain ⟨rfl, rfl⟩ := hw
      refine lv_aload_n hx hb d_Md_closest_87 rfl (lv_at hl 0 rfl) ?_
      refine lv_iload_n hx hb d_Md_closest_88 rfl (lv_at hl 2 rfl) ?_
      refine lv_aload_n hx hb d_Md_closest_89 rfl (lv_at hl 0 rfl) ?_
      refine va_get (D := D) (ci := 7) (v := .ref (ob 1)) (C := R_Md) (T := F_Md) (N := 26) hx hb hts (fun w h => List.mem_cons_of_mem _ (in_Md w h)) hown hK hP 0 rfl rfl 3 (by decide) (hts _ (List.mem_cons_of_mem _ wd_825)) (fun _ h9 => h9) rfl d_Md_closest_90 ?_
      refine lv_iload_n hx hb d_Md_closest_93 rfl (lv_at hl 3 rfl) ?_
      obtain ⟨hi_6, hf⟩ := as_some hf
      refine va_iald hx hb hK hP 1 0 rfl rfl (inb_in hi_6) d_Md_closest_94 ?_
      refine lv_aload_n hx hb d_Md_closest_95 rfl (lv_at hl 0 rfl) ?_
      refine va_get (D := D) (ci := 7) (v := .ref (ob 2)) (C := R_Md) (T := F_Md) (N := 26) hx hb hts (fun w h => List.mem_cons_of_mem _ (in_Md w h)) hown hK hP 0 rfl rfl 4 (by decide) (hts _ (List.mem_cons_of_mem _ wd_826)) (fun _ h9 => h9) rfl d_Md_closest_96 ?_
      refine lv_iload_n hx hb d_Md_closest_99 rfl (lv_at hl 3 rfl) ?_
      obtain ⟨hi_7, hf⟩ := as_some hf
      refine va_iald hx hb hK hP 2 0 rfl rfl (inb_in hi_7) d_Md_closest_100 ?_
      obtain ⟨q_8, hq_8, hf⟩ := bd_some hf
      refine kc_l (va_runV (As := [.int x2, .int (ga q_5.2 1 (Int32.toNatClampNeg x3)), .int (ga q_5.2 2 (Int32.toNatClampNeg x3))]) (rest := [.long q_5.1]) ⟨hx, hb, hml, hown, hts⟩ (c_Md_apart l D cA cP ob ad x2 (ga q_5.2 1 (Int32.toNatClampNeg x3)) (ga q_5.2 2 (Int32.toNatClampNeg x3))  q_5.2 hq_8 H.size) ⟨callB_of 3 hts (gd_Md_apart) rfl rfl rfl (hts _ (List.mem_cons_of_mem _ wd_72)) (hts _ (List.mem_cons_of_mem _ wd_975)) dd_Md_apart ⟨Nat.le_of_ble_eq_true rfl, Nat.le_of_ble_eq_true rfl⟩, (hts _ (List.mem_cons_of_mem _ wd_977)), (hts _ (List.mem_cons_of_mem _ wd_44))⟩ (kpV hK hP hD hN hZ hS 7 0 rfl rfl) rfl rfl hl.1 rfl (lv_room (Nat.le_of_ble_eq_true rfl)) d_Md_closest_101 ⟨Nat.le_of_ble_eq_true rfl, Nat.le_of_ble_eq_true rfl⟩) hP hD hS hA (fun r w H locs hw hP hD hS => ?_)
      obtain ⟨rfl, rfl⟩ := hw
      refine W.lcmp hx hb d_Md_closest_104 ?_
      refine lv_if_ge (tgt := 114) hx hb d_Md_closest_105 (by decide) (fun c_9 => ?_) (fun c_9 => ?_)
      · rw [if_pos c_9] at hf
        exact w_Md_closest_114 C0 hret   k43 hk43 (f_Md_closest_58 k43 n) ih x1 x2 x3 x4 x5 q_8.2 H locs ls hP hD hS (lv_sub hl [0, 1, 2, 3, 4, 5] rfl) hf
      · rw [if_neg c_9] at hf
        refine lv_iload hx hb d_Md_closest_108 (lv_at hl 4 rfl) ?_
        refine lv_istore_n (lv' := [(2, .int x4), (0, .ref (ob 0)), (1, .int x1), (3, .int x3), (4, .int x4), (5, .int x5)]) hx hb d_Md_closest_110 rfl hl (by decide) rfl (fun ls hl => ?_)
        refine lv_iload hx hb d_Md_closest_111 (lv_at hl 5 rfl) ?_
        refine lv_istore_n (lv' := [(3, .int x5), (2, .int x4), (0, .ref (ob 0)), (1, .int x1), (4, .int x4), (5, .int x5)]) hx hb d_Md_closest_113 rfl hl (by decide) rfl (fun ls hl => ?_)
        exact w_Md_closest_114 C0 hret   k43 hk43 (f_Md_closest_58 k43 n) ih x1 x4 x5 x4 x5 q_8.2 H locs ls hP hD hS (lv_sub hl [2, 3, 1, 0, 4, 5] rfl) hf
def f_Md_closest_43   : Nat → Int32 → Int32 → Int32 → Int32 → St → Option (Int64 × St)
  | 0 => fun _ _ _ _ _ => none
  | n + 1 => fun x1 x2 x3 x4 S => (if (gi S 2) ≤ x4 then
      (if x1 = 0 then
        as_ (inb x3 (gn S 1)) (as_ (inb x3 (gn S 2)) (bd (f_Md_apart x2 (ga S 1 (Int32.toNatClampNeg x3)) (ga S 2 (Int32.toNatClampNeg x3)) S) (fun q_6 => some (q_6.1, q_6.2))))
        else
        (if x1 = 1 then
          some ((Int32.toInt64 x2), S)
          else
          some ((Int32.toInt64 x3), S)))
      else
      bn (x4 + 1) (fun x5_7 => f_Md_closest_58  (f_Md_closest_43  n) FU x1 x2 x3 x4 x5_7 S))
set_option maxHeartbeats 4000000 in
set_option maxRecDepth 100000 in
theorem w_Md_closest_43 (C0 : CX p s m args c b_Md_closest 6 R_Md w_Md_closest D clC cA cP A) {res : (Int64 × St)} (hret : RTl p l e rm_Md_closest s m args below meth c Q D clC A b_Md_closest 0 0 (fun r w => r = res.1 ∧ w = mw cA cP ob ad res.2))    : ∀ (n : Nat) (x1 : Int32) (x2 : Int32) (x3 : Int32) (x4 : Int32) (S : St) (H : Heap) (locs : List Loc) (ls : Array Slot), va_P D clC (mw cA cP ob ad S) H → va_D A (mw cA cP ob ad S) → va_S A s.heap H locs → lv_has ls 6 [(0, .ref (ob 0)), (1, .int x1), (2, .int x2), (3, .int x3), (4, .int x4)] → f_Md_closest_43   n x1 x2 x3 x4 S = some res → W p l e rm_Md_closest s m args below meth c H locs 0 0 Q (F0 m 43 ls []) := by
  obtain ⟨hx, hb, hml, hown, hts, hK, hA, hN, hZ⟩ := id C0
  intro n
  induction n with
  | zero =>
    intro x1 x2 x3 x4 S H locs ls hP hD hS hl hf
    cases hf
  | succ n ih =>
    intro x1 x2 x3 x4 S H locs ls hP hD hS hl hf
    rw [f_Md_closest_43] at hf
    try dsimp only at hf
    refine lv_iload hx hb d_Md_closest_43 (lv_at hl 4 rfl) ?_
    refine lv_aload_n hx hb d_Md_closest_45 rfl (lv_at hl 0 rfl) ?_
    refine va_get (D := D) (ci := 7) (v := .int (gi S 2)) (C := R_Md) (T := F_Md) (N := 26) hx hb hts (fun w h => List.mem_cons_of_mem _ (in_Md w h)) hown hK hP 0 rfl rfl 2 (by decide) (hts _ (List.mem_cons_of_mem _ wd_824)) (fun _ h9 => h9) rfl d_Md_closest_46 ?_
    refine lv_icmp_ge (tgt := 126) hx hb d_Md_closest_49 (by decide) (fun c_1 => ?_) (fun c_1 => ?_)
    · rw [if_pos c_1] at hf
      refine lv_iload_n hx hb d_Md_closest_126 rfl (lv_at hl 1 rfl) ?_
      refine lv_if_ne (tgt := 150) hx hb d_Md_closest_127 (by decide) (fun c_2 => ?_) (fun c_2 => ?_)
      · rw [if_neg c_2] at hf
        refine lv_iload_n hx hb d_Md_closest_150 rfl (lv_at hl 1 rfl) ?_
        refine lv_iconst (v := 1) hx hb d_Md_closest_151 (by decide) ?_
        refine lv_icmp_ne (tgt := 160) hx hb d_Md_closest_152 (by decide) (fun c_3 => ?_) (fun c_3 => ?_)
        · rw [if_neg c_3] at hf
          refine lv_iload_n hx hb d_Md_closest_160 rfl (lv_at hl 3 rfl) ?_
          refine lv_i2l (v := (Int32.toInt64 x3)) hx hb d_Md_closest_161 rfl ?_
          cases hf
          exact hret _ _ _ _ _ _ ⟨rfl, rfl⟩ hP hD hS d_Md_closest_162
        · rw [if_pos c_3] at hf
          refine lv_iload_n hx hb d_Md_closest_155 rfl (lv_at hl 2 rfl) ?_
          refine lv_i2l (v := (Int32.toInt64 x2)) hx hb d_Md_closest_156 rfl ?_
          refine lv_goto (tgt := 162) hx hb d_Md_closest_157 (by decide) ?_
          cases hf
          exact hret _ _ _ _ _ _ ⟨rfl, rfl⟩ hP hD hS d_Md_closest_162
      · rw [if_pos c_2] at hf
        refine lv_aload_n hx hb d_Md_closest_130 rfl (lv_at hl 0 rfl) ?_
        refine lv_iload_n hx hb d_Md_closest_131 rfl (lv_at hl 2 rfl) ?_
        refine lv_aload_n hx hb d_Md_closest_132 rfl (lv_at hl 0 rfl) ?_
        refine va_get (D := D) (ci := 7) (v := .ref (ob 1)) (C := R_Md) (T := F_Md) (N := 26) hx hb hts (fun w h => List.mem_cons_of_mem _ (in_Md w h)) hown hK hP 0 rfl rfl 3 (by decide) (hts _ (List.mem_cons_of_mem _ wd_825)) (fun _ h9 => h9) rfl d_Md_closest_133 ?_
        refine lv_iload_n hx hb d_Md_closest_136 rfl (lv_at hl 3 rfl) ?_
        obtain ⟨hi_4, hf⟩ := as_some hf
        refine va_iald hx hb hK hP 1 0 rfl rfl (inb_in hi_4) d_Md_closest_137 ?_
        refine lv_aload_n hx hb d_Md_closest_138 rfl (lv_at hl 0 rfl) ?_
        refine va_get (D := D) (ci := 7) (v := .ref (ob 2)) (C := R_Md) (T := F_Md) (N := 26) hx hb hts (fun w h => List.mem_cons_of_mem _ (in_Md w h)) hown hK hP 0 rfl rfl 4 (by decide) (hts _ (List.mem_cons_of_mem _ wd_826)) (fun _ h9 => h9) rfl d_Md_closest_139 ?_
        refine lv_iload_n hx hb d_Md_closest_142 rfl (lv_at hl 3 rfl) ?_
        obtain ⟨hi_5, hf⟩ := as_some hf
        refine va_iald hx hb hK hP 2 0 rfl rfl (inb_in hi_5) d_Md_closest_143 ?_
        obtain ⟨q_6, hq_6, hf⟩ := bd_some hf
        refine kc_l (va_runV (As := [.int x2, .int (ga S 1 (Int32.toNatClampNeg x3)), .int (ga S 2 (Int32.toNatClampNeg x3))]) (rest := []) ⟨hx, hb, hml, hown, hts⟩ (c_Md_apart l D cA cP ob ad x2 (ga S 1 (Int32.toNatClampNeg x3)) (ga S 2 (Int32.toNatClampNeg x3))  S hq_6 H.size) ⟨callB_of 3 hts (gd_Md_apart) rfl rfl rfl (hts _ (List.mem_cons_of_mem _ wd_72)) (hts _ (List.mem_cons_of_mem _ wd_975)) dd_Md_apart ⟨Nat.le_of_ble_eq_true rfl, Nat.le_of_ble_eq_true rfl⟩, (hts _ (List.mem_cons_of_mem _ wd_977)), (hts _ (List.mem_cons_of_mem _ wd_44))⟩ (kpV hK hP hD hN hZ hS 7 0 rfl rfl) rfl rfl hl.1 rfl (lv_room (Nat.le_of_ble_eq_true rfl)) d_Md_closest_144 ⟨Nat.le_of_ble_eq_true rfl, Nat.le_of_ble_eq_true rfl⟩) hP hD hS hA (fun r w H locs hw hP hD hS => ?_)
        obtain ⟨rfl, rfl⟩ := hw
        refine lv_goto (tgt := 162) hx hb d_Md_closest_147 (by decide) ?_
        cases hf
        exact hret _ _ _ _ _ _ ⟨rfl, rfl⟩ hP hD hS d_Md_closest_162
    · rw [if_neg c_1] at hf
      refine lv_iload hx hb d_Md_closest_52 (lv_at hl 4 rfl) ?_
      refine lv_iconst (v := 1) hx hb d_Md_closest_54 (by decide) ?_
      refine lv_iadd hx hb d_Md_closest_55 ?_
      obtain ⟨x5_7, ex5_7, hf⟩ := bn_some hf
      refine tpi ex5_7 ?_
      refine lv_istore (lv' := [(5, .int x5_7), (0, .ref (ob 0)), (1, .int x1), (2, .int x2), (3, .int x3), (4, .int x4)]) hx hb d_Md_closest_56 hl (by decide) rfl (fun ls hl => ?_)
      exact w_Md_closest_58 C0 hret   (f_Md_closest_43  n) ih FU x1 x2 x3 x4 x5_7 S H locs ls hP hD hS (lv_sub hl [1, 2, 3, 4, 5, 0] rfl) hf
def f_Md_closest_0   (x1 : Int32) (S : St) : Option (Int64 × St) :=
  bn (seti S 0 0) (fun S_1 => bd (f_Md_within x1 0 2 S_1) (fun q_2 => (if q_2.1 = 0 then
    bd (f_Md_fail 1 q_2.2) (fun q_6 => some ((Int32.toInt64 q_6.1), q_6.2))
    else
    (if 2 ≤ (gi q_2.2 2) then
      f_Md_closest_43   FU x1 0 1 0 q_2.2
      else
      bd (f_Md_fail 2 q_2.2) (fun q_5 => some ((Int32.toInt64 q_5.1), q_5.2))))))
set_option maxHeartbeats 4000000 in
set_option maxRecDepth 100000 in
theorem w_Md_closest_0 (C0 : CX p s m args c b_Md_closest 6 R_Md w_Md_closest D clC cA cP A) {res : (Int64 × St)} (hret : RTl p l e rm_Md_closest s m args below meth c Q D clC A b_Md_closest 0 0 (fun r w => r = res.1 ∧ w = mw cA cP ob ad res.2))    : ∀ (x1 : Int32) (S : St) (H : Heap) (locs : List Loc) (ls : Array Slot), va_P D clC (mw cA cP ob ad S) H → va_D A (mw cA cP ob ad S) → va_S A s.heap H locs → lv_has ls 6 [(0, .ref (ob 0)), (1, .int x1)] → f_Md_closest_0   x1 S = some res → W p l e rm_Md_closest s m args below meth c H locs 0 0 Q (F0 m 0 ls []) := by
  obtain ⟨hx, hb, hml, hown, hts, hK, hA, hN, hZ⟩ := id C0
  intro x1 S H locs ls hP hD hS hl hf
  rw [f_Md_closest_0] at hf
  refine lv_aload_n hx hb d_Md_closest_0 rfl (lv_at hl 0 rfl) ?_
  refine lv_iconst (v := 0) hx hb d_Md_closest_1 (by decide) ?_
  obtain ⟨S_1, eS_1, hf⟩ := bn_some hf
  refine va_put (D := D) (ci := 7) (v := .int 0) (ty := .int) (C := R_Md) (T := F_Md) (N := 26) hx hb hts (fun w h => List.mem_cons_of_mem _ (in_Md w h)) t_Md tk_Md nk_Md hown hK hP hD hS 0 rfl rfl 0 (by decide) (hts _ (List.mem_cons_of_mem _ wd_822)) (fun _ h9 => h9) rfl (by decide +kernel) rfl rfl (Nat.le_of_ble_eq_true rfl) d_Md_closest_2 (fun H locs hP hD hS => ?_)
  have hP : va_P D clC (mw cA cP ob ad S_1) H := by rw [eS_1]; exact hP
  have hD : va_D A (mw cA cP ob ad S_1) := by rw [eS_1]; exact hD
  refine lv_iload_n hx hb d_Md_closest_5 rfl (lv_at hl 1 rfl) ?_
  refine lv_iconst (v := 0) hx hb d_Md_closest_6 (by decide) ?_
  refine lv_iconst (v := 2) hx hb d_Md_closest_7 (by decide) ?_
  obtain ⟨q_2, hq_2, hf⟩ := bd_some hf
  refine kc_i (va_runS (As := [.int x1, .int 0, .int 2]) (rest := []) ⟨hx, hb, hml, hown, hts⟩ (c_Md_within l D cA cP ob ad x1 0 2  S_1 hq_2 H.size) ⟨callB_of 3 hts (gd_Md_within) rfl rfl rfl (hts _ (List.mem_cons_of_mem _ wd_72)) (hts _ (List.mem_cons_of_mem _ wd_914)) dd_Md_within ⟨Nat.le_of_ble_eq_true rfl, Nat.le_of_ble_eq_true rfl⟩, (hts _ (List.mem_cons_of_mem _ wd_915))⟩ (kpS hK hP hD hN hZ hS) rfl rfl hl.1 rfl (lv_room (Nat.le_of_ble_eq_true rfl)) d_Md_closest_8 ⟨Nat.le_of_ble_eq_true rfl, Nat.le_of_ble_eq_true rfl⟩) hP hD hS hA (fun r w H locs hw hP hD hS => ?_)
  obtain ⟨rfl, rfl⟩ := hw
  refine lv_if_ne (tgt := 21) hx hb d_Md_closest_11 (by decide) (fun c_3 => ?_) (fun c_3 => ?_)
  · rw [if_neg c_3] at hf
    refine lv_aload_n hx hb d_Md_closest_21 rfl (lv_at hl 0 rfl) ?_
    refine va_get (D := D) (ci := 7) (v := .int (gi q_2.2 2)) (C := R_Md) (T := F_Md) (N := 26) hx hb hts (fun w h => List.mem_cons_of_mem _ (in_Md w h)) hown hK hP 0 rfl rfl 2 (by decide) (hts _ (List.mem_cons_of_mem _ wd_824)) (fun _ h9 => h9) rfl d_Md_closest_22 ?_
    refine lv_iconst (v := 2) hx hb d_Md_closest_25 (by decide) ?_
    refine lv_icmp_ge (tgt := 36) hx hb d_Md_closest_26 (by decide) (fun c_4 => ?_) (fun c_4 => ?_)
    · rw [if_pos c_4] at hf
      refine lv_iconst (v := 0) hx hb d_Md_closest_36 (by decide) ?_
      refine lv_istore_n (lv' := [(2, .int 0), (0, .ref (ob 0)), (1, .int x1)]) hx hb d_Md_closest_37 rfl hl (by decide) rfl (fun ls hl => ?_)
      refine lv_iconst (v := 1) hx hb d_Md_closest_38 (by decide) ?_
      refine lv_istore_n (lv' := [(3, .int 1), (2, .int 0), (0, .ref (ob 0)), (1, .int x1)]) hx hb d_Md_closest_39 rfl hl (by decide) rfl (fun ls hl => ?_)
      refine lv_iconst (v := 0) hx hb d_Md_closest_40 (by decide) ?_
      refine lv_istore (lv' := [(4, .int 0), (3, .int 1), (2, .int 0), (0, .ref (ob 0)), (1, .int x1)]) hx hb d_Md_closest_41 hl (by decide) rfl (fun ls hl => ?_)
      exact w_Md_closest_43 C0 hret    FU x1 0 1 0 q_2.2 H locs ls hP hD hS (lv_sub hl [3, 4, 2, 1, 0] rfl) hf
    · rw [if_neg c_4] at hf
      refine lv_aload_n hx hb d_Md_closest_29 rfl (lv_at hl 0 rfl) ?_
      refine lv_iconst (v := 2) hx hb d_Md_closest_30 (by decide) ?_
      obtain ⟨q_5, hq_5, hf⟩ := bd_some hf
      refine kc_i (va_runV (As := [.int 2]) (rest := []) ⟨hx, hb, hml, hown, hts⟩ (c_Md_fail l D cA cP ob ad 2  q_2.2 hq_5 H.size) ⟨callB_of 1 hts (gd_Md_fail) rfl rfl rfl (hts _ (List.mem_cons_of_mem _ wd_72)) (hts _ (List.mem_cons_of_mem _ wd_917)) dd_Md_fail ⟨Nat.le_of_ble_eq_true rfl, Nat.le_of_ble_eq_true rfl⟩, (hts _ (List.mem_cons_of_mem _ wd_919)), (hts _ (List.mem_cons_of_mem _ wd_34))⟩ (kpV hK hP hD hN hZ hS 7 0 rfl rfl) rfl rfl hl.1 rfl (lv_room (Nat.le_of_ble_eq_true rfl)) d_Md_closest_31 ⟨Nat.le_of_ble_eq_true rfl, Nat.le_of_ble_eq_true rfl⟩) hP hD hS hA (fun r w H locs hw hP hD hS => ?_)
      obtain ⟨rfl, rfl⟩ := hw
      refine lv_i2l (v := (Int32.toInt64 q_5.1)) hx hb d_Md_closest_34 rfl ?_
      cases hf
      exact hret _ _ _ _ _ _ ⟨rfl, rfl⟩ hP hD hS d_Md_closest_35
  · rw [if_pos c_3] at hf
    refine lv_aload_n hx hb d_Md_closest_14 rfl (lv_at hl 0 rfl) ?_
    refine lv_iconst (v := 1) hx hb d_Md_closest_15 (by decide) ?_
    obtain ⟨q_6, hq_6, hf⟩ := bd_some hf
    refine kc_i (va_runV (As := [.int 1]) (rest := []) ⟨hx, hb, hml, hown, hts⟩ (c_Md_fail l D cA cP ob ad 1  q_2.2 hq_6 H.size) ⟨callB_of 1 hts (gd_Md_fail) rfl rfl rfl (hts _ (List.mem_cons_of_mem _ wd_72)) (hts _ (List.mem_cons_of_mem _ wd_917)) dd_Md_fail ⟨Nat.le_of_ble_eq_true rfl, Nat.le_of_ble_eq_true rfl⟩, (hts _ (List.mem_cons_of_mem _ wd_919)), (hts _ (List.mem_cons_of_mem _ wd_34))⟩ (kpV hK hP hD hN hZ hS 7 0 rfl rfl) rfl rfl hl.1 rfl (lv_room (Nat.le_of_ble_eq_true rfl)) d_Md_closest_16 ⟨Nat.le_of_ble_eq_true rfl, Nat.le_of_ble_eq_true rfl⟩) hP hD hS hA (fun r w H locs hw hP hD hS => ?_)
    obtain ⟨rfl, rfl⟩ := hw
    refine lv_i2l (v := (Int32.toInt64 q_6.1)) hx hb d_Md_closest_19 rfl ?_
    cases hf
    exact hret _ _ _ _ _ _ ⟨rfl, rfl⟩ hP hD hS d_Md_closest_20
def f_Md_closest (x1 : Int32) (S : St) : Option (Int64 × St) := f_Md_closest_0  x1 S
theorem c_Md_closest (l : Launch) (D : va_G) (cA cP : ClassId) (ob : Nat → Nat) (ad : Nat → Nat → Nat) (x1 : Int32)  (S : St) {res : (Int64 × St)} (hf : f_Md_closest x1 S = some res) : CTl l y_Md_closest w_Md_closest rm_Md_closest 0 0 D clC (TY cA cP) [.ref (ob 0), .int x1] (mw cA cP ob ad S) (fun r w => r = res.1 ∧ w = mw cA cP ob ad res.2) :=
  mk_l (cc := b_Md_closest) (maxL := 6) (own := R_Md) (by decide) rfl rfl (Nat.le_of_ble_eq_true rfl) (fun p e s m below meth c A Q C0 hret ls hl hP hD hS => w_Md_closest_0 C0 hret   x1 S _ _ ls hP hD hS (lv_sub hl [0, 1] rfl) hf)
def f_Md_point_50    (S : St) : Option (Int32 × St) :=
  bd (f_Md_fail 1 S) (fun q_1 => some (q_1.1, q_1.2))
set_option maxHeartbeats 4000000 in
set_option maxRecDepth 100000 in
theorem w_Md_point_50 (C0 : CX p s m args c b_Md_point 3 R_Md w_Md_point D clC cA cP A) {res : (Int32 × St)} (hret : RTi p l e rm_Md_point s m args below meth c Q D clC A b_Md_point 0 0 (fun r w => r = res.1 ∧ w = mw cA cP ob ad res.2))    : ∀  (S : St) (H : Heap) (locs : List Loc) (ls : Array Slot), va_P D clC (mw cA cP ob ad S) H → va_D A (mw cA cP ob ad S) → va_S A s.heap H locs → lv_has ls 3 [(0, .ref (ob 0))] → f_Md_point_50    S = some res → W p l e rm_Md_point s m args below meth c H locs 0 0 Q (F0 m 50 ls []) := by
  obtain ⟨hx, hb, hml, hown, hts, hK, hA, hN, hZ⟩ := id C0
  intro  S H locs ls hP hD hS hl hf
  rw [f_Md_point_50] at hf
  refine lv_aload_n hx hb d_Md_point_50 rfl (lv_at hl 0 rfl) ?_
  refine lv_iconst (v := 1) hx hb d_Md_point_51 (by decide) ?_
  obtain ⟨q_1, hq_1, hf⟩ := bd_some hf
  refine kc_i (va_runV (As := [.int 1]) (rest := []) ⟨hx, hb, hml, hown, hts⟩ (c_Md_fail l D cA cP ob ad 1  S hq_1 H.size) ⟨callB_of 1 hts (gd_Md_fail) rfl rfl rfl (hts _ (List.mem_cons_of_mem _ wd_72)) (hts _ (List.mem_cons_of_mem _ wd_917)) dd_Md_fail ⟨Nat.le_of_ble_eq_true rfl, Nat.le_of_ble_eq_true rfl⟩, (hts _ (List.mem_cons_of_mem _ wd_919)), (hts _ (List.mem_cons_of_mem _ wd_34))⟩ (kpV hK hP hD hN hZ hS 7 0 rfl rfl) rfl rfl hl.1 rfl (lv_room (Nat.le_of_ble_eq_true rfl)) d_Md_point_52 ⟨Nat.le_of_ble_eq_true rfl, Nat.le_of_ble_eq_true rfl⟩) hP hD hS hA (fun r w H locs hw hP hD hS => ?_)
  obtain ⟨rfl, rfl⟩ := hw
  cases hf
  exact hret _ _ _ _ _ _ ⟨rfl, rfl⟩ hP hD hS d_Md_point_55
def f_Md_point_0   (x1 : Int32) (x2 : Int32) (S : St) : Option (Int32 × St) :=
  bn (seti S 0 0) (fun S_1 => bd (f_Md_within x1 0 ((gi S_1 2) - 1) S_1) (fun q_2 => (if q_2.1 = 0 then
    f_Md_point_50    q_2.2
    else
    bd (f_Md_within x2 0 1 q_2.2) (fun q_4 => (if q_4.1 = 0 then
      f_Md_point_50    q_4.2
      else
      (if x2 = 0 then
        as_ (inb x1 (gn q_4.2 1)) (some ((ga q_4.2 1 (Int32.toNatClampNeg x1)), q_4.2))
        else
        as_ (inb x1 (gn q_4.2 2)) (some ((ga q_4.2 2 (Int32.toNatClampNeg x1)), q_4.2))))))))
set_option maxHeartbeats 4000000 in
set_option maxRecDepth 100000 in
theorem w_Md_point_0 (C0 : CX p s m args c b_Md_point 3 R_Md w_Md_point D clC cA cP A) {res : (Int32 × St)} (hret : RTi p l e rm_Md_point s m args below meth c Q D clC A b_Md_point 0 0 (fun r w => r = res.1 ∧ w = mw cA cP ob ad res.2))    : ∀ (x1 : Int32) (x2 : Int32) (S : St) (H : Heap) (locs : List Loc) (ls : Array Slot), va_P D clC (mw cA cP ob ad S) H → va_D A (mw cA cP ob ad S) → va_S A s.heap H locs → lv_has ls 3 [(0, .ref (ob 0)), (1, .int x1), (2, .int x2)] → f_Md_point_0   x1 x2 S = some res → W p l e rm_Md_point s m args below meth c H locs 0 0 Q (F0 m 0 ls []) := by
  obtain ⟨hx, hb, hml, hown, hts, hK, hA, hN, hZ⟩ := id C0
  intro x1 x2 S H locs ls hP hD hS hl hf
  rw [f_Md_point_0] at hf
  refine lv_aload_n hx hb d_Md_point_0 rfl (lv_at hl 0 rfl) ?_
  refine lv_iconst (v := 0) hx hb d_Md_point_1 (by decide) ?_
  obtain ⟨S_1, eS_1, hf⟩ := bn_some hf
  refine va_put (D := D) (ci := 7) (v := .int 0) (ty := .int) (C := R_Md) (T := F_Md) (N := 26) hx hb hts (fun w h => List.mem_cons_of_mem _ (in_Md w h)) t_Md tk_Md nk_Md hown hK hP hD hS 0 rfl rfl 0 (by decide) (hts _ (List.mem_cons_of_mem _ wd_822)) (fun _ h9 => h9) rfl (by decide +kernel) rfl rfl (Nat.le_of_ble_eq_true rfl) d_Md_point_2 (fun H locs hP hD hS => ?_)
  have hP : va_P D clC (mw cA cP ob ad S_1) H := by rw [eS_1]; exact hP
  have hD : va_D A (mw cA cP ob ad S_1) := by rw [eS_1]; exact hD
  refine lv_iload_n hx hb d_Md_point_5 rfl (lv_at hl 1 rfl) ?_
  refine lv_iconst (v := 0) hx hb d_Md_point_6 (by decide) ?_
  refine lv_aload_n hx hb d_Md_point_7 rfl (lv_at hl 0 rfl) ?_
  refine va_get (D := D) (ci := 7) (v := .int (gi S_1 2)) (C := R_Md) (T := F_Md) (N := 26) hx hb hts (fun w h => List.mem_cons_of_mem _ (in_Md w h)) hown hK hP 0 rfl rfl 2 (by decide) (hts _ (List.mem_cons_of_mem _ wd_824)) (fun _ h9 => h9) rfl d_Md_point_8 ?_
  refine lv_iconst (v := 1) hx hb d_Md_point_11 (by decide) ?_
  refine lv_isub hx hb d_Md_point_12 ?_
  obtain ⟨q_2, hq_2, hf⟩ := bd_some hf
  refine kc_i (va_runS (As := [.int x1, .int 0, .int ((gi S_1 2) - 1)]) (rest := []) ⟨hx, hb, hml, hown, hts⟩ (c_Md_within l D cA cP ob ad x1 0 ((gi S_1 2) - 1)  S_1 hq_2 H.size) ⟨callB_of 3 hts (gd_Md_within) rfl rfl rfl (hts _ (List.mem_cons_of_mem _ wd_72)) (hts _ (List.mem_cons_of_mem _ wd_914)) dd_Md_within ⟨Nat.le_of_ble_eq_true rfl, Nat.le_of_ble_eq_true rfl⟩, (hts _ (List.mem_cons_of_mem _ wd_915))⟩ (kpS hK hP hD hN hZ hS) rfl rfl hl.1 rfl (lv_room (Nat.le_of_ble_eq_true rfl)) d_Md_point_13 ⟨Nat.le_of_ble_eq_true rfl, Nat.le_of_ble_eq_true rfl⟩) hP hD hS hA (fun r w H locs hw hP hD hS => ?_)
  obtain ⟨rfl, rfl⟩ := hw
  refine lv_if_eq (tgt := 50) hx hb d_Md_point_16 (by decide) (fun c_3 => ?_) (fun c_3 => ?_)
  · rw [if_pos c_3] at hf
    exact w_Md_point_50 C0 hret     q_2.2 H locs ls hP hD hS (lv_sub hl [0] rfl) hf
  · rw [if_neg c_3] at hf
    refine lv_iload_n hx hb d_Md_point_19 rfl (lv_at hl 2 rfl) ?_
    refine lv_iconst (v := 0) hx hb d_Md_point_20 (by decide) ?_
    refine lv_iconst (v := 1) hx hb d_Md_point_21 (by decide) ?_
    obtain ⟨q_4, hq_4, hf⟩ := bd_some hf
    refine kc_i (va_runS (As := [.int x2, .int 0, .int 1]) (rest := []) ⟨hx, hb, hml, hown, hts⟩ (c_Md_within l D cA cP ob ad x2 0 1  q_2.2 hq_4 H.size) ⟨callB_of 3 hts (gd_Md_within) rfl rfl rfl (hts _ (List.mem_cons_of_mem _ wd_72)) (hts _ (List.mem_cons_of_mem _ wd_914)) dd_Md_within ⟨Nat.le_of_ble_eq_true rfl, Nat.le_of_ble_eq_true rfl⟩, (hts _ (List.mem_cons_of_mem _ wd_915))⟩ (kpS hK hP hD hN hZ hS) rfl rfl hl.1 rfl (lv_room (Nat.le_of_ble_eq_true rfl)) d_Md_point_22 ⟨Nat.le_of_ble_eq_true rfl, Nat.le_of_ble_eq_true rfl⟩) hP hD hS hA (fun r w H locs hw hP hD hS => ?_)
    obtain ⟨rfl, rfl⟩ := hw
    refine lv_if_eq (tgt := 50) hx hb d_Md_point_25 (by decide) (fun c_5 => ?_) (fun c_5 => ?_)
    · rw [if_pos c_5] at hf
      exact w_Md_point_50 C0 hret     q_4.2 H locs ls hP hD hS (lv_sub hl [0] rfl) hf
    · rw [if_neg c_5] at hf
      refine lv_iload_n hx hb d_Md_point_28 rfl (lv_at hl 2 rfl) ?_
      refine lv_if_ne (tgt := 41) hx hb d_Md_point_29 (by decide) (fun c_6 => ?_) (fun c_6 => ?_)
      · rw [if_neg c_6] at hf
        refine lv_aload_n hx hb d_Md_point_41 rfl (lv_at hl 0 rfl) ?_
        refine va_get (D := D) (ci := 7) (v := .ref (ob 2)) (C := R_Md) (T := F_Md) (N := 26) hx hb hts (fun w h => List.mem_cons_of_mem _ (in_Md w h)) hown hK hP 0 rfl rfl 4 (by decide) (hts _ (List.mem_cons_of_mem _ wd_826)) (fun _ h9 => h9) rfl d_Md_point_42 ?_
        refine lv_iload_n hx hb d_Md_point_45 rfl (lv_at hl 1 rfl) ?_
        obtain ⟨hi_7, hf⟩ := as_some hf
        refine va_iald hx hb hK hP 2 0 rfl rfl (inb_in hi_7) d_Md_point_46 ?_
        refine lv_goto (tgt := 55) hx hb d_Md_point_47 (by decide) ?_
        cases hf
        exact hret _ _ _ _ _ _ ⟨rfl, rfl⟩ hP hD hS d_Md_point_55
      · rw [if_pos c_6] at hf
        refine lv_aload_n hx hb d_Md_point_32 rfl (lv_at hl 0 rfl) ?_
        refine va_get (D := D) (ci := 7) (v := .ref (ob 1)) (C := R_Md) (T := F_Md) (N := 26) hx hb hts (fun w h => List.mem_cons_of_mem _ (in_Md w h)) hown hK hP 0 rfl rfl 3 (by decide) (hts _ (List.mem_cons_of_mem _ wd_825)) (fun _ h9 => h9) rfl d_Md_point_33 ?_
        refine lv_iload_n hx hb d_Md_point_36 rfl (lv_at hl 1 rfl) ?_
        obtain ⟨hi_8, hf⟩ := as_some hf
        refine va_iald hx hb hK hP 1 0 rfl rfl (inb_in hi_8) d_Md_point_37 ?_
        refine lv_goto (tgt := 55) hx hb d_Md_point_38 (by decide) ?_
        cases hf
        exact hret _ _ _ _ _ _ ⟨rfl, rfl⟩ hP hD hS d_Md_point_55
def f_Md_point (x1 : Int32) (x2 : Int32) (S : St) : Option (Int32 × St) := f_Md_point_0  x1 x2 S
theorem c_Md_point (l : Launch) (D : va_G) (cA cP : ClassId) (ob : Nat → Nat) (ad : Nat → Nat → Nat) (x1 : Int32) (x2 : Int32)  (S : St) {res : (Int32 × St)} (hf : f_Md_point x1 x2 S = some res) : CTi l y_Md_point w_Md_point rm_Md_point 0 0 D clC (TY cA cP) [.ref (ob 0), .int x1, .int x2] (mw cA cP ob ad S) (fun r w => r = res.1 ∧ w = mw cA cP ob ad res.2) :=
  mk_i (cc := b_Md_point) (maxL := 3) (own := R_Md) (by decide) rfl rfl (Nat.le_of_ble_eq_true rfl) (fun p e s m below meth c A Q C0 hret ls hl hP hD hS => w_Md_point_0 C0 hret   x1 x2 S _ _ ls hP hD hS (lv_sub hl [0, 1, 2] rfl) hf)
def f_Md_count_0   (x1 : Int32) (S : St) : Option (Int32 × St) :=
  bn (seti S 0 0) (fun S_1 => bd (f_Md_within x1 0 2 S_1) (fun q_2 => (if q_2.1 = 0 then
    some ((-1), q_2.2)
    else
    bd (f_Md_know  q_2.2) (fun q_4 => (if x1 = 0 then
      some ((gi q_4 2), q_4)
      else
      (if x1 = 1 then
        some ((gi q_4 4), q_4)
        else
        some ((gi q_4 5), q_4)))))))
set_option maxHeartbeats 4000000 in
set_option maxRecDepth 100000 in
theorem w_Md_count_0 (C0 : CX p s m args c b_Md_count 2 R_Md w_Md_count D clC cA cP A) {res : (Int32 × St)} (hret : RTi p l e rm_Md_count s m args below meth c Q D clC A b_Md_count 0 0 (fun r w => r = res.1 ∧ w = mw cA cP ob ad res.2))    : ∀ (x1 : Int32) (S : St) (H : Heap) (locs : List Loc) (ls : Array Slot), va_P D clC (mw cA cP ob ad S) H → va_D A (mw cA cP ob ad S) → va_S A s.heap H locs → lv_has ls 2 [(0, .ref (ob 0)), (1, .int x1)] → f_Md_count_0   x1 S = some res → W p l e rm_Md_count s m args below meth c H locs 0 0 Q (F0 m 0 ls []) := by
  obtain ⟨hx, hb, hml, hown, hts, hK, hA, hN, hZ⟩ := id C0
  intro x1 S H locs ls hP hD hS hl hf
  rw [f_Md_count_0] at hf
  refine lv_aload_n hx hb d_Md_count_0 rfl (lv_at hl 0 rfl) ?_
  refine lv_iconst (v := 0) hx hb d_Md_count_1 (by decide) ?_
  obtain ⟨S_1, eS_1, hf⟩ := bn_some hf
  refine va_put (D := D) (ci := 7) (v := .int 0) (ty := .int) (C := R_Md) (T := F_Md) (N := 26) hx hb hts (fun w h => List.mem_cons_of_mem _ (in_Md w h)) t_Md tk_Md nk_Md hown hK hP hD hS 0 rfl rfl 0 (by decide) (hts _ (List.mem_cons_of_mem _ wd_822)) (fun _ h9 => h9) rfl (by decide +kernel) rfl rfl (Nat.le_of_ble_eq_true rfl) d_Md_count_2 (fun H locs hP hD hS => ?_)
  have hP : va_P D clC (mw cA cP ob ad S_1) H := by rw [eS_1]; exact hP
  have hD : va_D A (mw cA cP ob ad S_1) := by rw [eS_1]; exact hD
  refine lv_iload_n hx hb d_Md_count_5 rfl (lv_at hl 1 rfl) ?_
  refine lv_iconst (v := 0) hx hb d_Md_count_6 (by decide) ?_
  refine lv_iconst (v := 2) hx hb d_Md_count_7 (by decide) ?_
  obtain ⟨q_2, hq_2, hf⟩ := bd_some hf
  refine kc_i (va_runS (As := [.int x1, .int 0, .int 2]) (rest := []) ⟨hx, hb, hml, hown, hts⟩ (c_Md_within l D cA cP ob ad x1 0 2  S_1 hq_2 H.size) ⟨callB_of 3 hts (gd_Md_within) rfl rfl rfl (hts _ (List.mem_cons_of_mem _ wd_72)) (hts _ (List.mem_cons_of_mem _ wd_914)) dd_Md_within ⟨Nat.le_of_ble_eq_true rfl, Nat.le_of_ble_eq_true rfl⟩, (hts _ (List.mem_cons_of_mem _ wd_915))⟩ (kpS hK hP hD hN hZ hS) rfl rfl hl.1 rfl (lv_room (Nat.le_of_ble_eq_true rfl)) d_Md_count_8 ⟨Nat.le_of_ble_eq_true rfl, Nat.le_of_ble_eq_true rfl⟩) hP hD hS hA (fun r w H locs hw hP hD hS => ?_)
  obtain ⟨rfl, rfl⟩ := hw
  refine lv_if_ne (tgt := 16) hx hb d_Md_count_11 (by decide) (fun c_3 => ?_) (fun c_3 => ?_)
  · rw [if_neg c_3] at hf
    refine lv_aload_n hx hb d_Md_count_16 rfl (lv_at hl 0 rfl) ?_
    obtain ⟨q_4, hq_4, hf⟩ := bd_some hf
    refine kc_v (va_runV (As := []) (rest := []) ⟨hx, hb, hml, hown, hts⟩ (c_Md_know l D cA cP ob ad   q_2.2 hq_4 H.size) ⟨callB_of 0 hts (gd_Md_know) rfl rfl rfl (hts _ (List.mem_cons_of_mem _ wd_72)) (hts _ (List.mem_cons_of_mem _ wd_941)) dd_Md_know ⟨Nat.le_of_ble_eq_true rfl, Nat.le_of_ble_eq_true rfl⟩, (hts _ (List.mem_cons_of_mem _ wd_943)), (hts _ (List.mem_cons_of_mem _ wd_37))⟩ (kpV hK hP hD hN hZ hS 7 0 rfl rfl) rfl rfl hl.1 rfl (lv_room (Nat.le_of_ble_eq_true rfl)) d_Md_count_17 ⟨Nat.le_of_ble_eq_true rfl, Nat.le_of_ble_eq_true rfl⟩) hP hD hS hA (fun w H locs hw hP hD hS => ?_)
    obtain rfl := hw
    refine lv_iload_n hx hb d_Md_count_20 rfl (lv_at hl 1 rfl) ?_
    refine lv_if_ne (tgt := 31) hx hb d_Md_count_21 (by decide) (fun c_5 => ?_) (fun c_5 => ?_)
    · rw [if_neg c_5] at hf
      refine lv_iload_n hx hb d_Md_count_31 rfl (lv_at hl 1 rfl) ?_
      refine lv_iconst (v := 1) hx hb d_Md_count_32 (by decide) ?_
      refine lv_icmp_ne (tgt := 43) hx hb d_Md_count_33 (by decide) (fun c_6 => ?_) (fun c_6 => ?_)
      · rw [if_neg c_6] at hf
        refine lv_aload_n hx hb d_Md_count_43 rfl (lv_at hl 0 rfl) ?_
        refine va_get (D := D) (ci := 7) (v := .int (gi q_4 5)) (C := R_Md) (T := F_Md) (N := 26) hx hb hts (fun w h => List.mem_cons_of_mem _ (in_Md w h)) hown hK hP 0 rfl rfl 10 (by decide) (hts _ (List.mem_cons_of_mem _ wd_832)) (fun _ h9 => h9) rfl d_Md_count_44 ?_
        cases hf
        exact hret _ _ _ _ _ _ ⟨rfl, rfl⟩ hP hD hS d_Md_count_47
      · rw [if_pos c_6] at hf
        refine lv_aload_n hx hb d_Md_count_36 rfl (lv_at hl 0 rfl) ?_
        refine va_get (D := D) (ci := 7) (v := .int (gi q_4 4)) (C := R_Md) (T := F_Md) (N := 26) hx hb hts (fun w h => List.mem_cons_of_mem _ (in_Md w h)) hown hK hP 0 rfl rfl 6 (by decide) (hts _ (List.mem_cons_of_mem _ wd_828)) (fun _ h9 => h9) rfl d_Md_count_37 ?_
        refine lv_goto (tgt := 47) hx hb d_Md_count_40 (by decide) ?_
        cases hf
        exact hret _ _ _ _ _ _ ⟨rfl, rfl⟩ hP hD hS d_Md_count_47
    · rw [if_pos c_5] at hf
      refine lv_aload_n hx hb d_Md_count_24 rfl (lv_at hl 0 rfl) ?_
      refine va_get (D := D) (ci := 7) (v := .int (gi q_4 2)) (C := R_Md) (T := F_Md) (N := 26) hx hb hts (fun w h => List.mem_cons_of_mem _ (in_Md w h)) hown hK hP 0 rfl rfl 2 (by decide) (hts _ (List.mem_cons_of_mem _ wd_824)) (fun _ h9 => h9) rfl d_Md_count_25 ?_
      refine lv_goto (tgt := 47) hx hb d_Md_count_28 (by decide) ?_
      cases hf
      exact hret _ _ _ _ _ _ ⟨rfl, rfl⟩ hP hD hS d_Md_count_47
  · rw [if_pos c_3] at hf
    refine lv_iconst (v := (-1)) hx hb d_Md_count_14 (by decide) ?_
    cases hf
    exact hret _ _ _ _ _ _ ⟨rfl, rfl⟩ hP hD hS d_Md_count_15
def f_Md_count (x1 : Int32) (S : St) : Option (Int32 × St) := f_Md_count_0  x1 S
theorem c_Md_count (l : Launch) (D : va_G) (cA cP : ClassId) (ob : Nat → Nat) (ad : Nat → Nat → Nat) (x1 : Int32)  (S : St) {res : (Int32 × St)} (hf : f_Md_count x1 S = some res) : CTi l y_Md_count w_Md_count rm_Md_count 0 0 D clC (TY cA cP) [.ref (ob 0), .int x1] (mw cA cP ob ad S) (fun r w => r = res.1 ∧ w = mw cA cP ob ad res.2) :=
  mk_i (cc := b_Md_count) (maxL := 2) (own := R_Md) (by decide) rfl rfl (Nat.le_of_ble_eq_true rfl) (fun p e s m below meth c A Q C0 hret ls hl hP hD hS => w_Md_count_0 C0 hret   x1 S _ _ ls hP hD hS (lv_sub hl [0, 1] rfl) hf)
end
