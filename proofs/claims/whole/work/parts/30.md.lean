section
variable {p : Program} {l : Launch} {e : Env} {s : State} {m : MethodId} {args : Array Value} {below : List Frame} {meth : Method} {c : Code} {Q : State → Prop} {D : va_G} {cA cP : ClassId} {ob : Nat → Nat} {ad : Nat → Nat → Nat} {A : Nat → Prop}
def f_Md_findNeighbours_137  (k56 : Int32 → Int32 → St → Option St) (x1 : Int32) (x2 : Int32) (S : St) : Option St :=
  bn (x2 + 1) (fun x2_1 => k56 x1 x2_1 S)
set_option maxHeartbeats 4000000 in
set_option maxRecDepth 100000 in
theorem w_Md_findNeighbours_137 (C0 : CX p s m args c b_Md_findNeighbours 5 R_Md w_Md_findNeighbours D clC cA cP A) {res : St} (hret : RTv p l e rm_Md_findNeighbours s m args below meth c Q D clC A b_Md_findNeighbours 0 0 (fun w => w = mw cA cP ob ad res))   (k56 : Int32 → Int32 → St → Option St) (hk56 : ∀ (x1 : Int32) (x2 : Int32) (S : St) (H : Heap) (locs : List Loc) (ls : Array Slot), va_P D clC (mw cA cP ob ad S) H → va_D A (mw cA cP ob ad S) → va_S A s.heap H locs → lv_has ls 5 [(0, .ref (ob 0)), (1, .int x1), (2, .int x2)] → k56 x1 x2 S = some res → W p l e rm_Md_findNeighbours s m args below meth c H locs 0 0 Q (F0 m 56 ls [])) : ∀ (x1 : Int32) (x2 : Int32) (S : St) (H : Heap) (locs : List Loc) (ls : Array Slot), va_P D clC (mw cA cP ob ad S) H → va_D A (mw cA cP ob ad S) → va_S A s.heap H locs → lv_has ls 5 [(0, .ref (ob 0)), (1, .int x1), (2, .int x2)] → f_Md_findNeighbours_137  k56 x1 x2 S = some res → W p l e rm_Md_findNeighbours s m args below meth c H locs 0 0 Q (F0 m 137 ls []) := by
  obtain ⟨hx, hb, hml, hown, hts, hK, hA, hN, hZ⟩ := id C0
  intro x1 x2 S H locs ls hP hD hS hl hf
  rw [f_Md_findNeighbours_137] at hf
  obtain ⟨x2_1, ex2_1, hf⟩ := bn_some hf
  refine lv_iinc (v := x2_1) (lv' := [(2, .int x2_1), (0, .ref (ob 0)), (1, .int x1)]) hx hb d_Md_findNeighbours_137 hl (k := 2) rfl (by rw [ex2_1]; rfl) (by decide) rfl (fun ls hl => ?_)
  refine lv_goto (tgt := 56) hx hb d_Md_findNeighbours_140 (by decide) ?_
  exact hk56 x1 x2_1 S H locs ls hP hD hS (lv_sub hl [1, 2, 0] rfl) hf
def f_Md_findNeighbours_66  (k56 : Int32 → Int32 → St → Option St) : Nat → Int32 → Int32 → Int32 → St → Option St
  | 0 => fun _ _ _ _ => none
  | n + 1 => fun x1 x2 x3 S => (if x3 ≤ 1 then
      f_Md_findNeighbours_137  k56 x1 x2 S
      else
      as_ (inb 0 (gn S 10)) (as_ (inb x3 (gn S 10)) (as_ (inb (x3 - 1) (gn S 10)) (bd (f_Md_isSooner x1 (ga S 10 (Int32.toNatClampNeg 0)) (ga S 10 (Int32.toNatClampNeg x3)) (ga S 10 (Int32.toNatClampNeg (x3 - 1))) S) (fun q_5 => (if q_5.1 = 0 then
        f_Md_findNeighbours_137  k56 x1 x2 q_5.2
        else
        as_ (inb x3 (gn q_5.2 10)) (bn (ga q_5.2 10 (Int32.toNatClampNeg x3)) (fun x4_8 => as_ (inb (x3 - 1) (gn q_5.2 10)) (as_ (inb x3 (gn q_5.2 10)) (bn (seta q_5.2 10 (upd (ga q_5.2 10) (Int32.toNatClampNeg x3) (ga q_5.2 10 (Int32.toNatClampNeg (x3 - 1))))) (fun S_11 => as_ (inb (x3 - 1) (gn S_11 10)) (bn (seta S_11 10 (upd (ga S_11 10) (Int32.toNatClampNeg (x3 - 1)) x4_8)) (fun S_13 => bn (x3 + (-1)) (fun x3_14 => f_Md_findNeighbours_66 k56 n x1 x2 x3_14 S_13))))))))))))))
set_option maxHeartbeats 4000000 in
set_option maxRecDepth 100000 in
theorem w_Md_findNeighbours_66 (C0 : CX p s m args c b_Md_findNeighbours 5 R_Md w_Md_findNeighbours D clC cA cP A) {res : St} (hret : RTv p l e rm_Md_findNeighbours s m args below meth c Q D clC A b_Md_findNeighbours 0 0 (fun w => w = mw cA cP ob ad res))   (k56 : Int32 → Int32 → St → Option St) (hk56 : ∀ (x1 : Int32) (x2 : Int32) (S : St) (H : Heap) (locs : List Loc) (ls : Array Slot), va_P D clC (mw cA cP ob ad S) H → va_D A (mw cA cP ob ad S) → va_S A s.heap H locs → lv_has ls 5 [(0, .ref (ob 0)), (1, .int x1), (2, .int x2)] → k56 x1 x2 S = some res → W p l e rm_Md_findNeighbours s m args below meth c H locs 0 0 Q (F0 m 56 ls [])) : ∀ (n : Nat) (x1 : Int32) (x2 : Int32) (x3 : Int32) (S : St) (H : Heap) (locs : List Loc) (ls : Array Slot), va_P D clC (mw cA cP ob ad S) H → va_D A (mw cA cP ob ad S) → va_S A s.heap H locs → lv_has ls 5 [(0, .ref (ob 0)), (1, .int x1), (2, .int x2), (3, .int x3)] → f_Md_findNeighbours_66  k56 n x1 x2 x3 S = some res → W p l e rm_Md_findNeighbours s m args below meth c H locs 0 0 Q (F0 m 66 ls []) := by
  obtain ⟨hx, hb, hml, hown, hts, hK, hA, hN, hZ⟩ := id C0
  intro n
  induction n with
  | zero =>
    intro x1 x2 x3 S H locs ls hP hD hS hl hf
    cases hf
  | succ n ih =>
    intro x1 x2 x3 S H locs ls hP hD hS hl hf
    rw [f_Md_findNeighbours_66] at hf
    try dsimp only at hf
    refine lv_iload_n hx hb d_Md_findNeighbours_66 rfl (lv_at hl 3 rfl) ?_
    refine lv_iconst (v := 1) hx hb d_Md_findNeighbours_67 (by decide) ?_
    refine lv_icmp_le (tgt := 137) hx hb d_Md_findNeighbours_68 (by decide) (fun c_1 => ?_) (fun c_1 => ?_)
    · rw [if_pos c_1] at hf
      exact w_Md_findNeighbours_137 C0 hret   k56 hk56 x1 x2 S H locs ls hP hD hS (lv_sub hl [0, 1, 2] rfl) hf
    · rw [if_neg c_1] at hf
      refine lv_aload_n hx hb d_Md_findNeighbours_71 rfl (lv_at hl 0 rfl) ?_
      refine lv_iload_n hx hb d_Md_findNeighbours_72 rfl (lv_at hl 1 rfl) ?_
      refine lv_aload_n hx hb d_Md_findNeighbours_73 rfl (lv_at hl 0 rfl) ?_
      refine va_get (D := D) (ci := 7) (v := .ref (ob 10)) (C := R_Md) (T := F_Md) (N := 26) hx hb hts (fun w h => List.mem_cons_of_mem _ (in_Md w h)) hown hK hP 0 rfl rfl 24 (by decide) (hts _ (List.mem_cons_of_mem _ wd_846)) (fun _ h9 => h9) rfl d_Md_findNeighbours_74 ?_
      refine lv_iconst (v := 0) hx hb d_Md_findNeighbours_77 (by decide) ?_
      obtain ⟨hi_2, hf⟩ := as_some hf
      refine va_iald hx hb hK hP 10 0 rfl rfl (inb_in hi_2) d_Md_findNeighbours_78 ?_
      refine lv_aload_n hx hb d_Md_findNeighbours_79 rfl (lv_at hl 0 rfl) ?_
      refine va_get (D := D) (ci := 7) (v := .ref (ob 10)) (C := R_Md) (T := F_Md) (N := 26) hx hb hts (fun w h => List.mem_cons_of_mem _ (in_Md w h)) hown hK hP 0 rfl rfl 24 (by decide) (hts _ (List.mem_cons_of_mem _ wd_846)) (fun _ h9 => h9) rfl d_Md_findNeighbours_80 ?_
      refine lv_iload_n hx hb d_Md_findNeighbours_83 rfl (lv_at hl 3 rfl) ?_
      obtain ⟨hi_3, hf⟩ := as_some hf
      refine va_iald hx hb hK hP 10 0 rfl rfl (inb_in hi_3) d_Md_findNeighbours_84 ?_
      refine lv_aload_n hx hb d_Md_findNeighbours_85 rfl (lv_at hl 0 rfl) ?_
      refine va_get (D := D) (ci := 7) (v := .ref (ob 10)) (C := R_Md) (T := F_Md) (N := 26) hx hb hts (fun w h => List.mem_cons_of_mem _ (in_Md w h)) hown hK hP 0 rfl rfl 24 (by decide) (hts _ (List.mem_cons_of_mem _ wd_846)) (fun _ h9 => h9) rfl d_Md_findNeighbours_86 ?_
      refine lv_iload_n hx hb d_Md_findNeighbours_89 rfl (lv_at hl 3 rfl) ?_
      refine lv_iconst (v := 1) hx hb d_Md_findNeighbours_90 (by decide) ?_
      refine lv_isub hx hb d_Md_findNeighbours_91 ?_
      obtain ⟨hi_4, hf⟩ := as_some hf
      refine va_iald hx hb hK hP 10 0 rfl rfl (inb_in hi_4) d_Md_findNeighbours_92 ?_
      obtain ⟨q_5, hq_5, hf⟩ := bd_some hf
      refine kc_i (va_runV (As := [.int x1, .int (ga S 10 (Int32.toNatClampNeg 0)), .int (ga S 10 (Int32.toNatClampNeg x3)), .int (ga S 10 (Int32.toNatClampNeg (x3 - 1)))]) (rest := []) ⟨hx, hb, hml, hown, hts⟩ (c_Md_isSooner l D cA cP ob ad x1 (ga S 10 (Int32.toNatClampNeg 0)) (ga S 10 (Int32.toNatClampNeg x3)) (ga S 10 (Int32.toNatClampNeg (x3 - 1)))  S hq_5 H.size) ⟨callB_of 4 hts (gd_Md_isSooner) rfl rfl rfl (hts _ (List.mem_cons_of_mem _ wd_72)) (hts _ (List.mem_cons_of_mem _ wd_1052)) dd_Md_isSooner ⟨Nat.le_of_ble_eq_true rfl, Nat.le_of_ble_eq_true rfl⟩, (hts _ (List.mem_cons_of_mem _ wd_1054)), (hts _ (List.mem_cons_of_mem _ wd_61))⟩ (kpV hK hP hD hN hZ hS 7 0 rfl rfl) rfl rfl hl.1 rfl (lv_room (Nat.le_of_ble_eq_true rfl)) d_Md_findNeighbours_93 ⟨Nat.le_of_ble_eq_true rfl, Nat.le_of_ble_eq_true rfl⟩) hP hD hS hA (fun r w H locs hw hP hD hS => ?_)
      obtain ⟨rfl, rfl⟩ := hw
      refine lv_if_eq (tgt := 137) hx hb d_Md_findNeighbours_96 (by decide) (fun c_6 => ?_) (fun c_6 => ?_)
      · rw [if_pos c_6] at hf
        exact w_Md_findNeighbours_137 C0 hret   k56 hk56 x1 x2 q_5.2 H locs ls hP hD hS (lv_sub hl [0, 1, 2] rfl) hf
      · rw [if_neg c_6] at hf
        refine lv_aload_n hx hb d_Md_findNeighbours_99 rfl (lv_at hl 0 rfl) ?_
        refine va_get (D := D) (ci := 7) (v := .ref (ob 10)) (C := R_Md) (T := F_Md) (N := 26) hx hb hts (fun w h => List.mem_cons_of_mem _ (in_Md w h)) hown hK hP 0 rfl rfl 24 (by decide) (hts _ (List.mem_cons_of_mem _ wd_846)) (fun _ h9 => h9) rfl d_Md_findNeighbours_100 ?_
        refine lv_iload_n hx hb d_Md_findNeighbours_103 rfl (lv_at hl 3 rfl) ?_
        obtain ⟨hi_7, hf⟩ := as_some hf
        refine va_iald hx hb hK hP 10 0 rfl rfl (inb_in hi_7) d_Md_findNeighbours_104 ?_
        obtain ⟨x4_8, ex4_8, hf⟩ := bn_some hf
        refine tpi ex4_8 ?_
        refine lv_istore (lv' := [(4, .int x4_8), (0, .ref (ob 0)), (1, .int x1), (2, .int x2), (3, .int x3)]) hx hb d_Md_findNeighbours_105 hl (by decide) rfl (fun ls hl => ?_)
        refine lv_aload_n hx hb d_Md_findNeighbours_107 rfl (lv_at hl 1 rfl) ?_
        refine va_get (D := D) (ci := 7) (v := .ref (ob 10)) (C := R_Md) (T := F_Md) (N := 26) hx hb hts (fun w h => List.mem_cons_of_mem _ (in_Md w h)) hown hK hP 0 rfl rfl 24 (by decide) (hts _ (List.mem_cons_of_mem _ wd_846)) (fun _ h9 => h9) rfl d_Md_findNeighbours_108 ?_
        refine lv_iload_n hx hb d_Md_findNeighbours_111 rfl (lv_at hl 4 rfl) ?_
        refine lv_aload_n hx hb d_Md_findNeighbours_112 rfl (lv_at hl 1 rfl) ?_
        refine va_get (D := D) (ci := 7) (v := .ref (ob 10)) (C := R_Md) (T := F_Md) (N := 26) hx hb hts (fun w h => List.mem_cons_of_mem _ (in_Md w h)) hown hK hP 0 rfl rfl 24 (by decide) (hts _ (List.mem_cons_of_mem _ wd_846)) (fun _ h9 => h9) rfl d_Md_findNeighbours_113 ?_
        refine lv_iload_n hx hb d_Md_findNeighbours_116 rfl (lv_at hl 4 rfl) ?_
        refine lv_iconst (v := 1) hx hb d_Md_findNeighbours_117 (by decide) ?_
        refine lv_isub hx hb d_Md_findNeighbours_118 ?_
        obtain ⟨hi_9, hf⟩ := as_some hf
        refine va_iald hx hb hK hP 10 0 rfl rfl (inb_in hi_9) d_Md_findNeighbours_119 ?_
        obtain ⟨hi_10, hf⟩ := as_some hf
        obtain ⟨S_11, eS_11, hf⟩ := bn_some hf
        refine va_iast hx hb hK hP hD hS 10 0 rfl rfl (inb_in hi_10) d_Md_findNeighbours_120 (fun H locs hP hD hS => ?_)
        have hP : va_P D clC (mw cA cP ob ad S_11) H := by rw [eS_11]; exact hP
        have hD : va_D A (mw cA cP ob ad S_11) := by rw [eS_11]; exact hD
        refine lv_aload_n hx hb d_Md_findNeighbours_121 rfl (lv_at hl 1 rfl) ?_
        refine va_get (D := D) (ci := 7) (v := .ref (ob 10)) (C := R_Md) (T := F_Md) (N := 26) hx hb hts (fun w h => List.mem_cons_of_mem _ (in_Md w h)) hown hK hP 0 rfl rfl 24 (by decide) (hts _ (List.mem_cons_of_mem _ wd_846)) (fun _ h9 => h9) rfl d_Md_findNeighbours_122 ?_
        refine lv_iload_n hx hb d_Md_findNeighbours_125 rfl (lv_at hl 4 rfl) ?_
        refine lv_iconst (v := 1) hx hb d_Md_findNeighbours_126 (by decide) ?_
        refine lv_isub hx hb d_Md_findNeighbours_127 ?_
        refine lv_iload hx hb d_Md_findNeighbours_128 (lv_at hl 0 rfl) ?_
        obtain ⟨hi_12, hf⟩ := as_some hf
        obtain ⟨S_13, eS_13, hf⟩ := bn_some hf
        refine va_iast hx hb hK hP hD hS 10 0 rfl rfl (inb_in hi_12) d_Md_findNeighbours_130 (fun H locs hP hD hS => ?_)
        have hP : va_P D clC (mw cA cP ob ad S_13) H := by rw [eS_13]; exact hP
        have hD : va_D A (mw cA cP ob ad S_13) := by rw [eS_13]; exact hD
        obtain ⟨x3_14, ex3_14, hf⟩ := bn_some hf
        refine lv_iinc (v := x3_14) (lv' := [(3, .int x3_14), (4, .int x4_8), (0, .ref (ob 0)), (1, .int x1), (2, .int x2)]) hx hb d_Md_findNeighbours_131 hl (k := 4) rfl (by rw [ex3_14]; rfl) (by decide) rfl (fun ls hl => ?_)
        refine lv_goto (tgt := 66) hx hb d_Md_findNeighbours_134 (by decide) ?_
        exact ih x1 x2 x3_14 S_13 H locs ls hP hD hS (lv_sub hl [2, 3, 4, 0] rfl) hf
def f_Md_findNeighbours_56   : Nat → Int32 → Int32 → St → Option St
  | 0 => fun _ _ _ => none
  | n + 1 => fun x1 x2 S => (if (gi S 9) ≤ x2 then
      some S
      else
      f_Md_findNeighbours_66  (f_Md_findNeighbours_56  n) FU x1 x2 x2 S)
set_option maxHeartbeats 4000000 in
set_option maxRecDepth 100000 in
theorem w_Md_findNeighbours_56 (C0 : CX p s m args c b_Md_findNeighbours 5 R_Md w_Md_findNeighbours D clC cA cP A) {res : St} (hret : RTv p l e rm_Md_findNeighbours s m args below meth c Q D clC A b_Md_findNeighbours 0 0 (fun w => w = mw cA cP ob ad res))    : ∀ (n : Nat) (x1 : Int32) (x2 : Int32) (S : St) (H : Heap) (locs : List Loc) (ls : Array Slot), va_P D clC (mw cA cP ob ad S) H → va_D A (mw cA cP ob ad S) → va_S A s.heap H locs → lv_has ls 5 [(0, .ref (ob 0)), (1, .int x1), (2, .int x2)] → f_Md_findNeighbours_56   n x1 x2 S = some res → W p l e rm_Md_findNeighbours s m args below meth c H locs 0 0 Q (F0 m 56 ls []) := by
  obtain ⟨hx, hb, hml, hown, hts, hK, hA, hN, hZ⟩ := id C0
  intro n
  induction n with
  | zero =>
    intro x1 x2 S H locs ls hP hD hS hl hf
    cases hf
  | succ n ih =>
    intro x1 x2 S H locs ls hP hD hS hl hf
    rw [f_Md_findNeighbours_56] at hf
    try dsimp only at hf
    refine lv_iload_n hx hb d_Md_findNeighbours_56 rfl (lv_at hl 2 rfl) ?_
    refine lv_aload_n hx hb d_Md_findNeighbours_57 rfl (lv_at hl 0 rfl) ?_
    refine va_get (D := D) (ci := 7) (v := .int (gi S 9)) (C := R_Md) (T := F_Md) (N := 26) hx hb hts (fun w h => List.mem_cons_of_mem _ (in_Md w h)) hown hK hP 0 rfl rfl 23 (by decide) (hts _ (List.mem_cons_of_mem _ wd_845)) (fun _ h9 => h9) rfl d_Md_findNeighbours_58 ?_
    refine lv_icmp_ge (tgt := 143) hx hb d_Md_findNeighbours_61 (by decide) (fun c_1 => ?_) (fun c_1 => ?_)
    · rw [if_pos c_1] at hf
      cases hf
      exact hret _ _ _ _ _ rfl hP hD hS d_Md_findNeighbours_143
    · rw [if_neg c_1] at hf
      refine lv_iload_n hx hb d_Md_findNeighbours_64 rfl (lv_at hl 2 rfl) ?_
      refine lv_istore_n (lv' := [(3, .int x2), (0, .ref (ob 0)), (1, .int x1), (2, .int x2)]) hx hb d_Md_findNeighbours_65 rfl hl (by decide) rfl (fun ls hl => ?_)
      exact w_Md_findNeighbours_66 C0 hret   (f_Md_findNeighbours_56  n) ih FU x1 x2 x2 S H locs ls hP hD hS (lv_sub hl [1, 2, 3, 0] rfl) hf
def f_Md_findNeighbours_48  (k11 : Int32 → Int32 → St → Option St) (x1 : Int32) (x2 : Int32) (S : St) : Option St :=
  bn (x2 + 1) (fun x2_1 => k11 x1 x2_1 S)
set_option maxHeartbeats 4000000 in
set_option maxRecDepth 100000 in
theorem w_Md_findNeighbours_48 (C0 : CX p s m args c b_Md_findNeighbours 5 R_Md w_Md_findNeighbours D clC cA cP A) {res : St} (hret : RTv p l e rm_Md_findNeighbours s m args below meth c Q D clC A b_Md_findNeighbours 0 0 (fun w => w = mw cA cP ob ad res))   (k11 : Int32 → Int32 → St → Option St) (hk11 : ∀ (x1 : Int32) (x2 : Int32) (S : St) (H : Heap) (locs : List Loc) (ls : Array Slot), va_P D clC (mw cA cP ob ad S) H → va_D A (mw cA cP ob ad S) → va_S A s.heap H locs → lv_has ls 5 [(0, .ref (ob 0)), (1, .int x1), (2, .int x2)] → k11 x1 x2 S = some res → W p l e rm_Md_findNeighbours s m args below meth c H locs 0 0 Q (F0 m 11 ls [])) : ∀ (x1 : Int32) (x2 : Int32) (S : St) (H : Heap) (locs : List Loc) (ls : Array Slot), va_P D clC (mw cA cP ob ad S) H → va_D A (mw cA cP ob ad S) → va_S A s.heap H locs → lv_has ls 5 [(0, .ref (ob 0)), (1, .int x1), (2, .int x2)] → f_Md_findNeighbours_48  k11 x1 x2 S = some res → W p l e rm_Md_findNeighbours s m args below meth c H locs 0 0 Q (F0 m 48 ls []) := by
  obtain ⟨hx, hb, hml, hown, hts, hK, hA, hN, hZ⟩ := id C0
  intro x1 x2 S H locs ls hP hD hS hl hf
  rw [f_Md_findNeighbours_48] at hf
  obtain ⟨x2_1, ex2_1, hf⟩ := bn_some hf
  refine lv_iinc (v := x2_1) (lv' := [(2, .int x2_1), (0, .ref (ob 0)), (1, .int x1)]) hx hb d_Md_findNeighbours_48 hl (k := 2) rfl (by rw [ex2_1]; rfl) (by decide) rfl (fun ls hl => ?_)
  refine lv_goto (tgt := 11) hx hb d_Md_findNeighbours_51 (by decide) ?_
  exact hk11 x1 x2_1 S H locs ls hP hD hS (lv_sub hl [1, 2, 0] rfl) hf
def f_Md_findNeighbours_11   : Nat → Int32 → Int32 → St → Option St
  | 0 => fun _ _ _ => none
  | n + 1 => fun x1 x2 S => (if (gi S 2) ≤ x2 then
      f_Md_findNeighbours_56   FU x1 2 S
      else
      bd (f_Md_areNeighbours x1 x2 S) (fun q_2 => (if q_2.1 = 0 then
        f_Md_findNeighbours_48  (f_Md_findNeighbours_11  n) x1 x2 q_2.2
        else
        as_ (inb (gi q_2.2 9) (gn q_2.2 10)) (bn (seta q_2.2 10 (upd (ga q_2.2 10) (Int32.toNatClampNeg (gi q_2.2 9)) x2)) (fun S_5 => bn (seti S_5 9 ((gi S_5 9) + 1)) (fun S_6 => f_Md_findNeighbours_48  (f_Md_findNeighbours_11  n) x1 x2 S_6))))))
set_option maxHeartbeats 4000000 in
set_option maxRecDepth 100000 in
theorem w_Md_findNeighbours_11 (C0 : CX p s m args c b_Md_findNeighbours 5 R_Md w_Md_findNeighbours D clC cA cP A) {res : St} (hret : RTv p l e rm_Md_findNeighbours s m args below meth c Q D clC A b_Md_findNeighbours 0 0 (fun w => w = mw cA cP ob ad res))    : ∀ (n : Nat) (x1 : Int32) (x2 : Int32) (S : St) (H : Heap) (locs : List Loc) (ls : Array Slot), va_P D clC (mw cA cP ob ad S) H → va_D A (mw cA cP ob ad S) → va_S A s.heap H locs → lv_has ls 5 [(0, .ref (ob 0)), (1, .int x1), (2, .int x2)] → f_Md_findNeighbours_11   n x1 x2 S = some res → W p l e rm_Md_findNeighbours s m args below meth c H locs 0 0 Q (F0 m 11 ls []) := by
  obtain ⟨hx, hb, hml, hown, hts, hK, hA, hN, hZ⟩ := id C0
  intro n
  induction n with
  | zero =>
    intro x1 x2 S H locs ls hP hD hS hl hf
    cases hf
  | succ n ih =>
    intro x1 x2 S H locs ls hP hD hS hl hf
    rw [f_Md_findNeighbours_11] at hf
    try dsimp only at hf
    refine lv_iload_n hx hb d_Md_findNeighbours_11 rfl (lv_at hl 2 rfl) ?_
    refine lv_aload_n hx hb d_Md_findNeighbours_12 rfl (lv_at hl 0 rfl) ?_
    refine va_get (D := D) (ci := 7) (v := .int (gi S 2)) (C := R_Md) (T := F_Md) (N := 26) hx hb hts (fun w h => List.mem_cons_of_mem _ (in_Md w h)) hown hK hP 0 rfl rfl 2 (by decide) (hts _ (List.mem_cons_of_mem _ wd_824)) (fun _ h9 => h9) rfl d_Md_findNeighbours_13 ?_
    refine lv_icmp_ge (tgt := 54) hx hb d_Md_findNeighbours_16 (by decide) (fun c_1 => ?_) (fun c_1 => ?_)
    · rw [if_pos c_1] at hf
      refine lv_iconst (v := 2) hx hb d_Md_findNeighbours_54 (by decide) ?_
      refine lv_istore_n (lv' := [(2, .int 2), (0, .ref (ob 0)), (1, .int x1)]) hx hb d_Md_findNeighbours_55 rfl hl (by decide) rfl (fun ls hl => ?_)
      exact w_Md_findNeighbours_56 C0 hret    FU x1 2 S H locs ls hP hD hS (lv_sub hl [1, 2, 0] rfl) hf
    · rw [if_neg c_1] at hf
      refine lv_aload_n hx hb d_Md_findNeighbours_19 rfl (lv_at hl 0 rfl) ?_
      refine lv_iload_n hx hb d_Md_findNeighbours_20 rfl (lv_at hl 1 rfl) ?_
      refine lv_iload_n hx hb d_Md_findNeighbours_21 rfl (lv_at hl 2 rfl) ?_
      obtain ⟨q_2, hq_2, hf⟩ := bd_some hf
      refine kc_i (va_runV (As := [.int x1, .int x2]) (rest := []) ⟨hx, hb, hml, hown, hts⟩ (c_Md_areNeighbours l D cA cP ob ad x1 x2  S hq_2 H.size) ⟨callB_of 2 hts (gd_Md_areNeighbours) rfl rfl rfl (hts _ (List.mem_cons_of_mem _ wd_72)) (hts _ (List.mem_cons_of_mem _ wd_1040)) dd_Md_areNeighbours ⟨Nat.le_of_ble_eq_true rfl, Nat.le_of_ble_eq_true rfl⟩, (hts _ (List.mem_cons_of_mem _ wd_1042)), (hts _ (List.mem_cons_of_mem _ wd_58))⟩ (kpV hK hP hD hN hZ hS 7 0 rfl rfl) rfl rfl hl.1 rfl (lv_room (Nat.le_of_ble_eq_true rfl)) d_Md_findNeighbours_22 ⟨Nat.le_of_ble_eq_true rfl, Nat.le_of_ble_eq_true rfl⟩) hP hD hS hA (fun r w H locs hw hP hD hS => ?_)
      obtain ⟨rfl, rfl⟩ := hw
      refine lv_if_eq (tgt := 48) hx hb d_Md_findNeighbours_25 (by decide) (fun c_3 => ?_) (fun c_3 => ?_)
      · rw [if_pos c_3] at hf
        exact w_Md_findNeighbours_48 C0 hret   (f_Md_findNeighbours_11  n) ih x1 x2 q_2.2 H locs ls hP hD hS (lv_sub hl [0, 1, 2] rfl) hf
      · rw [if_neg c_3] at hf
        refine lv_aload_n hx hb d_Md_findNeighbours_28 rfl (lv_at hl 0 rfl) ?_
        refine va_get (D := D) (ci := 7) (v := .ref (ob 10)) (C := R_Md) (T := F_Md) (N := 26) hx hb hts (fun w h => List.mem_cons_of_mem _ (in_Md w h)) hown hK hP 0 rfl rfl 24 (by decide) (hts _ (List.mem_cons_of_mem _ wd_846)) (fun _ h9 => h9) rfl d_Md_findNeighbours_29 ?_
        refine lv_aload_n hx hb d_Md_findNeighbours_32 rfl (lv_at hl 0 rfl) ?_
        refine va_get (D := D) (ci := 7) (v := .int (gi q_2.2 9)) (C := R_Md) (T := F_Md) (N := 26) hx hb hts (fun w h => List.mem_cons_of_mem _ (in_Md w h)) hown hK hP 0 rfl rfl 23 (by decide) (hts _ (List.mem_cons_of_mem _ wd_845)) (fun _ h9 => h9) rfl d_Md_findNeighbours_33 ?_
        refine lv_iload_n hx hb d_Md_findNeighbours_36 rfl (lv_at hl 2 rfl) ?_
        obtain ⟨hi_4, hf⟩ := as_some hf
        obtain ⟨S_5, eS_5, hf⟩ := bn_some hf
        refine va_iast hx hb hK hP hD hS 10 0 rfl rfl (inb_in hi_4) d_Md_findNeighbours_37 (fun H locs hP hD hS => ?_)
        have hP : va_P D clC (mw cA cP ob ad S_5) H := by rw [eS_5]; exact hP
        have hD : va_D A (mw cA cP ob ad S_5) := by rw [eS_5]; exact hD
        refine lv_aload_n hx hb d_Md_findNeighbours_38 rfl (lv_at hl 0 rfl) ?_
        refine lv_dup hx hb d_Md_findNeighbours_39 rfl ?_
        refine va_get (D := D) (ci := 7) (v := .int (gi S_5 9)) (C := R_Md) (T := F_Md) (N := 26) hx hb hts (fun w h => List.mem_cons_of_mem _ (in_Md w h)) hown hK hP 0 rfl rfl 23 (by decide) (hts _ (List.mem_cons_of_mem _ wd_845)) (fun _ h9 => h9) rfl d_Md_findNeighbours_40 ?_
        refine lv_iconst (v := 1) hx hb d_Md_findNeighbours_43 (by decide) ?_
        refine lv_iadd hx hb d_Md_findNeighbours_44 ?_
        obtain ⟨S_6, eS_6, hf⟩ := bn_some hf
        refine va_put (D := D) (ci := 7) (v := .int ((gi S_5 9) + 1)) (ty := .int) (C := R_Md) (T := F_Md) (N := 26) hx hb hts (fun w h => List.mem_cons_of_mem _ (in_Md w h)) t_Md tk_Md nk_Md hown hK hP hD hS 0 rfl rfl 23 (by decide) (hts _ (List.mem_cons_of_mem _ wd_845)) (fun _ h9 => h9) rfl (by decide +kernel) rfl rfl (Nat.le_of_ble_eq_true rfl) d_Md_findNeighbours_45 (fun H locs hP hD hS => ?_)
        have hP : va_P D clC (mw cA cP ob ad S_6) H := by rw [eS_6]; exact hP
        have hD : va_D A (mw cA cP ob ad S_6) := by rw [eS_6]; exact hD
        exact w_Md_findNeighbours_48 C0 hret   (f_Md_findNeighbours_11  n) ih x1 x2 S_6 H locs ls hP hD hS (lv_sub hl [0, 1, 2] rfl) hf
def f_Md_findNeighbours_0   (x1 : Int32) (S : St) : Option St :=
  bd (f_Md_know  S) (fun q_1 => bn (seti q_1 9 0) (fun S_2 => f_Md_findNeighbours_11   FU x1 0 S_2))
set_option maxHeartbeats 4000000 in
set_option maxRecDepth 100000 in
theorem w_Md_findNeighbours_0 (C0 : CX p s m args c b_Md_findNeighbours 5 R_Md w_Md_findNeighbours D clC cA cP A) {res : St} (hret : RTv p l e rm_Md_findNeighbours s m args below meth c Q D clC A b_Md_findNeighbours 0 0 (fun w => w = mw cA cP ob ad res))    : ∀ (x1 : Int32) (S : St) (H : Heap) (locs : List Loc) (ls : Array Slot), va_P D clC (mw cA cP ob ad S) H → va_D A (mw cA cP ob ad S) → va_S A s.heap H locs → lv_has ls 5 [(0, .ref (ob 0)), (1, .int x1)] → f_Md_findNeighbours_0   x1 S = some res → W p l e rm_Md_findNeighbours s m args below meth c H locs 0 0 Q (F0 m 0 ls []) := by
  obtain ⟨hx, hb, hml, hown, hts, hK, hA, hN, hZ⟩ := id C0
  intro x1 S H locs ls hP hD hS hl hf
  rw [f_Md_findNeighbours_0] at hf
  refine lv_aload_n hx hb d_Md_findNeighbours_0 rfl (lv_at hl 0 rfl) ?_
  obtain ⟨q_1, hq_1, hf⟩ := bd_some hf
  refine kc_v (va_runV (As := []) (rest := []) ⟨hx, hb, hml, hown, hts⟩ (c_Md_know l D cA cP ob ad   S hq_1 H.size) ⟨callB_of 0 hts (gd_Md_know) rfl rfl rfl (hts _ (List.mem_cons_of_mem _ wd_72)) (hts _ (List.mem_cons_of_mem _ wd_941)) dd_Md_know ⟨Nat.le_of_ble_eq_true rfl, Nat.le_of_ble_eq_true rfl⟩, (hts _ (List.mem_cons_of_mem _ wd_943)), (hts _ (List.mem_cons_of_mem _ wd_37))⟩ (kpV hK hP hD hN hZ hS 7 0 rfl rfl) rfl rfl hl.1 rfl (lv_room (Nat.le_of_ble_eq_true rfl)) d_Md_findNeighbours_1 ⟨Nat.le_of_ble_eq_true rfl, Nat.le_of_ble_eq_true rfl⟩) hP hD hS hA (fun w H locs hw hP hD hS => ?_)
  obtain rfl := hw
  refine lv_aload_n hx hb d_Md_findNeighbours_4 rfl (lv_at hl 0 rfl) ?_
  refine lv_iconst (v := 0) hx hb d_Md_findNeighbours_5 (by decide) ?_
  obtain ⟨S_2, eS_2, hf⟩ := bn_some hf
  refine va_put (D := D) (ci := 7) (v := .int 0) (ty := .int) (C := R_Md) (T := F_Md) (N := 26) hx hb hts (fun w h => List.mem_cons_of_mem _ (in_Md w h)) t_Md tk_Md nk_Md hown hK hP hD hS 0 rfl rfl 23 (by decide) (hts _ (List.mem_cons_of_mem _ wd_845)) (fun _ h9 => h9) rfl (by decide +kernel) rfl rfl (Nat.le_of_ble_eq_true rfl) d_Md_findNeighbours_6 (fun H locs hP hD hS => ?_)
  have hP : va_P D clC (mw cA cP ob ad S_2) H := by rw [eS_2]; exact hP
  have hD : va_D A (mw cA cP ob ad S_2) := by rw [eS_2]; exact hD
  refine lv_iconst (v := 0) hx hb d_Md_findNeighbours_9 (by decide) ?_
  refine lv_istore_n (lv' := [(2, .int 0), (0, .ref (ob 0)), (1, .int x1)]) hx hb d_Md_findNeighbours_10 rfl hl (by decide) rfl (fun ls hl => ?_)
  exact w_Md_findNeighbours_11 C0 hret    FU x1 0 S_2 H locs ls hP hD hS (lv_sub hl [1, 2, 0] rfl) hf
def f_Md_findNeighbours (x1 : Int32) (S : St) : Option St := f_Md_findNeighbours_0  x1 S
theorem c_Md_findNeighbours (l : Launch) (D : va_G) (cA cP : ClassId) (ob : Nat → Nat) (ad : Nat → Nat → Nat) (x1 : Int32)  (S : St) {res : St} (hf : f_Md_findNeighbours x1 S = some res) : CTv l y_Md_findNeighbours w_Md_findNeighbours rm_Md_findNeighbours 0 0 D clC (TY cA cP) [.ref (ob 0), .int x1] (mw cA cP ob ad S) (fun w => w = mw cA cP ob ad res) :=
  mk_v (cc := b_Md_findNeighbours) (maxL := 5) (own := R_Md) (by decide) rfl rfl (Nat.le_of_ble_eq_true rfl) (fun p e s m below meth c A Q C0 hret ls hl hP hD hS => w_Md_findNeighbours_0 C0 hret   x1 S _ _ ls hP hD hS (lv_sub hl [0, 1] rfl) hf)
def f_Md_neighbours_0   (x1 : Int32) (S : St) : Option (Int32 × St) :=
  bn (seti S 0 0) (fun S_1 => bd (f_Md_within x1 0 ((gi S_1 2) - 1) S_1) (fun q_2 => (if q_2.1 = 0 then
    bd (f_Md_fail 1 q_2.2) (fun q_5 => some (q_5.1, q_5.2))
    else
    bd (f_Md_findNeighbours x1 q_2.2) (fun q_4 => some ((gi q_4 9), q_4)))))
set_option maxHeartbeats 4000000 in
set_option maxRecDepth 100000 in
theorem w_Md_neighbours_0 (C0 : CX p s m args c b_Md_neighbours 2 R_Md w_Md_neighbours D clC cA cP A) {res : (Int32 × St)} (hret : RTi p l e rm_Md_neighbours s m args below meth c Q D clC A b_Md_neighbours 0 0 (fun r w => r = res.1 ∧ w = mw cA cP ob ad res.2))    : ∀ (x1 : Int32) (S : St) (H : Heap) (locs : List Loc) (ls : Array Slot), va_P D clC (mw cA cP ob ad S) H → va_D A (mw cA cP ob ad S) → va_S A s.heap H locs → lv_has ls 2 [(0, .ref (ob 0)), (1, .int x1)] → f_Md_neighbours_0   x1 S = some res → W p l e rm_Md_neighbours s m args below meth c H locs 0 0 Q (F0 m 0 ls []) := by
  obtain ⟨hx, hb, hml, hown, hts, hK, hA, hN, hZ⟩ := id C0
  intro x1 S H locs ls hP hD hS hl hf
  rw [f_Md_neighbours_0] at hf
  refine lv_aload_n hx hb d_Md_neighbours_0 rfl (lv_at hl 0 rfl) ?_
  refine lv_iconst (v := 0) hx hb d_Md_neighbours_1 (by decide) ?_
  obtain ⟨S_1, eS_1, hf⟩ := bn_some hf
  refine va_put (D := D) (ci := 7) (v := .int 0) (ty := .int) (C := R_Md) (T := F_Md) (N := 26) hx hb hts (fun w h => List.mem_cons_of_mem _ (in_Md w h)) t_Md tk_Md nk_Md hown hK hP hD hS 0 rfl rfl 0 (by decide) (hts _ (List.mem_cons_of_mem _ wd_822)) (fun _ h9 => h9) rfl (by decide +kernel) rfl rfl (Nat.le_of_ble_eq_true rfl) d_Md_neighbours_2 (fun H locs hP hD hS => ?_)
  have hP : va_P D clC (mw cA cP ob ad S_1) H := by rw [eS_1]; exact hP
  have hD : va_D A (mw cA cP ob ad S_1) := by rw [eS_1]; exact hD
  refine lv_iload_n hx hb d_Md_neighbours_5 rfl (lv_at hl 1 rfl) ?_
  refine lv_iconst (v := 0) hx hb d_Md_neighbours_6 (by decide) ?_
  refine lv_aload_n hx hb d_Md_neighbours_7 rfl (lv_at hl 0 rfl) ?_
  refine va_get (D := D) (ci := 7) (v := .int (gi S_1 2)) (C := R_Md) (T := F_Md) (N := 26) hx hb hts (fun w h => List.mem_cons_of_mem _ (in_Md w h)) hown hK hP 0 rfl rfl 2 (by decide) (hts _ (List.mem_cons_of_mem _ wd_824)) (fun _ h9 => h9) rfl d_Md_neighbours_8 ?_
  refine lv_iconst (v := 1) hx hb d_Md_neighbours_11 (by decide) ?_
  refine lv_isub hx hb d_Md_neighbours_12 ?_
  obtain ⟨q_2, hq_2, hf⟩ := bd_some hf
  refine kc_i (va_runS (As := [.int x1, .int 0, .int ((gi S_1 2) - 1)]) (rest := []) ⟨hx, hb, hml, hown, hts⟩ (c_Md_within l D cA cP ob ad x1 0 ((gi S_1 2) - 1)  S_1 hq_2 H.size) ⟨callB_of 3 hts (gd_Md_within) rfl rfl rfl (hts _ (List.mem_cons_of_mem _ wd_72)) (hts _ (List.mem_cons_of_mem _ wd_914)) dd_Md_within ⟨Nat.le_of_ble_eq_true rfl, Nat.le_of_ble_eq_true rfl⟩, (hts _ (List.mem_cons_of_mem _ wd_915))⟩ (kpS hK hP hD hN hZ hS) rfl rfl hl.1 rfl (lv_room (Nat.le_of_ble_eq_true rfl)) d_Md_neighbours_13 ⟨Nat.le_of_ble_eq_true rfl, Nat.le_of_ble_eq_true rfl⟩) hP hD hS hA (fun r w H locs hw hP hD hS => ?_)
  obtain ⟨rfl, rfl⟩ := hw
  refine lv_if_ne (tgt := 25) hx hb d_Md_neighbours_16 (by decide) (fun c_3 => ?_) (fun c_3 => ?_)
  · rw [if_neg c_3] at hf
    refine lv_aload_n hx hb d_Md_neighbours_25 rfl (lv_at hl 0 rfl) ?_
    refine lv_iload_n hx hb d_Md_neighbours_26 rfl (lv_at hl 1 rfl) ?_
    obtain ⟨q_4, hq_4, hf⟩ := bd_some hf
    refine kc_v (va_runV (As := [.int x1]) (rest := []) ⟨hx, hb, hml, hown, hts⟩ (c_Md_findNeighbours l D cA cP ob ad x1  q_2.2 hq_4 H.size) ⟨callB_of 1 hts (gd_Md_findNeighbours) rfl rfl rfl (hts _ (List.mem_cons_of_mem _ wd_72)) (hts _ (List.mem_cons_of_mem _ wd_1036)) dd_Md_findNeighbours ⟨Nat.le_of_ble_eq_true rfl, Nat.le_of_ble_eq_true rfl⟩, (hts _ (List.mem_cons_of_mem _ wd_1038)), (hts _ (List.mem_cons_of_mem _ wd_57))⟩ (kpV hK hP hD hN hZ hS 7 0 rfl rfl) rfl rfl hl.1 rfl (lv_room (Nat.le_of_ble_eq_true rfl)) d_Md_neighbours_27 ⟨Nat.le_of_ble_eq_true rfl, Nat.le_of_ble_eq_true rfl⟩) hP hD hS hA (fun w H locs hw hP hD hS => ?_)
    obtain rfl := hw
    refine lv_aload_n hx hb d_Md_neighbours_30 rfl (lv_at hl 0 rfl) ?_
    refine va_get (D := D) (ci := 7) (v := .int (gi q_4 9)) (C := R_Md) (T := F_Md) (N := 26) hx hb hts (fun w h => List.mem_cons_of_mem _ (in_Md w h)) hown hK hP 0 rfl rfl 23 (by decide) (hts _ (List.mem_cons_of_mem _ wd_845)) (fun _ h9 => h9) rfl d_Md_neighbours_31 ?_
    cases hf
    exact hret _ _ _ _ _ _ ⟨rfl, rfl⟩ hP hD hS d_Md_neighbours_34
  · rw [if_pos c_3] at hf
    refine lv_aload_n hx hb d_Md_neighbours_19 rfl (lv_at hl 0 rfl) ?_
    refine lv_iconst (v := 1) hx hb d_Md_neighbours_20 (by decide) ?_
    obtain ⟨q_5, hq_5, hf⟩ := bd_some hf
    refine kc_i (va_runV (As := [.int 1]) (rest := []) ⟨hx, hb, hml, hown, hts⟩ (c_Md_fail l D cA cP ob ad 1  q_2.2 hq_5 H.size) ⟨callB_of 1 hts (gd_Md_fail) rfl rfl rfl (hts _ (List.mem_cons_of_mem _ wd_72)) (hts _ (List.mem_cons_of_mem _ wd_917)) dd_Md_fail ⟨Nat.le_of_ble_eq_true rfl, Nat.le_of_ble_eq_true rfl⟩, (hts _ (List.mem_cons_of_mem _ wd_919)), (hts _ (List.mem_cons_of_mem _ wd_34))⟩ (kpV hK hP hD hN hZ hS 7 0 rfl rfl) rfl rfl hl.1 rfl (lv_room (Nat.le_of_ble_eq_true rfl)) d_Md_neighbours_21 ⟨Nat.le_of_ble_eq_true rfl, Nat.le_of_ble_eq_true rfl⟩) hP hD hS hA (fun r w H locs hw hP hD hS => ?_)
    obtain ⟨rfl, rfl⟩ := hw
    cases hf
    exact hret _ _ _ _ _ _ ⟨rfl, rfl⟩ hP hD hS d_Md_neighbours_24
def f_Md_neighbours (x1 : Int32) (S : St) : Option (Int32 × St) := f_Md_neighbours_0  x1 S
theorem c_Md_neighbours (l : Launch) (D : va_G) (cA cP : ClassId) (ob : Nat → Nat) (ad : Nat → Nat → Nat) (x1 : Int32)  (S : St) {res : (Int32 × St)} (hf : f_Md_neighbours x1 S = some res) : CTi l y_Md_neighbours w_Md_neighbours rm_Md_neighbours 0 0 D clC (TY cA cP) [.ref (ob 0), .int x1] (mw cA cP ob ad S) (fun r w => r = res.1 ∧ w = mw cA cP ob ad res.2) :=
  mk_i (cc := b_Md_neighbours) (maxL := 2) (own := R_Md) (by decide) rfl rfl (Nat.le_of_ble_eq_true rfl) (fun p e s m below meth c A Q C0 hret ls hl hP hD hS => w_Md_neighbours_0 C0 hret   x1 S _ _ ls hP hD hS (lv_sub hl [0, 1] rfl) hf)
def f_Md_neighbour_0   (x1 : Int32) (x2 : Int32) (S : St) : Option (Int32 × St) :=
  bn (seti S 0 0) (fun S_1 => bd (f_Md_within x1 0 ((gi S_1 2) - 1) S_1) (fun q_2 => (if q_2.1 = 0 then
    bd (f_Md_fail 1 q_2.2) (fun q_9 => some (q_9.1, q_9.2))
    else
    bd (f_Md_findNeighbours x1 q_2.2) (fun q_4 => bd (f_Md_within x2 0 ((gi q_4 9) - 1) q_4) (fun q_5 => (if q_5.1 = 0 then
      bd (f_Md_fail 1 q_5.2) (fun q_7 => some (q_7.1, q_7.2))
      else
      as_ (inb x2 (gn q_5.2 10)) (some ((ga q_5.2 10 (Int32.toNatClampNeg x2)), q_5.2))))))))
set_option maxHeartbeats 4000000 in
set_option maxRecDepth 100000 in
theorem w_Md_neighbour_0 (C0 : CX p s m args c b_Md_neighbour 3 R_Md w_Md_neighbour D clC cA cP A) {res : (Int32 × St)} (hret : RTi p l e rm_Md_neighbour s m args below meth c Q D clC A b_Md_neighbour 0 0 (fun r w => r = res.1 ∧ w = mw cA cP ob ad res.2))    : ∀ (x1 : Int32) (x2 : Int32) (S : St) (H : Heap) (locs : List Loc) (ls : Array Slot), va_P D clC (mw cA cP ob ad S) H → va_D A (mw cA cP ob ad S) → va_S A s.heap H locs → lv_has ls 3 [(0, .ref (ob 0)), (1, .int x1), (2, .int x2)] → f_Md_neighbour_0   x1 x2 S = some res → W p l e rm_Md_neighbour s m args below meth c H locs 0 0 Q (F0 m 0 ls []) := by
  obtain ⟨hx, hb, hml, hown, hts, hK, hA, hN, hZ⟩ := id C0
  intro x1 x2 S H locs ls hP hD hS hl hf
  rw [f_Md_neighbour_0] at hf
  refine lv_aload_n hx hb d_Md_neighbour_0 rfl (lv_at hl 0 rfl) ?_
  refine lv_iconst (v := 0) hx hb d_Md_neighbour_1 (by decide) ?_
  obtain ⟨S_1, eS_1, hf⟩ := bn_some hf
  refine va_put (D := D) (ci := 7) (v := .int 0) (ty := .int) (C := R_Md) (T := F_Md) (N := 26) hx hb hts (fun w h => List.mem_cons_of_mem _ (in_Md w h)) t_Md tk_Md nk_Md hown hK hP hD hS 0 rfl rfl 0 (by decide) (hts _ (List.mem_cons_of_mem _ wd_822)) (fun _ h9 => h9) rfl (by decide +kernel) rfl rfl (Nat.le_of_ble_eq_true rfl) d_Md_neighbour_2 (fun H locs hP hD hS => ?_)
  have hP : va_P D clC (mw cA cP ob ad S_1) H := by rw [eS_1]; exact hP
  have hD : va_D A (mw cA cP ob ad S_1) := by rw [eS_1]; exact hD
  refine lv_iload_n hx hb d_Md_neighbour_5 rfl (lv_at hl 1 rfl) ?_
  refine lv_iconst (v := 0) hx hb d_Md_neighbour_6 (by decide) ?_
  refine lv_aload_n hx hb d_Md_neighbour_7 rfl (lv_at hl 0 rfl) ?_
  refine va_get (D := D) (ci := 7) (v := .int (gi S_1 2)) (C := R_Md) (T := F_Md) (N := 26) hx hb hts (fun w h => List.mem_cons_of_mem _ (in_Md w h)) hown hK hP 0 rfl rfl 2 (by decide) (hts _ (List.mem_cons_of_mem _ wd_824)) (fun _ h9 => h9) rfl d_Md_neighbour_8 ?_
  refine lv_iconst (v := 1) hx hb d_Md_neighbour_11 (by decide) ?_
  refine lv_isub hx hb d_Md_neighbour_12 ?_
  obtain ⟨q_2, hq_2, hf⟩ := bd_some hf
  refine kc_i (va_runS (As := [.int x1, .int 0, .int ((gi S_1 2) - 1)]) (rest := []) ⟨hx, hb, hml, hown, hts⟩ (c_Md_within l D cA cP ob ad x1 0 ((gi S_1 2) - 1)  S_1 hq_2 H.size) ⟨callB_of 3 hts (gd_Md_within) rfl rfl rfl (hts _ (List.mem_cons_of_mem _ wd_72)) (hts _ (List.mem_cons_of_mem _ wd_914)) dd_Md_within ⟨Nat.le_of_ble_eq_true rfl, Nat.le_of_ble_eq_true rfl⟩, (hts _ (List.mem_cons_of_mem _ wd_915))⟩ (kpS hK hP hD hN hZ hS) rfl rfl hl.1 rfl (lv_room (Nat.le_of_ble_eq_true rfl)) d_Md_neighbour_13 ⟨Nat.le_of_ble_eq_true rfl, Nat.le_of_ble_eq_true rfl⟩) hP hD hS hA (fun r w H locs hw hP hD hS => ?_)
  obtain ⟨rfl, rfl⟩ := hw
  refine lv_if_ne (tgt := 25) hx hb d_Md_neighbour_16 (by decide) (fun c_3 => ?_) (fun c_3 => ?_)
  · rw [if_neg c_3] at hf
    refine lv_aload_n hx hb d_Md_neighbour_25 rfl (lv_at hl 0 rfl) ?_
    refine lv_iload_n hx hb d_Md_neighbour_26 rfl (lv_at hl 1 rfl) ?_
    obtain ⟨q_4, hq_4, hf⟩ := bd_some hf
    refine kc_v (va_runV (As := [.int x1]) (rest := []) ⟨hx, hb, hml, hown, hts⟩ (c_Md_findNeighbours l D cA cP ob ad x1  q_2.2 hq_4 H.size) ⟨callB_of 1 hts (gd_Md_findNeighbours) rfl rfl rfl (hts _ (List.mem_cons_of_mem _ wd_72)) (hts _ (List.mem_cons_of_mem _ wd_1036)) dd_Md_findNeighbours ⟨Nat.le_of_ble_eq_true rfl, Nat.le_of_ble_eq_true rfl⟩, (hts _ (List.mem_cons_of_mem _ wd_1038)), (hts _ (List.mem_cons_of_mem _ wd_57))⟩ (kpV hK hP hD hN hZ hS 7 0 rfl rfl) rfl rfl hl.1 rfl (lv_room (Nat.le_of_ble_eq_true rfl)) d_Md_neighbour_27 ⟨Nat.le_of_ble_eq_true rfl, Nat.le_of_ble_eq_true rfl⟩) hP hD hS hA (fun w H locs hw hP hD hS => ?_)
    obtain rfl := hw
    refine lv_iload_n hx hb d_Md_neighbour_30 rfl (lv_at hl 2 rfl) ?_
    refine lv_iconst (v := 0) hx hb d_Md_neighbour_31 (by decide) ?_
    refine lv_aload_n hx hb d_Md_neighbour_32 rfl (lv_at hl 0 rfl) ?_
    refine va_get (D := D) (ci := 7) (v := .int (gi q_4 9)) (C := R_Md) (T := F_Md) (N := 26) hx hb hts (fun w h => List.mem_cons_of_mem _ (in_Md w h)) hown hK hP 0 rfl rfl 23 (by decide) (hts _ (List.mem_cons_of_mem _ wd_845)) (fun _ h9 => h9) rfl d_Md_neighbour_33 ?_
    refine lv_iconst (v := 1) hx hb d_Md_neighbour_36 (by decide) ?_
    refine lv_isub hx hb d_Md_neighbour_37 ?_
    obtain ⟨q_5, hq_5, hf⟩ := bd_some hf
    refine kc_i (va_runS (As := [.int x2, .int 0, .int ((gi q_4 9) - 1)]) (rest := []) ⟨hx, hb, hml, hown, hts⟩ (c_Md_within l D cA cP ob ad x2 0 ((gi q_4 9) - 1)  q_4 hq_5 H.size) ⟨callB_of 3 hts (gd_Md_within) rfl rfl rfl (hts _ (List.mem_cons_of_mem _ wd_72)) (hts _ (List.mem_cons_of_mem _ wd_914)) dd_Md_within ⟨Nat.le_of_ble_eq_true rfl, Nat.le_of_ble_eq_true rfl⟩, (hts _ (List.mem_cons_of_mem _ wd_915))⟩ (kpS hK hP hD hN hZ hS) rfl rfl hl.1 rfl (lv_room (Nat.le_of_ble_eq_true rfl)) d_Md_neighbour_38 ⟨Nat.le_of_ble_eq_true rfl, Nat.le_of_ble_eq_true rfl⟩) hP hD hS hA (fun r w H locs hw hP hD hS => ?_)
    obtain ⟨rfl, rfl⟩ := hw
    refine lv_if_eq (tgt := 53) hx hb d_Md_neighbour_41 (by decide) (fun c_6 => ?_) (fun c_6 => ?_)
    · rw [if_pos c_6] at hf
      refine lv_aload_n hx hb d_Md_neighbour_53 rfl (lv_at hl 0 rfl) ?_
      refine lv_iconst (v := 1) hx hb d_Md_neighbour_54 (by decide) ?_
      obtain ⟨q_7, hq_7, hf⟩ := bd_some hf
      refine kc_i (va_runV (As := [.int 1]) (rest := []) ⟨hx, hb, hml, hown, hts⟩ (c_Md_fail l D cA cP ob ad 1  q_5.2 hq_7 H.size) ⟨callB_of 1 hts (gd_Md_fail) rfl rfl rfl (hts _ (List.mem_cons_of_mem _ wd_72)) (hts _ (List.mem_cons_of_mem _ wd_917)) dd_Md_fail ⟨Nat.le_of_ble_eq_true rfl, Nat.le_of_ble_eq_true rfl⟩, (hts _ (List.mem_cons_of_mem _ wd_919)), (hts _ (List.mem_cons_of_mem _ wd_34))⟩ (kpV hK hP hD hN hZ hS 7 0 rfl rfl) rfl rfl hl.1 rfl (lv_room (Nat.le_of_ble_eq_true rfl)) d_Md_neighbour_55 ⟨Nat.le_of_ble_eq_true rfl, Nat.le_of_ble_eq_true rfl⟩) hP hD hS hA (fun r w H locs hw hP hD hS => ?_)
      obtain ⟨rfl, rfl⟩ := hw
      cases hf
      exact hret _ _ _ _ _ _ ⟨rfl, rfl⟩ hP hD hS d_Md_neighbour_58
    · rw [if_neg c_6] at hf
      refine lv_aload_n hx hb d_Md_neighbour_44 rfl (lv_at hl 0 rfl) ?_
      refine va_get (D := D) (ci := 7) (v := .ref (ob 10)) (C := R_Md) (T := F_Md) (N := 26) hx hb hts (fun w h => List.mem_cons_of_mem _ (in_Md w h)) hown hK hP 0 rfl rfl 24 (by decide) (hts _ (List.mem_cons_of_mem _ wd_846)) (fun _ h9 => h9) rfl d_Md_neighbour_45 ?_
      refine lv_iload_n hx hb d_Md_neighbour_48 rfl (lv_at hl 2 rfl) ?_
      obtain ⟨hi_8, hf⟩ := as_some hf
      refine va_iald hx hb hK hP 10 0 rfl rfl (inb_in hi_8) d_Md_neighbour_49 ?_
      refine lv_goto (tgt := 58) hx hb d_Md_neighbour_50 (by decide) ?_
      cases hf
      exact hret _ _ _ _ _ _ ⟨rfl, rfl⟩ hP hD hS d_Md_neighbour_58
  · rw [if_pos c_3] at hf
    refine lv_aload_n hx hb d_Md_neighbour_19 rfl (lv_at hl 0 rfl) ?_
    refine lv_iconst (v := 1) hx hb d_Md_neighbour_20 (by decide) ?_
    obtain ⟨q_9, hq_9, hf⟩ := bd_some hf
    refine kc_i (va_runV (As := [.int 1]) (rest := []) ⟨hx, hb, hml, hown, hts⟩ (c_Md_fail l D cA cP ob ad 1  q_2.2 hq_9 H.size) ⟨callB_of 1 hts (gd_Md_fail) rfl rfl rfl (hts _ (List.mem_cons_of_mem _ wd_72)) (hts _ (List.mem_cons_of_mem _ wd_917)) dd_Md_fail ⟨Nat.le_of_ble_eq_true rfl, Nat.le_of_ble_eq_true rfl⟩, (hts _ (List.mem_cons_of_mem _ wd_919)), (hts _ (List.mem_cons_of_mem _ wd_34))⟩ (kpV hK hP hD hN hZ hS 7 0 rfl rfl) rfl rfl hl.1 rfl (lv_room (Nat.le_of_ble_eq_true rfl)) d_Md_neighbour_21 ⟨Nat.le_of_ble_eq_true rfl, Nat.le_of_ble_eq_true rfl⟩) hP hD hS hA (fun r w H locs hw hP hD hS => ?_)
    obtain ⟨rfl, rfl⟩ := hw
    cases hf
    exact hret _ _ _ _ _ _ ⟨rfl, rfl⟩ hP hD hS d_Md_neighbour_24
def f_Md_neighbour (x1 : Int32) (x2 : Int32) (S : St) : Option (Int32 × St) := f_Md_neighbour_0  x1 x2 S
theorem c_Md_neighbour (l : Launch) (D : va_G) (cA cP : ClassId) (ob : Nat → Nat) (ad : Nat → Nat → Nat) (x1 : Int32) (x2 : Int32)  (S : St) {res : (Int32 × St)} (hf : f_Md_neighbour x1 x2 S = some res) : CTi l y_Md_neighbour w_Md_neighbour rm_Md_neighbour 0 0 D clC (TY cA cP) [.ref (ob 0), .int x1, .int x2] (mw cA cP ob ad S) (fun r w => r = res.1 ∧ w = mw cA cP ob ad res.2) :=
  mk_i (cc := b_Md_neighbour) (maxL := 3) (own := R_Md) (by decide) rfl rfl (Nat.le_of_ble_eq_true rfl) (fun p e s m below meth c A Q C0 hret ls hl hP hD hS => w_Md_neighbour_0 C0 hret   x1 x2 S _ _ ls hP hD hS (lv_sub hl [0, 1, 2] rfl) hf)
def f_Md_found_0   (x1 : Int32) (x2 : Int32) (x3 : Int32) (x4 : Int32) (S : St) : Option (Int32 × St) :=
  as_ (inb 0 (gn S 11)) (bn (seta S 11 (upd (ga S 11) (Int32.toNatClampNeg 0) x2)) (fun S_2 => as_ (inb 1 (gn S_2 11)) (bn (seta S_2 11 (upd (ga S_2 11) (Int32.toNatClampNeg 1) x3)) (fun S_4 => as_ (inb 2 (gn S_4 11)) (bn (seta S_4 11 (upd (ga S_4 11) (Int32.toNatClampNeg 2) x4)) (fun S_6 => some (x1, S_6)))))))
set_option maxHeartbeats 4000000 in
set_option maxRecDepth 100000 in
theorem w_Md_found_0 (C0 : CX p s m args c b_Md_found 5 R_Md w_Md_found D clC cA cP A) {res : (Int32 × St)} (hret : RTi p l e rm_Md_found s m args below meth c Q D clC A b_Md_found 0 0 (fun r w => r = res.1 ∧ w = mw cA cP ob ad res.2))    : ∀ (x1 : Int32) (x2 : Int32) (x3 : Int32) (x4 : Int32) (S : St) (H : Heap) (locs : List Loc) (ls : Array Slot), va_P D clC (mw cA cP ob ad S) H → va_D A (mw cA cP ob ad S) → va_S A s.heap H locs → lv_has ls 5 [(0, .ref (ob 0)), (1, .int x1), (2, .int x2), (3, .int x3), (4, .int x4)] → f_Md_found_0   x1 x2 x3 x4 S = some res → W p l e rm_Md_found s m args below meth c H locs 0 0 Q (F0 m 0 ls []) := by
  obtain ⟨hx, hb, hml, hown, hts, hK, hA, hN, hZ⟩ := id C0
  intro x1 x2 x3 x4 S H locs ls hP hD hS hl hf
  rw [f_Md_found_0] at hf
  refine lv_aload_n hx hb d_Md_found_0 rfl (lv_at hl 0 rfl) ?_
  refine va_get (D := D) (ci := 7) (v := .ref (ob 11)) (C := R_Md) (T := F_Md) (N := 26) hx hb hts (fun w h => List.mem_cons_of_mem _ (in_Md w h)) hown hK hP 0 rfl rfl 25 (by decide) (hts _ (List.mem_cons_of_mem _ wd_847)) (fun _ h9 => h9) rfl d_Md_found_1 ?_
  refine lv_iconst (v := 0) hx hb d_Md_found_4 (by decide) ?_
  refine lv_iload_n hx hb d_Md_found_5 rfl (lv_at hl 2 rfl) ?_
  obtain ⟨hi_1, hf⟩ := as_some hf
  obtain ⟨S_2, eS_2, hf⟩ := bn_some hf
  refine va_iast hx hb hK hP hD hS 11 0 rfl rfl (inb_in hi_1) d_Md_found_6 (fun H locs hP hD hS => ?_)
  have hP : va_P D clC (mw cA cP ob ad S_2) H := by rw [eS_2]; exact hP
  have hD : va_D A (mw cA cP ob ad S_2) := by rw [eS_2]; exact hD
  refine lv_aload_n hx hb d_Md_found_7 rfl (lv_at hl 0 rfl) ?_
  refine va_get (D := D) (ci := 7) (v := .ref (ob 11)) (C := R_Md) (T := F_Md) (N := 26) hx hb hts (fun w h => List.mem_cons_of_mem _ (in_Md w h)) hown hK hP 0 rfl rfl 25 (by decide) (hts _ (List.mem_cons_of_mem _ wd_847)) (fun _ h9 => h9) rfl d_Md_found_8 ?_
  refine lv_iconst (v := 1) hx hb d_Md_found_11 (by decide) ?_
  refine lv_iload_n hx hb d_Md_found_12 rfl (lv_at hl 3 rfl) ?_
  obtain ⟨hi_3, hf⟩ := as_some hf
  obtain ⟨S_4, eS_4, hf⟩ := bn_some hf
  refine va_iast hx hb hK hP hD hS 11 0 rfl rfl (inb_in hi_3) d_Md_found_13 (fun H locs hP hD hS => ?_)
  have hP : va_P D clC (mw cA cP ob ad S_4) H := by rw [eS_4]; exact hP
  have hD : va_D A (mw cA cP ob ad S_4) := by rw [eS_4]; exact hD
  refine lv_aload_n hx hb d_Md_found_14 rfl (lv_at hl 0 rfl) ?_
  refine va_get (D := D) (ci := 7) (v := .ref (ob 11)) (C := R_Md) (T := F_Md) (N := 26) hx hb hts (fun w h => List.mem_cons_of_mem _ (in_Md w h)) hown hK hP 0 rfl rfl 25 (by decide) (hts _ (List.mem_cons_of_mem _ wd_847)) (fun _ h9 => h9) rfl d_Md_found_15 ?_
  refine lv_iconst (v := 2) hx hb d_Md_found_18 (by decide) ?_
  refine lv_iload hx hb d_Md_found_19 (lv_at hl 4 rfl) ?_
  obtain ⟨hi_5, hf⟩ := as_some hf
  obtain ⟨S_6, eS_6, hf⟩ := bn_some hf
  refine va_iast hx hb hK hP hD hS 11 0 rfl rfl (inb_in hi_5) d_Md_found_21 (fun H locs hP hD hS => ?_)
  have hP : va_P D clC (mw cA cP ob ad S_6) H := by rw [eS_6]; exact hP
  have hD : va_D A (mw cA cP ob ad S_6) := by rw [eS_6]; exact hD
  refine lv_iload_n hx hb d_Md_found_22 rfl (lv_at hl 1 rfl) ?_
  cases hf
  exact hret _ _ _ _ _ _ ⟨rfl, rfl⟩ hP hD hS d_Md_found_23
def f_Md_found (x1 : Int32) (x2 : Int32) (x3 : Int32) (x4 : Int32) (S : St) : Option (Int32 × St) := f_Md_found_0  x1 x2 x3 x4 S
theorem c_Md_found (l : Launch) (D : va_G) (cA cP : ClassId) (ob : Nat → Nat) (ad : Nat → Nat → Nat) (x1 : Int32) (x2 : Int32) (x3 : Int32) (x4 : Int32)  (S : St) {res : (Int32 × St)} (hf : f_Md_found x1 x2 x3 x4 S = some res) : CTi l y_Md_found w_Md_found rm_Md_found 0 0 D clC (TY cA cP) [.ref (ob 0), .int x1, .int x2, .int x3, .int x4] (mw cA cP ob ad S) (fun r w => r = res.1 ∧ w = mw cA cP ob ad res.2) :=
  mk_i (cc := b_Md_found) (maxL := 5) (own := R_Md) (by decide) rfl rfl (Nat.le_of_ble_eq_true rfl) (fun p e s m below meth c A Q C0 hret ls hl hP hD hS => w_Md_found_0 C0 hret   x1 x2 x3 x4 S _ _ ls hP hD hS (lv_sub hl [0, 1, 2, 3, 4] rfl) hf)
end
