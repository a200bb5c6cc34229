section
variable {p : Program} {l : Launch} {e : Env} {s : State} {m : MethodId} {args : Array Value} {below : List Frame} {meth : Method} {c : Code} {Q : State → Prop} {D : va_G} {cA cP : ClassId} {ob : Nat → Nat} {ad : Nat → Nat → Nat} {A : Nat → Prop}
def f_Md_areNeighbours_131  (k93 : Int32 → Int32 → Int32 → Int32 → St → Option (Int32 × St)) (x1 : Int32) (x2 : Int32) (x4 : Int32) (t0 : Int32) (S : St) : Option (Int32 × St) :=
  bn (x4 + 1) (fun x4_1 => k93 x1 x2 t0 x4_1 S)
set_option maxHeartbeats 4000000 in
set_option maxRecDepth 100000 in
theorem w_Md_areNeighbours_131 (C0 : CX p s m args c b_Md_areNeighbours 5 R_Md w_Md_areNeighbours D clC cA cP A) {res : (Int32 × St)} (hret : RTz p l e rm_Md_areNeighbours s m args below meth c Q D clC A b_Md_areNeighbours 0 0 (fun r w => r = res.1 ∧ w = mw cA cP ob ad res.2))   (k93 : Int32 → Int32 → Int32 → Int32 → St → Option (Int32 × St)) (hk93 : ∀ (x1 : Int32) (x2 : Int32) (x3 : Int32) (x4 : Int32) (S : St) (H : Heap) (locs : List Loc) (ls : Array Slot), va_P D clC (mw cA cP ob ad S) H → va_D A (mw cA cP ob ad S) → va_S A s.heap H locs → lv_has ls 5 [(0, .ref (ob 0)), (1, .int x1), (2, .int x2), (3, .int x3), (4, .int x4)] → k93 x1 x2 x3 x4 S = some res → W p l e rm_Md_areNeighbours s m args below meth c H locs 0 0 Q (F0 m 93 ls [])) : ∀ (x1 : Int32) (x2 : Int32) (x4 : Int32) (t0 : Int32) (S : St) (H : Heap) (locs : List Loc) (ls : Array Slot), va_P D clC (mw cA cP ob ad S) H → va_D A (mw cA cP ob ad S) → va_S A s.heap H locs → lv_has ls 5 [(0, .ref (ob 0)), (1, .int x1), (2, .int x2), (4, .int x4)] → f_Md_areNeighbours_131  k93 x1 x2 x4 t0 S = some res → W p l e rm_Md_areNeighbours s m args below meth c H locs 0 0 Q (F0 m 131 ls [.int t0]) := by
  obtain ⟨hx, hb, hml, hown, hts, hK, hA, hN, hZ⟩ := id C0
  intro x1 x2 x4 t0 S H locs ls hP hD hS hl hf
  rw [f_Md_areNeighbours_131] at hf
  refine lv_istore_n (lv' := [(3, .int t0), (0, .ref (ob 0)), (1, .int x1), (2, .int x2), (4, .int x4)]) hx hb d_Md_areNeighbours_131 rfl hl (by decide) rfl (fun ls hl => ?_)
  obtain ⟨x4_1, ex4_1, hf⟩ := bn_some hf
  refine lv_iinc (v := x4_1) (lv' := [(4, .int x4_1), (3, .int t0), (0, .ref (ob 0)), (1, .int x1), (2, .int x2)]) hx hb d_Md_areNeighbours_132 hl (k := 4) rfl (by rw [ex4_1]; rfl) (by decide) rfl (fun ls hl => ?_)
  refine lv_goto (tgt := 93) hx hb d_Md_areNeighbours_135 (by decide) ?_
  exact hk93 x1 x2 t0 x4_1 S H locs ls hP hD hS (lv_sub hl [2, 3, 4, 1, 0] rfl) hf
def f_Md_areNeighbours_130  (k93 : Int32 → Int32 → Int32 → Int32 → St → Option (Int32 × St)) (x1 : Int32) (x2 : Int32) (x4 : Int32) (S : St) : Option (Int32 × St) :=
  f_Md_areNeighbours_131  k93 x1 x2 x4 0 S
set_option maxHeartbeats 4000000 in
set_option maxRecDepth 100000 in
theorem w_Md_areNeighbours_130 (C0 : CX p s m args c b_Md_areNeighbours 5 R_Md w_Md_areNeighbours D clC cA cP A) {res : (Int32 × St)} (hret : RTz p l e rm_Md_areNeighbours s m args below meth c Q D clC A b_Md_areNeighbours 0 0 (fun r w => r = res.1 ∧ w = mw cA cP ob ad res.2))   (k93 : Int32 → Int32 → Int32 → Int32 → St → Option (Int32 × St)) (hk93 : ∀ (x1 : Int32) (x2 : Int32) (x3 : Int32) (x4 : Int32) (S : St) (H : Heap) (locs : List Loc) (ls : Array Slot), va_P D clC (mw cA cP ob ad S) H → va_D A (mw cA cP ob ad S) → va_S A s.heap H locs → lv_has ls 5 [(0, .ref (ob 0)), (1, .int x1), (2, .int x2), (3, .int x3), (4, .int x4)] → k93 x1 x2 x3 x4 S = some res → W p l e rm_Md_areNeighbours s m args below meth c H locs 0 0 Q (F0 m 93 ls [])) : ∀ (x1 : Int32) (x2 : Int32) (x4 : Int32) (S : St) (H : Heap) (locs : List Loc) (ls : Array Slot), va_P D clC (mw cA cP ob ad S) H → va_D A (mw cA cP ob ad S) → va_S A s.heap H locs → lv_has ls 5 [(0, .ref (ob 0)), (1, .int x1), (2, .int x2), (4, .int x4)] → f_Md_areNeighbours_130  k93 x1 x2 x4 S = some res → W p l e rm_Md_areNeighbours s m args below meth c H locs 0 0 Q (F0 m 130 ls []) := by
  obtain ⟨hx, hb, hml, hown, hts, hK, hA, hN, hZ⟩ := id C0
  intro x1 x2 x4 S H locs ls hP hD hS hl hf
  rw [f_Md_areNeighbours_130] at hf
  refine lv_iconst (v := 0) hx hb d_Md_areNeighbours_130 (by decide) ?_
  exact w_Md_areNeighbours_131 C0 hret   k93 hk93 x1 x2 x4 0 S H locs ls hP hD hS (lv_sub hl [0, 1, 2, 3] rfl) hf
def f_Md_areNeighbours_93   : Nat → Int32 → Int32 → Int32 → Int32 → St → Option (Int32 × St)
  | 0 => fun _ _ _ _ _ => none
  | n + 1 => fun x1 x2 x3 x4 S => (if (gi S 4) ≤ x4 then
      as_ (isb x3) (some (x3, S))
      else
      (if x3 = 0 then
        bd (f_Md_isIn x4 x1 S) (fun q_5 => (if q_5.1 = 0 then
          f_Md_areNeighbours_130  (f_Md_areNeighbours_93  n) x1 x2 x4 q_5.2
          else
          bd (f_Md_isIn x4 x2 q_5.2) (fun q_7 => (if q_7.1 = 0 then
            f_Md_areNeighbours_130  (f_Md_areNeighbours_93  n) x1 x2 x4 q_7.2
            else
            f_Md_areNeighbours_131  (f_Md_areNeighbours_93  n) x1 x2 x4 1 q_7.2))))
        else
        as_ (isb x3) (some (x3, S))))
set_option maxHeartbeats 4000000 in
set_option maxRecDepth 100000 in
theorem w_Md_areNeighbours_93 (C0 : CX p s m args c b_Md_areNeighbours 5 R_Md w_Md_areNeighbours D clC cA cP A) {res : (Int32 × St)} (hret : RTz p l e rm_Md_areNeighbours s m args below meth c Q D clC A b_Md_areNeighbours 0 0 (fun r w => r = res.1 ∧ w = mw cA cP ob ad res.2))    : ∀ (n : Nat) (x1 : Int32) (x2 : Int32) (x3 : Int32) (x4 : Int32) (S : St) (H : Heap) (locs : List Loc) (ls : Array Slot), va_P D clC (mw cA cP ob ad S) H → va_D A (mw cA cP ob ad S) → va_S A s.heap H locs → lv_has ls 5 [(0, .ref (ob 0)), (1, .int x1), (2, .int x2), (3, .int x3), (4, .int x4)] → f_Md_areNeighbours_93   n x1 x2 x3 x4 S = some res → W p l e rm_Md_areNeighbours s m args below meth c H locs 0 0 Q (F0 m 93 ls []) := by
  obtain ⟨hx, hb, hml, hown, hts, hK, hA, hN, hZ⟩ := id C0
  intro n
  induction n with
  | zero =>
    intro x1 x2 x3 x4 S H locs ls hP hD hS hl hf
    cases hf
  | succ n ih =>
    intro x1 x2 x3 x4 S H locs ls hP hD hS hl hf
    rw [f_Md_areNeighbours_93] at hf
    try dsimp only at hf
    refine lv_iload hx hb d_Md_areNeighbours_93 (lv_at hl 4 rfl) ?_
    refine lv_aload_n hx hb d_Md_areNeighbours_95 rfl (lv_at hl 0 rfl) ?_
    refine va_get (D := D) (ci := 7) (v := .int (gi S 4)) (C := R_Md) (T := F_Md) (N := 26) hx hb hts (fun w h => List.mem_cons_of_mem _ (in_Md w h)) hown hK hP 0 rfl rfl 6 (by decide) (hts _ (List.mem_cons_of_mem _ wd_828)) (fun _ h9 => h9) rfl d_Md_areNeighbours_96 ?_
    refine lv_icmp_ge (tgt := 138) hx hb d_Md_areNeighbours_99 (by decide) (fun c_1 => ?_) (fun c_1 => ?_)
    · rw [if_pos c_1] at hf
      refine lv_iload_n hx hb d_Md_areNeighbours_138 rfl (lv_at hl 3 rfl) ?_
      obtain ⟨hb_2, hf⟩ := as_some hf
      cases hf
      exact hret _ _ _ _ _ _ ⟨rfl, rfl⟩ (nb_of hb_2) hP hD hS d_Md_areNeighbours_139
    · rw [if_neg c_1] at hf
      refine lv_iload_n hx hb d_Md_areNeighbours_102 rfl (lv_at hl 3 rfl) ?_
      refine lv_if_ne (tgt := 138) hx hb d_Md_areNeighbours_103 (by decide) (fun c_3 => ?_) (fun c_3 => ?_)
      · rw [if_neg c_3] at hf
        refine lv_iload_n hx hb d_Md_areNeighbours_138 rfl (lv_at hl 3 rfl) ?_
        obtain ⟨hb_4, hf⟩ := as_some hf
        cases hf
        exact hret _ _ _ _ _ _ ⟨rfl, rfl⟩ (nb_of hb_4) hP hD hS d_Md_areNeighbours_139
      · rw [if_pos c_3] at hf
        refine lv_aload_n hx hb d_Md_areNeighbours_106 rfl (lv_at hl 0 rfl) ?_
        refine lv_iload hx hb d_Md_areNeighbours_107 (lv_at hl 4 rfl) ?_
        refine lv_iload_n hx hb d_Md_areNeighbours_109 rfl (lv_at hl 1 rfl) ?_
        obtain ⟨q_5, hq_5, hf⟩ := bd_some hf
        refine kc_i (va_runV (As := [.int x4, .int x1]) (rest := []) ⟨hx, hb, hml, hown, hts⟩ (c_Md_isIn l D cA cP ob ad x4 x1  S hq_5 H.size) ⟨callB_of 2 hts (gd_Md_isIn) rfl rfl rfl (hts _ (List.mem_cons_of_mem _ wd_72)) (hts _ (List.mem_cons_of_mem _ wd_1048)) dd_Md_isIn ⟨Nat.le_of_ble_eq_true rfl, Nat.le_of_ble_eq_true rfl⟩, (hts _ (List.mem_cons_of_mem _ wd_1050)), (hts _ (List.mem_cons_of_mem _ wd_60))⟩ (kpV hK hP hD hN hZ hS 7 0 rfl rfl) rfl rfl hl.1 rfl (lv_room (Nat.le_of_ble_eq_true rfl)) d_Md_areNeighbours_110 ⟨Nat.le_of_ble_eq_true rfl, Nat.le_of_ble_eq_true rfl⟩) hP hD hS hA (fun r w H locs hw hP hD hS => ?_)
        obtain ⟨rfl, rfl⟩ := hw
        refine lv_if_eq (tgt := 130) hx hb d_Md_areNeighbours_113 (by decide) (fun c_6 => ?_) (fun c_6 => ?_)
        · rw [if_pos c_6] at hf
          exact w_Md_areNeighbours_130 C0 hret   (f_Md_areNeighbours_93  n) ih x1 x2 x4 q_5.2 H locs ls hP hD hS (lv_sub hl [0, 1, 2, 4] rfl) hf
        · rw [if_neg c_6] at hf
          refine lv_aload_n hx hb d_Md_areNeighbours_116 rfl (lv_at hl 0 rfl) ?_
          refine lv_iload hx hb d_Md_areNeighbours_117 (lv_at hl 4 rfl) ?_
          refine lv_iload_n hx hb d_Md_areNeighbours_119 rfl (lv_at hl 2 rfl) ?_
          obtain ⟨q_7, hq_7, hf⟩ := bd_some hf
          refine kc_i (va_runV (As := [.int x4, .int x2]) (rest := []) ⟨hx, hb, hml, hown, hts⟩ (c_Md_isIn l D cA cP ob ad x4 x2  q_5.2 hq_7 H.size) ⟨callB_of 2 hts (gd_Md_isIn) rfl rfl rfl (hts _ (List.mem_cons_of_mem _ wd_72)) (hts _ (List.mem_cons_of_mem _ wd_1048)) dd_Md_isIn ⟨Nat.le_of_ble_eq_true rfl, Nat.le_of_ble_eq_true rfl⟩, (hts _ (List.mem_cons_of_mem _ wd_1050)), (hts _ (List.mem_cons_of_mem _ wd_60))⟩ (kpV hK hP hD hN hZ hS 7 0 rfl rfl) rfl rfl hl.1 rfl (lv_room (Nat.le_of_ble_eq_true rfl)) d_Md_areNeighbours_120 ⟨Nat.le_of_ble_eq_true rfl, Nat.le_of_ble_eq_true rfl⟩) hP hD hS hA (fun r w H locs hw hP hD hS => ?_)
          obtain ⟨rfl, rfl⟩ := hw
          refine lv_if_eq (tgt := 130) hx hb d_Md_areNeighbours_123 (by decide) (fun c_8 => ?_) (fun c_8 => ?_)
          · rw [if_pos c_8] at hf
            exact w_Md_areNeighbours_130 C0 hret   (f_Md_areNeighbours_93  n) ih x1 x2 x4 q_7.2 H locs ls hP hD hS (lv_sub hl [0, 1, 2, 4] rfl) hf
          · rw [if_neg c_8] at hf
            refine lv_iconst (v := 1) hx hb d_Md_areNeighbours_126 (by decide) ?_
            refine lv_goto (tgt := 131) hx hb d_Md_areNeighbours_127 (by decide) ?_
            exact w_Md_areNeighbours_131 C0 hret   (f_Md_areNeighbours_93  n) ih x1 x2 x4 1 q_7.2 H locs ls hP hD hS (lv_sub hl [0, 1, 2, 4] rfl) hf
def f_Md_areNeighbours_90   (x1 : Int32) (x2 : Int32) (x3 : Int32) (S : St) : Option (Int32 × St) :=
  f_Md_areNeighbours_93   FU x1 x2 x3 0 S
set_option maxHeartbeats 4000000 in
set_option maxRecDepth 100000 in
theorem w_Md_areNeighbours_90 (C0 : CX p s m args c b_Md_areNeighbours 5 R_Md w_Md_areNeighbours D clC cA cP A) {res : (Int32 × St)} (hret : RTz p l e rm_Md_areNeighbours s m args below meth c Q D clC A b_Md_areNeighbours 0 0 (fun r w => r = res.1 ∧ w = mw cA cP ob ad res.2))    : ∀ (x1 : Int32) (x2 : Int32) (x3 : Int32) (S : St) (H : Heap) (locs : List Loc) (ls : Array Slot), va_P D clC (mw cA cP ob ad S) H → va_D A (mw cA cP ob ad S) → va_S A s.heap H locs → lv_has ls 5 [(0, .ref (ob 0)), (1, .int x1), (2, .int x2), (3, .int x3)] → f_Md_areNeighbours_90   x1 x2 x3 S = some res → W p l e rm_Md_areNeighbours s m args below meth c H locs 0 0 Q (F0 m 90 ls []) := by
  obtain ⟨hx, hb, hml, hown, hts, hK, hA, hN, hZ⟩ := id C0
  intro x1 x2 x3 S H locs ls hP hD hS hl hf
  rw [f_Md_areNeighbours_90] at hf
  refine lv_iconst (v := 0) hx hb d_Md_areNeighbours_90 (by decide) ?_
  refine lv_istore (lv' := [(4, .int 0), (0, .ref (ob 0)), (1, .int x1), (2, .int x2), (3, .int x3)]) hx hb d_Md_areNeighbours_91 hl (by decide) rfl (fun ls hl => ?_)
  exact w_Md_areNeighbours_93 C0 hret    FU x1 x2 x3 0 S H locs ls hP hD hS (lv_sub hl [1, 2, 3, 4, 0] rfl) hf
def f_Md_areNeighbours_83  (k23 : Int32 → Int32 → Int32 → Int32 → St → Option (Int32 × St)) (x1 : Int32) (x2 : Int32) (x4 : Int32) (t0 : Int32) (S : St) : Option (Int32 × St) :=
  bn (x4 + 1) (fun x4_1 => k23 x1 x2 t0 x4_1 S)
set_option maxHeartbeats 4000000 in
set_option maxRecDepth 100000 in
theorem w_Md_areNeighbours_83 (C0 : CX p s m args c b_Md_areNeighbours 5 R_Md w_Md_areNeighbours D clC cA cP A) {res : (Int32 × St)} (hret : RTz p l e rm_Md_areNeighbours s m args below meth c Q D clC A b_Md_areNeighbours 0 0 (fun r w => r = res.1 ∧ w = mw cA cP ob ad res.2))   (k23 : Int32 → Int32 → Int32 → Int32 → St → Option (Int32 × St)) (hk23 : ∀ (x1 : Int32) (x2 : Int32) (x3 : Int32) (x4 : Int32) (S : St) (H : Heap) (locs : List Loc) (ls : Array Slot), va_P D clC (mw cA cP ob ad S) H → va_D A (mw cA cP ob ad S) → va_S A s.heap H locs → lv_has ls 5 [(0, .ref (ob 0)), (1, .int x1), (2, .int x2), (3, .int x3), (4, .int x4)] → k23 x1 x2 x3 x4 S = some res → W p l e rm_Md_areNeighbours s m args below meth c H locs 0 0 Q (F0 m 23 ls [])) : ∀ (x1 : Int32) (x2 : Int32) (x4 : Int32) (t0 : Int32) (S : St) (H : Heap) (locs : List Loc) (ls : Array Slot), va_P D clC (mw cA cP ob ad S) H → va_D A (mw cA cP ob ad S) → va_S A s.heap H locs → lv_has ls 5 [(0, .ref (ob 0)), (1, .int x1), (2, .int x2), (4, .int x4)] → f_Md_areNeighbours_83  k23 x1 x2 x4 t0 S = some res → W p l e rm_Md_areNeighbours s m args below meth c H locs 0 0 Q (F0 m 83 ls [.int t0]) := by
  obtain ⟨hx, hb, hml, hown, hts, hK, hA, hN, hZ⟩ := id C0
  intro x1 x2 x4 t0 S H locs ls hP hD hS hl hf
  rw [f_Md_areNeighbours_83] at hf
  refine lv_istore_n (lv' := [(3, .int t0), (0, .ref (ob 0)), (1, .int x1), (2, .int x2), (4, .int x4)]) hx hb d_Md_areNeighbours_83 rfl hl (by decide) rfl (fun ls hl => ?_)
  obtain ⟨x4_1, ex4_1, hf⟩ := bn_some hf
  refine lv_iinc (v := x4_1) (lv' := [(4, .int x4_1), (3, .int t0), (0, .ref (ob 0)), (1, .int x1), (2, .int x2)]) hx hb d_Md_areNeighbours_84 hl (k := 4) rfl (by rw [ex4_1]; rfl) (by decide) rfl (fun ls hl => ?_)
  refine lv_goto (tgt := 23) hx hb d_Md_areNeighbours_87 (by decide) ?_
  exact hk23 x1 x2 t0 x4_1 S H locs ls hP hD hS (lv_sub hl [2, 3, 4, 1, 0] rfl) hf
def f_Md_areNeighbours_82  (k23 : Int32 → Int32 → Int32 → Int32 → St → Option (Int32 × St)) (x1 : Int32) (x2 : Int32) (x4 : Int32) (S : St) : Option (Int32 × St) :=
  f_Md_areNeighbours_83  k23 x1 x2 x4 0 S
set_option maxHeartbeats 4000000 in
set_option maxRecDepth 100000 in
theorem w_Md_areNeighbours_82 (C0 : CX p s m args c b_Md_areNeighbours 5 R_Md w_Md_areNeighbours D clC cA cP A) {res : (Int32 × St)} (hret : RTz p l e rm_Md_areNeighbours s m args below meth c Q D clC A b_Md_areNeighbours 0 0 (fun r w => r = res.1 ∧ w = mw cA cP ob ad res.2))   (k23 : Int32 → Int32 → Int32 → Int32 → St → Option (Int32 × St)) (hk23 : ∀ (x1 : Int32) (x2 : Int32) (x3 : Int32) (x4 : Int32) (S : St) (H : Heap) (locs : List Loc) (ls : Array Slot), va_P D clC (mw cA cP ob ad S) H → va_D A (mw cA cP ob ad S) → va_S A s.heap H locs → lv_has ls 5 [(0, .ref (ob 0)), (1, .int x1), (2, .int x2), (3, .int x3), (4, .int x4)] → k23 x1 x2 x3 x4 S = some res → W p l e rm_Md_areNeighbours s m args below meth c H locs 0 0 Q (F0 m 23 ls [])) : ∀ (x1 : Int32) (x2 : Int32) (x4 : Int32) (S : St) (H : Heap) (locs : List Loc) (ls : Array Slot), va_P D clC (mw cA cP ob ad S) H → va_D A (mw cA cP ob ad S) → va_S A s.heap H locs → lv_has ls 5 [(0, .ref (ob 0)), (1, .int x1), (2, .int x2), (4, .int x4)] → f_Md_areNeighbours_82  k23 x1 x2 x4 S = some res → W p l e rm_Md_areNeighbours s m args below meth c H locs 0 0 Q (F0 m 82 ls []) := by
  obtain ⟨hx, hb, hml, hown, hts, hK, hA, hN, hZ⟩ := id C0
  intro x1 x2 x4 S H locs ls hP hD hS hl hf
  rw [f_Md_areNeighbours_82] at hf
  refine lv_iconst (v := 0) hx hb d_Md_areNeighbours_82 (by decide) ?_
  exact w_Md_areNeighbours_83 C0 hret   k23 hk23 x1 x2 x4 0 S H locs ls hP hD hS (lv_sub hl [0, 1, 2, 3] rfl) hf
def f_Md_areNeighbours_78  (k23 : Int32 → Int32 → Int32 → Int32 → St → Option (Int32 × St)) (x1 : Int32) (x2 : Int32) (x4 : Int32) (S : St) : Option (Int32 × St) :=
  f_Md_areNeighbours_83  k23 x1 x2 x4 1 S
set_option maxHeartbeats 4000000 in
set_option maxRecDepth 100000 in
theorem w_Md_areNeighbours_78 (C0 : CX p s m args c b_Md_areNeighbours 5 R_Md w_Md_areNeighbours D clC cA cP A) {res : (Int32 × St)} (hret : RTz p l e rm_Md_areNeighbours s m args below meth c Q D clC A b_Md_areNeighbours 0 0 (fun r w => r = res.1 ∧ w = mw cA cP ob ad res.2))   (k23 : Int32 → Int32 → Int32 → Int32 → St → Option (Int32 × St)) (hk23 : ∀ (x1 : Int32) (x2 : Int32) (x3 : Int32) (x4 : Int32) (S : St) (H : Heap) (locs : List Loc) (ls : Array Slot), va_P D clC (mw cA cP ob ad S) H → va_D A (mw cA cP ob ad S) → va_S A s.heap H locs → lv_has ls 5 [(0, .ref (ob 0)), (1, .int x1), (2, .int x2), (3, .int x3), (4, .int x4)] → k23 x1 x2 x3 x4 S = some res → W p l e rm_Md_areNeighbours s m args below meth c H locs 0 0 Q (F0 m 23 ls [])) : ∀ (x1 : Int32) (x2 : Int32) (x4 : Int32) (S : St) (H : Heap) (locs : List Loc) (ls : Array Slot), va_P D clC (mw cA cP ob ad S) H → va_D A (mw cA cP ob ad S) → va_S A s.heap H locs → lv_has ls 5 [(0, .ref (ob 0)), (1, .int x1), (2, .int x2), (4, .int x4)] → f_Md_areNeighbours_78  k23 x1 x2 x4 S = some res → W p l e rm_Md_areNeighbours s m args below meth c H locs 0 0 Q (F0 m 78 ls []) := by
  obtain ⟨hx, hb, hml, hown, hts, hK, hA, hN, hZ⟩ := id C0
  intro x1 x2 x4 S H locs ls hP hD hS hl hf
  rw [f_Md_areNeighbours_78] at hf
  refine lv_iconst (v := 1) hx hb d_Md_areNeighbours_78 (by decide) ?_
  refine lv_goto (tgt := 83) hx hb d_Md_areNeighbours_79 (by decide) ?_
  exact w_Md_areNeighbours_83 C0 hret   k23 hk23 x1 x2 x4 1 S H locs ls hP hD hS (lv_sub hl [0, 1, 2, 3] rfl) hf
def f_Md_areNeighbours_23   : Nat → Int32 → Int32 → Int32 → Int32 → St → Option (Int32 × St)
  | 0 => fun _ _ _ _ _ => none
  | n + 1 => fun x1 x2 x3 x4 S => (if (gi S 2) ≤ x4 then
      f_Md_areNeighbours_90   x1 x2 x3 S
      else
      (if (gi S 4) = 0 then
        (if x3 = 0 then
          f_Md_areNeighbours_82  (f_Md_areNeighbours_23  n) x1 x2 x4 S
          else
          (if x4 = x1 then
            f_Md_areNeighbours_78  (f_Md_areNeighbours_23  n) x1 x2 x4 S
            else
            (if x4 = x2 then
              f_Md_areNeighbours_78  (f_Md_areNeighbours_23  n) x1 x2 x4 S
              else
              as_ (inb x4 (gn S 1)) (as_ (inb x4 (gn S 2)) (bd (f_Md_isOn (ga S 1 (Int32.toNatClampNeg x4)) (ga S 2 (Int32.toNatClampNeg x4)) x1 x2 S) (fun q_8 => (if q_8.1 = 0 then
                f_Md_areNeighbours_78  (f_Md_areNeighbours_23  n) x1 x2 x4 q_8.2
                else
                f_Md_areNeighbours_82  (f_Md_areNeighbours_23  n) x1 x2 x4 q_8.2)))))))
        else
        f_Md_areNeighbours_90   x1 x2 x3 S))
set_option maxHeartbeats 4000000 in
set_option maxRecDepth 100000 in
theorem w_Md_areNeighbours_23 (C0 : CX p s m args c b_Md_areNeighbours 5 R_Md w_Md_areNeighbours D clC cA cP A) {res : (Int32 × St)} (hret : RTz p l e rm_Md_areNeighbours s m args below meth c Q D clC A b_Md_areNeighbours 0 0 (fun r w => r = res.1 ∧ w = mw cA cP ob ad res.2))    : ∀ (n : Nat) (x1 : Int32) (x2 : Int32) (x3 : Int32) (x4 : Int32) (S : St) (H : Heap) (locs : List Loc) (ls : Array Slot), va_P D clC (mw cA cP ob ad S) H → va_D A (mw cA cP ob ad S) → va_S A s.heap H locs → lv_has ls 5 [(0, .ref (ob 0)), (1, .int x1), (2, .int x2), (3, .int x3), (4, .int x4)] → f_Md_areNeighbours_23   n x1 x2 x3 x4 S = some res → W p l e rm_Md_areNeighbours s m args below meth c H locs 0 0 Q (F0 m 23 ls []) := by
  obtain ⟨hx, hb, hml, hown, hts, hK, hA, hN, hZ⟩ := id C0
  intro n
  induction n with
  | zero =>
    intro x1 x2 x3 x4 S H locs ls hP hD hS hl hf
    cases hf
  | succ n ih =>
    intro x1 x2 x3 x4 S H locs ls hP hD hS hl hf
    rw [f_Md_areNeighbours_23] at hf
    try dsimp only at hf
    refine lv_iload hx hb d_Md_areNeighbours_23 (lv_at hl 4 rfl) ?_
    refine lv_aload_n hx hb d_Md_areNeighbours_25 rfl (lv_at hl 0 rfl) ?_
    refine va_get (D := D) (ci := 7) (v := .int (gi S 2)) (C := R_Md) (T := F_Md) (N := 26) hx hb hts (fun w h => List.mem_cons_of_mem _ (in_Md w h)) hown hK hP 0 rfl rfl 2 (by decide) (hts _ (List.mem_cons_of_mem _ wd_824)) (fun _ h9 => h9) rfl d_Md_areNeighbours_26 ?_
    refine lv_icmp_ge (tgt := 90) hx hb d_Md_areNeighbours_29 (by decide) (fun c_1 => ?_) (fun c_1 => ?_)
    · rw [if_pos c_1] at hf
      exact w_Md_areNeighbours_90 C0 hret    x1 x2 x3 S H locs ls hP hD hS (lv_sub hl [0, 1, 2, 3] rfl) hf
    · rw [if_neg c_1] at hf
      refine lv_aload_n hx hb d_Md_areNeighbours_32 rfl (lv_at hl 0 rfl) ?_
      refine va_get (D := D) (ci := 7) (v := .int (gi S 4)) (C := R_Md) (T := F_Md) (N := 26) hx hb hts (fun w h => List.mem_cons_of_mem _ (in_Md w h)) hown hK hP 0 rfl rfl 6 (by decide) (hts _ (List.mem_cons_of_mem _ wd_828)) (fun _ h9 => h9) rfl d_Md_areNeighbours_33 ?_
      refine lv_if_ne (tgt := 90) hx hb d_Md_areNeighbours_36 (by decide) (fun c_2 => ?_) (fun c_2 => ?_)
      · rw [if_neg c_2] at hf
        exact w_Md_areNeighbours_90 C0 hret    x1 x2 x3 S H locs ls hP hD hS (lv_sub hl [0, 1, 2, 3] rfl) hf
      · rw [if_pos c_2] at hf
        refine lv_iload_n hx hb d_Md_areNeighbours_39 rfl (lv_at hl 3 rfl) ?_
        refine lv_if_eq (tgt := 82) hx hb d_Md_areNeighbours_40 (by decide) (fun c_3 => ?_) (fun c_3 => ?_)
        · rw [if_pos c_3] at hf
          exact w_Md_areNeighbours_82 C0 hret   (f_Md_areNeighbours_23  n) ih x1 x2 x4 S H locs ls hP hD hS (lv_sub hl [0, 1, 2, 4] rfl) hf
        · rw [if_neg c_3] at hf
          refine lv_iload hx hb d_Md_areNeighbours_43 (lv_at hl 4 rfl) ?_
          refine lv_iload_n hx hb d_Md_areNeighbours_45 rfl (lv_at hl 1 rfl) ?_
          refine lv_icmp_eq (tgt := 78) hx hb d_Md_areNeighbours_46 (by decide) (fun c_4 => ?_) (fun c_4 => ?_)
          · rw [if_pos c_4] at hf
            exact w_Md_areNeighbours_78 C0 hret   (f_Md_areNeighbours_23  n) ih x1 x2 x4 S H locs ls hP hD hS (lv_sub hl [0, 1, 2, 4] rfl) hf
          · rw [if_neg c_4] at hf
            refine lv_iload hx hb d_Md_areNeighbours_49 (lv_at hl 4 rfl) ?_
            refine lv_iload_n hx hb d_Md_areNeighbours_51 rfl (lv_at hl 2 rfl) ?_
            refine lv_icmp_eq (tgt := 78) hx hb d_Md_areNeighbours_52 (by decide) (fun c_5 => ?_) (fun c_5 => ?_)
            · rw [if_pos c_5] at hf
              exact w_Md_areNeighbours_78 C0 hret   (f_Md_areNeighbours_23  n) ih x1 x2 x4 S H locs ls hP hD hS (lv_sub hl [0, 1, 2, 4] rfl) hf
            · rw [if_neg c_5] at hf
              refine lv_aload_n hx hb d_Md_areNeighbours_55 rfl (lv_at hl 0 rfl) ?_
              refine lv_aload_n hx hb d_Md_areNeighbours_56 rfl (lv_at hl 0 rfl) ?_
              refine va_get (D := D) (ci := 7) (v := .ref (ob 1)) (C := R_Md) (T := F_Md) (N := 26) hx hb hts (fun w h => List.mem_cons_of_mem _ (in_Md w h)) hown hK hP 0 rfl rfl 3 (by decide) (hts _ (List.mem_cons_of_mem _ wd_825)) (fun _ h9 => h9) rfl d_Md_areNeighbours_57 ?_
              refine lv_iload hx hb d_Md_areNeighbours_60 (lv_at hl 4 rfl) ?_
              obtain ⟨hi_6, hf⟩ := as_some hf
              refine va_iald hx hb hK hP 1 0 rfl rfl (inb_in hi_6) d_Md_areNeighbours_62 ?_
              refine lv_aload_n hx hb d_Md_areNeighbours_63 rfl (lv_at hl 0 rfl) ?_
              refine va_get (D := D) (ci := 7) (v := .ref (ob 2)) (C := R_Md) (T := F_Md) (N := 26) hx hb hts (fun w h => List.mem_cons_of_mem _ (in_Md w h)) hown hK hP 0 rfl rfl 4 (by decide) (hts _ (List.mem_cons_of_mem _ wd_826)) (fun _ h9 => h9) rfl d_Md_areNeighbours_64 ?_
              refine lv_iload hx hb d_Md_areNeighbours_67 (lv_at hl 4 rfl) ?_
              obtain ⟨hi_7, hf⟩ := as_some hf
              refine va_iald hx hb hK hP 2 0 rfl rfl (inb_in hi_7) d_Md_areNeighbours_69 ?_
              refine lv_iload_n hx hb d_Md_areNeighbours_70 rfl (lv_at hl 1 rfl) ?_
              refine lv_iload_n hx hb d_Md_areNeighbours_71 rfl (lv_at hl 2 rfl) ?_
              obtain ⟨q_8, hq_8, hf⟩ := bd_some hf
              refine kc_i (va_runV (As := [.int (ga S 1 (Int32.toNatClampNeg x4)), .int (ga S 2 (Int32.toNatClampNeg x4)), .int x1, .int x2]) (rest := []) ⟨hx, hb, hml, hown, hts⟩ (c_Md_isOn l D cA cP ob ad (ga S 1 (Int32.toNatClampNeg x4)) (ga S 2 (Int32.toNatClampNeg x4)) x1 x2  S hq_8 H.size) ⟨callB_of 4 hts (gd_Md_isOn) rfl rfl rfl (hts _ (List.mem_cons_of_mem _ wd_72)) (hts _ (List.mem_cons_of_mem _ wd_1044)) dd_Md_isOn ⟨Nat.le_of_ble_eq_true rfl, Nat.le_of_ble_eq_true rfl⟩, (hts _ (List.mem_cons_of_mem _ wd_1046)), (hts _ (List.mem_cons_of_mem _ wd_59))⟩ (kpV hK hP hD hN hZ hS 7 0 rfl rfl) rfl rfl hl.1 rfl (lv_room (Nat.le_of_ble_eq_true rfl)) d_Md_areNeighbours_72 ⟨Nat.le_of_ble_eq_true rfl, Nat.le_of_ble_eq_true rfl⟩) hP hD hS hA (fun r w H locs hw hP hD hS => ?_)
              obtain ⟨rfl, rfl⟩ := hw
              refine lv_if_ne (tgt := 82) hx hb d_Md_areNeighbours_75 (by decide) (fun c_9 => ?_) (fun c_9 => ?_)
              · rw [if_neg c_9] at hf
                exact w_Md_areNeighbours_82 C0 hret   (f_Md_areNeighbours_23  n) ih x1 x2 x4 q_8.2 H locs ls hP hD hS (lv_sub hl [0, 1, 2, 4] rfl) hf
              · rw [if_pos c_9] at hf
                exact w_Md_areNeighbours_78 C0 hret   (f_Md_areNeighbours_23  n) ih x1 x2 x4 q_8.2 H locs ls hP hD hS (lv_sub hl [0, 1, 2, 4] rfl) hf
def f_Md_areNeighbours_19   (x1 : Int32) (x2 : Int32) (t0 : Int32) (S : St) : Option (Int32 × St) :=
  f_Md_areNeighbours_23   FU x1 x2 t0 0 S
set_option maxHeartbeats 4000000 in
set_option maxRecDepth 100000 in
theorem w_Md_areNeighbours_19 (C0 : CX p s m args c b_Md_areNeighbours 5 R_Md w_Md_areNeighbours D clC cA cP A) {res : (Int32 × St)} (hret : RTz p l e rm_Md_areNeighbours s m args below meth c Q D clC A b_Md_areNeighbours 0 0 (fun r w => r = res.1 ∧ w = mw cA cP ob ad res.2))    : ∀ (x1 : Int32) (x2 : Int32) (t0 : Int32) (S : St) (H : Heap) (locs : List Loc) (ls : Array Slot), va_P D clC (mw cA cP ob ad S) H → va_D A (mw cA cP ob ad S) → va_S A s.heap H locs → lv_has ls 5 [(0, .ref (ob 0)), (1, .int x1), (2, .int x2)] → f_Md_areNeighbours_19   x1 x2 t0 S = some res → W p l e rm_Md_areNeighbours s m args below meth c H locs 0 0 Q (F0 m 19 ls [.int t0]) := by
  obtain ⟨hx, hb, hml, hown, hts, hK, hA, hN, hZ⟩ := id C0
  intro x1 x2 t0 S H locs ls hP hD hS hl hf
  rw [f_Md_areNeighbours_19] at hf
  refine lv_istore_n (lv' := [(3, .int t0), (0, .ref (ob 0)), (1, .int x1), (2, .int x2)]) hx hb d_Md_areNeighbours_19 rfl hl (by decide) rfl (fun ls hl => ?_)
  refine lv_iconst (v := 0) hx hb d_Md_areNeighbours_20 (by decide) ?_
  refine lv_istore (lv' := [(4, .int 0), (3, .int t0), (0, .ref (ob 0)), (1, .int x1), (2, .int x2)]) hx hb d_Md_areNeighbours_21 hl (by decide) rfl (fun ls hl => ?_)
  exact w_Md_areNeighbours_23 C0 hret    FU x1 x2 t0 0 S H locs ls hP hD hS (lv_sub hl [2, 3, 4, 1, 0] rfl) hf
def f_Md_areNeighbours_0   (x1 : Int32) (x2 : Int32) (S : St) : Option (Int32 × St) :=
  (if x1 = x2 then
    some (0, S)
    else
    (if (gi S 4) = 0 then
      f_Md_areNeighbours_19   x1 x2 1 S
      else
      f_Md_areNeighbours_19   x1 x2 0 S))
set_option maxHeartbeats 4000000 in
set_option maxRecDepth 100000 in
theorem w_Md_areNeighbours_0 (C0 : CX p s m args c b_Md_areNeighbours 5 R_Md w_Md_areNeighbours D clC cA cP A) {res : (Int32 × St)} (hret : RTz p l e rm_Md_areNeighbours s m args below meth c Q D clC A b_Md_areNeighbours 0 0 (fun r w => r = res.1 ∧ w = mw cA cP ob ad res.2))    : ∀ (x1 : Int32) (x2 : Int32) (S : St) (H : Heap) (locs : List Loc) (ls : Array Slot), va_P D clC (mw cA cP ob ad S) H → va_D A (mw cA cP ob ad S) → va_S A s.heap H locs → lv_has ls 5 [(0, .ref (ob 0)), (1, .int x1), (2, .int x2)] → f_Md_areNeighbours_0   x1 x2 S = some res → W p l e rm_Md_areNeighbours s m args below meth c H locs 0 0 Q (F0 m 0 ls []) := by
  obtain ⟨hx, hb, hml, hown, hts, hK, hA, hN, hZ⟩ := id C0
  intro x1 x2 S H locs ls hP hD hS hl hf
  rw [f_Md_areNeighbours_0] at hf
  refine lv_iload_n hx hb d_Md_areNeighbours_0 rfl (lv_at hl 1 rfl) ?_
  refine lv_iload_n hx hb d_Md_areNeighbours_1 rfl (lv_at hl 2 rfl) ?_
  refine lv_icmp_ne (tgt := 7) hx hb d_Md_areNeighbours_2 (by decide) (fun c_1 => ?_) (fun c_1 => ?_)
  · rw [if_neg c_1] at hf
    refine lv_aload_n hx hb d_Md_areNeighbours_7 rfl (lv_at hl 0 rfl) ?_
    refine va_get (D := D) (ci := 7) (v := .int (gi S 4)) (C := R_Md) (T := F_Md) (N := 26) hx hb hts (fun w h => List.mem_cons_of_mem _ (in_Md w h)) hown hK hP 0 rfl rfl 6 (by decide) (hts _ (List.mem_cons_of_mem _ wd_828)) (fun _ h9 => h9) rfl d_Md_areNeighbours_8 ?_
    refine lv_if_ne (tgt := 18) hx hb d_Md_areNeighbours_11 (by decide) (fun c_2 => ?_) (fun c_2 => ?_)
    · rw [if_neg c_2] at hf
      refine lv_iconst (v := 0) hx hb d_Md_areNeighbours_18 (by decide) ?_
      exact w_Md_areNeighbours_19 C0 hret    x1 x2 0 S H locs ls hP hD hS (lv_sub hl [0, 1, 2] rfl) hf
    · rw [if_pos c_2] at hf
      refine lv_iconst (v := 1) hx hb d_Md_areNeighbours_14 (by decide) ?_
      refine lv_goto (tgt := 19) hx hb d_Md_areNeighbours_15 (by decide) ?_
      exact w_Md_areNeighbours_19 C0 hret    x1 x2 1 S H locs ls hP hD hS (lv_sub hl [0, 1, 2] rfl) hf
  · rw [if_pos c_1] at hf
    refine lv_iconst (v := 0) hx hb d_Md_areNeighbours_5 (by decide) ?_
    cases hf
    exact hret _ _ _ _ _ _ ⟨rfl, rfl⟩ rfl hP hD hS d_Md_areNeighbours_6
def f_Md_areNeighbours (x1 : Int32) (x2 : Int32) (S : St) : Option (Int32 × St) := f_Md_areNeighbours_0  x1 x2 S
theorem c_Md_areNeighbours (l : Launch) (D : va_G) (cA cP : ClassId) (ob : Nat → Nat) (ad : Nat → Nat → Nat) (x1 : Int32) (x2 : Int32)  (S : St) {res : (Int32 × St)} (hf : f_Md_areNeighbours x1 x2 S = some res) : CTi l y_Md_areNeighbours w_Md_areNeighbours rm_Md_areNeighbours 0 0 D clC (TY cA cP) [.ref (ob 0), .int x1, .int x2] (mw cA cP ob ad S) (fun r w => r = res.1 ∧ w = mw cA cP ob ad res.2) :=
  mk_z (cc := b_Md_areNeighbours) (maxL := 5) (own := R_Md) (by decide) rfl rfl (Nat.le_of_ble_eq_true rfl) (fun p e s m below meth c A Q C0 hret ls hl hP hD hS => w_Md_areNeighbours_0 C0 hret   x1 x2 S _ _ ls hP hD hS (lv_sub hl [0, 1, 2] rfl) hf)
def f_Md_isSooner_0   (x1 : Int32) (x2 : Int32) (x3 : Int32) (x4 : Int32) (S : St) : Option (Int32 × St) :=
  as_ (inb x2 (gn S 1)) (as_ (inb x1 (gn S 1)) (bn ((Int32.toInt64 (ga S 1 (Int32.toNatClampNeg x2))) - (Int32.toInt64 (ga S 1 (Int32.toNatClampNeg x1)))) (fun x5_3 => as_ (inb x2 (gn S 2)) (as_ (inb x1 (gn S 2)) (bn ((Int32.toInt64 (ga S 2 (Int32.toNatClampNeg x2))) - (Int32.toInt64 (ga S 2 (Int32.toNatClampNeg x1)))) (fun x7_6 => as_ (inb x3 (gn S 1)) (as_ (inb x1 (gn S 1)) (bn ((Int32.toInt64 (ga S 1 (Int32.toNatClampNeg x3))) - (Int32.toInt64 (ga S 1 (Int32.toNatClampNeg x1)))) (fun x9_9 => as_ (inb x3 (gn S 2)) (as_ (inb x1 (gn S 2)) (bn ((Int32.toInt64 (ga S 2 (Int32.toNatClampNeg x3))) - (Int32.toInt64 (ga S 2 (Int32.toNatClampNeg x1)))) (fun x11_12 => as_ (inb x4 (gn S 1)) (as_ (inb x1 (gn S 1)) (bn ((Int32.toInt64 (ga S 1 (Int32.toNatClampNeg x4))) - (Int32.toInt64 (ga S 1 (Int32.toNatClampNeg x1)))) (fun x13_15 => as_ (inb x4 (gn S 2)) (as_ (inb x1 (gn S 2)) (bn ((Int32.toInt64 (ga S 2 (Int32.toNatClampNeg x4))) - (Int32.toInt64 (ga S 2 (Int32.toNatClampNeg x1)))) (fun x15_18 => bd (f_Md_cross x5_3 x7_6 x9_9 x11_12 S) (fun q_19 => bd (f_Md_sign q_19.1 q_19.2) (fun q_20 => bd (f_Md_cross x5_3 x7_6 x13_15 x15_18 q_20.2) (fun q_21 => bd (f_Md_sign q_21.1 q_21.2) (fun q_22 => (if q_20.1 = q_22.1 then
    bd (f_Md_cross x9_9 x11_12 x13_15 x15_18 q_22.2) (fun q_24 => (if (lg_cmp q_24.1 0) ≤ 0 then
      some (0, q_24.2)
      else
      some (1, q_24.2)))
    else
    (if q_20.1 ≤ q_22.1 then
      some (0, q_22.2)
      else
      some (1, q_22.2)))))))))))))))))))))))))
set_option maxHeartbeats 4000000 in
set_option maxRecDepth 100000 in
theorem w_Md_isSooner_0 (C0 : CX p s m args c b_Md_isSooner 19 R_Md w_Md_isSooner D clC cA cP A) {res : (Int32 × St)} (hret : RTz p l e rm_Md_isSooner s m args below meth c Q D clC A b_Md_isSooner 0 0 (fun r w => r = res.1 ∧ w = mw cA cP ob ad res.2))    : ∀ (x1 : Int32) (x2 : Int32) (x3 : Int32) (x4 : Int32) (S : St) (H : Heap) (locs : List Loc) (ls : Array Slot), va_P D clC (mw cA cP ob ad S) H → va_D A (mw cA cP ob ad S) → va_S A s.heap H locs → lv_has ls 19 [(0, .ref (ob 0)), (1, .int x1), (2, .int x2), (3, .int x3), (4, .int x4)] → f_Md_isSooner_0   x1 x2 x3 x4 S = some res → W p l e rm_Md_isSooner s m args below meth c H locs 0 0 Q (F0 m 0 ls []) := by
  obtain ⟨hx, hb, hml, hown, hts, hK, hA, hN, hZ⟩ := id C0
  intro x1 x2 x3 x4 S H locs ls hP hD hS hl hf
  rw [f_Md_isSooner_0] at hf
  refine lv_aload_n hx hb d_Md_isSooner_0 rfl (lv_at hl 0 rfl) ?_
  refine va_get (D := D) (ci := 7) (v := .ref (ob 1)) (C := R_Md) (T := F_Md) (N := 26) hx hb hts (fun w h => List.mem_cons_of_mem _ (in_Md w h)) hown hK hP 0 rfl rfl 3 (by decide) (hts _ (List.mem_cons_of_mem _ wd_825)) (fun _ h9 => h9) rfl d_Md_isSooner_1 ?_
  refine lv_iload_n hx hb d_Md_isSooner_4 rfl (lv_at hl 2 rfl) ?_
  obtain ⟨hi_1, hf⟩ := as_some hf
  refine va_iald hx hb hK hP 1 0 rfl rfl (inb_in hi_1) d_Md_isSooner_5 ?_
  refine lv_i2l (v := (Int32.toInt64 (ga S 1 (Int32.toNatClampNeg x2)))) hx hb d_Md_isSooner_6 rfl ?_
  refine lv_aload_n hx hb d_Md_isSooner_7 rfl (lv_at hl 0 rfl) ?_
  refine va_get (D := D) (ci := 7) (v := .ref (ob 1)) (C := R_Md) (T := F_Md) (N := 26) hx hb hts (fun w h => List.mem_cons_of_mem _ (in_Md w h)) hown hK hP 0 rfl rfl 3 (by decide) (hts _ (List.mem_cons_of_mem _ wd_825)) (fun _ h9 => h9) rfl d_Md_isSooner_8 ?_
  refine lv_iload_n hx hb d_Md_isSooner_11 rfl (lv_at hl 1 rfl) ?_
  obtain ⟨hi_2, hf⟩ := as_some hf
  refine va_iald hx hb hK hP 1 0 rfl rfl (inb_in hi_2) d_Md_isSooner_12 ?_
  refine lv_i2l (v := (Int32.toInt64 (ga S 1 (Int32.toNatClampNeg x1)))) hx hb d_Md_isSooner_13 rfl ?_
  refine lv_lsub hx hb d_Md_isSooner_14 ?_
  obtain ⟨x5_3, ex5_3, hf⟩ := bn_some hf
  refine tpl ex5_3 ?_
  refine lv_lstore (lv' := [(5, .long x5_3), (0, .ref (ob 0)), (1, .int x1), (2, .int x2), (3, .int x3), (4, .int x4)]) hx hb d_Md_isSooner_15 hl (by decide) rfl (fun ls hl => ?_)
  refine lv_aload_n hx hb d_Md_isSooner_17 rfl (lv_at hl 1 rfl) ?_
  refine va_get (D := D) (ci := 7) (v := .ref (ob 2)) (C := R_Md) (T := F_Md) (N := 26) hx hb hts (fun w h => List.mem_cons_of_mem _ (in_Md w h)) hown hK hP 0 rfl rfl 4 (by decide) (hts _ (List.mem_cons_of_mem _ wd_826)) (fun _ h9 => h9) rfl d_Md_isSooner_18 ?_
  refine lv_iload_n hx hb d_Md_isSooner_21 rfl (lv_at hl 3 rfl) ?_
  obtain ⟨hi_4, hf⟩ := as_some hf
  refine va_iald hx hb hK hP 2 0 rfl rfl (inb_in hi_4) d_Md_isSooner_22 ?_
  refine lv_i2l (v := (Int32.toInt64 (ga S 2 (Int32.toNatClampNeg x2)))) hx hb d_Md_isSooner_23 rfl ?_
  refine lv_aload_n hx hb d_Md_isSooner_24 rfl (lv_at hl 1 rfl) ?_
  refine va_get (D := D) (ci := 7) (v := .ref (ob 2)) (C := R_Md) (T := F_Md) (N := 26) hx hb hts (fun w h => List.mem_cons_of_mem _ (in_Md w h)) hown hK hP 0 rfl rfl 4 (by decide) (hts _ (List.mem_cons_of_mem _ wd_826)) (fun _ h9 => h9) rfl d_Md_isSooner_25 ?_
  refine lv_iload_n hx hb d_Md_isSooner_28 rfl (lv_at hl 2 rfl) ?_
  obtain ⟨hi_5, hf⟩ := as_some hf
  refine va_iald hx hb hK hP 2 0 rfl rfl (inb_in hi_5) d_Md_isSooner_29 ?_
  refine lv_i2l (v := (Int32.toInt64 (ga S 2 (Int32.toNatClampNeg x1)))) hx hb d_Md_isSooner_30 rfl ?_
  refine lv_lsub hx hb d_Md_isSooner_31 ?_
  obtain ⟨x7_6, ex7_6, hf⟩ := bn_some hf
  refine tpl ex7_6 ?_
  refine lv_lstore (lv' := [(7, .long x7_6), (5, .long x5_3), (0, .ref (ob 0)), (1, .int x1), (2, .int x2), (3, .int x3), (4, .int x4)]) hx hb d_Md_isSooner_32 hl (by decide) rfl (fun ls hl => ?_)
  refine lv_aload_n hx hb d_Md_isSooner_34 rfl (lv_at hl 2 rfl) ?_
  refine va_get (D := D) (ci := 7) (v := .ref (ob 1)) (C := R_Md) (T := F_Md) (N := 26) hx hb hts (fun w h => List.mem_cons_of_mem _ (in_Md w h)) hown hK hP 0 rfl rfl 3 (by decide) (hts _ (List.mem_cons_of_mem _ wd_825)) (fun _ h9 => h9) rfl d_Md_isSooner_35 ?_
  refine lv_iload_n hx hb d_Md_isSooner_38 rfl (lv_at hl 5 rfl) ?_
  obtain ⟨hi_7, hf⟩ := as_some hf
  refine va_iald hx hb hK hP 1 0 rfl rfl (inb_in hi_7) d_Md_isSooner_39 ?_
  refine lv_i2l (v := (Int32.toInt64 (ga S 1 (Int32.toNatClampNeg x3)))) hx hb d_Md_isSooner_40 rfl ?_
  refine lv_aload_n hx hb d_Md_isSooner_41 rfl (lv_at hl 2 rfl) ?_
  refine va_get (D := D) (ci := 7) (v := .ref (ob 1)) (C := R_Md) (T := F_Md) (N := 26) hx hb hts (fun w h => List.mem_cons_of_mem _ (in_Md w h)) hown hK hP 0 rfl rfl 3 (by decide) (hts _ (List.mem_cons_of_mem _ wd_825)) (fun _ h9 => h9) rfl d_Md_isSooner_42 ?_
  refine lv_iload_n hx hb d_Md_isSooner_45 rfl (lv_at hl 3 rfl) ?_
  obtain ⟨hi_8, hf⟩ := as_some hf
  refine va_iald hx hb hK hP 1 0 rfl rfl (inb_in hi_8) d_Md_isSooner_46 ?_
  refine lv_i2l (v := (Int32.toInt64 (ga S 1 (Int32.toNatClampNeg x1)))) hx hb d_Md_isSooner_47 rfl ?_
  refine lv_lsub hx hb d_Md_isSooner_48 ?_
  obtain ⟨x9_9, ex9_9, hf⟩ := bn_some hf
  refine tpl ex9_9 ?_
  refine lv_lstore (lv' := [(9, .long x9_9), (7, .long x7_6), (5, .long x5_3), (0, .ref (ob 0)), (1, .int x1), (2, .int x2), (3, .int x3), (4, .int x4)]) hx hb d_Md_isSooner_49 hl (by decide) rfl (fun ls hl => ?_)
  refine lv_aload_n hx hb d_Md_isSooner_51 rfl (lv_at hl 3 rfl) ?_
  refine va_get (D := D) (ci := 7) (v := .ref (ob 2)) (C := R_Md) (T := F_Md) (N := 26) hx hb hts (fun w h => List.mem_cons_of_mem _ (in_Md w h)) hown hK hP 0 rfl rfl 4 (by decide) (hts _ (List.mem_cons_of_mem _ wd_826)) (fun _ h9 => h9) rfl d_Md_isSooner_52 ?_
  refine lv_iload_n hx hb d_Md_isSooner_55 rfl (lv_at hl 6 rfl) ?_
  obtain ⟨hi_10, hf⟩ := as_some hf
  refine va_iald hx hb hK hP 2 0 rfl rfl (inb_in hi_10) d_Md_isSooner_56 ?_
  refine lv_i2l (v := (Int32.toInt64 (ga S 2 (Int32.toNatClampNeg x3)))) hx hb d_Md_isSooner_57 rfl ?_
  refine lv_aload_n hx hb d_Md_isSooner_58 rfl (lv_at hl 3 rfl) ?_
  refine va_get (D := D) (ci := 7) (v := .ref (ob 2)) (C := R_Md) (T := F_Md) (N := 26) hx hb hts (fun w h => List.mem_cons_of_mem _ (in_Md w h)) hown hK hP 0 rfl rfl 4 (by decide) (hts _ (List.mem_cons_of_mem _ wd_826)) (fun _ h9 => h9) rfl d_Md_isSooner_59 ?_
  refine lv_iload_n hx hb d_Md_isSooner_62 rfl (lv_at hl 4 rfl) ?_
  obtain ⟨hi_11, hf⟩ := as_some hf
  refine va_iald hx hb hK hP 2 0 rfl rfl (inb_in hi_11) d_Md_isSooner_63 ?_
  refine lv_i2l (v := (Int32.toInt64 (ga S 2 (Int32.toNatClampNeg x1)))) hx hb d_Md_isSooner_64 rfl ?_
  refine lv_lsub hx hb d_Md_isSooner_65 ?_
  obtain ⟨x11_12, ex11_12, hf⟩ := bn_some hf
  refine tpl ex11_12 ?_
  refine lv_lstore (lv' := [(11, .long x11_12), (9, .long x9_9), (7, .long x7_6), (5, .long x5_3), (0, .ref (ob 0)), (1, .int x1), (2, .int x2), (3, .int x3), (4, .int x4)]) hx hb d_Md_isSooner_66 hl (by decide) rfl (fun ls hl => ?_)
  refine lv_aload_n hx hb d_Md_isSooner_68 rfl (lv_at hl 4 rfl) ?_
  refine va_get (D := D) (ci := 7) (v := .ref (ob 1)) (C := R_Md) (T := F_Md) (N := 26) hx hb hts (fun w h => List.mem_cons_of_mem _ (in_Md w h)) hown hK hP 0 rfl rfl 3 (by decide) (hts _ (List.mem_cons_of_mem _ wd_825)) (fun _ h9 => h9) rfl d_Md_isSooner_69 ?_
  refine lv_iload hx hb d_Md_isSooner_72 (lv_at hl 8 rfl) ?_
  obtain ⟨hi_13, hf⟩ := as_some hf
  refine va_iald hx hb hK hP 1 0 rfl rfl (inb_in hi_13) d_Md_isSooner_74 ?_
  refine lv_i2l (v := (Int32.toInt64 (ga S 1 (Int32.toNatClampNeg x4)))) hx hb d_Md_isSooner_75 rfl ?_
  refine lv_aload_n hx hb d_Md_isSooner_76 rfl (lv_at hl 4 rfl) ?_
  refine va_get (D := D) (ci := 7) (v := .ref (ob 1)) (C := R_Md) (T := F_Md) (N := 26) hx hb hts (fun w h => List.mem_cons_of_mem _ (in_Md w h)) hown hK hP 0 rfl rfl 3 (by decide) (hts _ (List.mem_cons_of_mem _ wd_825)) (fun _ h9 => h9) rfl d_Md_isSooner_77 ?_
  refine lv_iload_n hx hb d_Md_isSooner_80 rfl (lv_at hl 5 rfl) ?_
  obtain ⟨hi_14, hf⟩ := as_some hf
  refine va_iald hx hb hK hP 1 0 rfl rfl (inb_in hi_14) d_Md_isSooner_81 ?_
  refine lv_i2l (v := (Int32.toInt64 (ga S 1 (Int32.toNatClampNeg x1)))) hx hb d_Md_isSooner_82 rfl ?_
  refine lv_lsub hx hb d_Md_isSooner_83 ?_
  obtain ⟨x13_15, ex13_15, hf⟩ := bn_some hf
  refine tpl ex13_15 ?_
  refine lv_lstore (lv' := [(13, .long x13_15), (11, .long x11_12), (9, .long x9_9), (7, .long x7_6), (5, .long x5_3), (0, .ref (ob 0)), (1, .int x1), (2, .int x2), (3, .int x3), (4, .int x4)]) hx hb d_Md_isSooner_84 hl (by decide) rfl (fun ls hl => ?_)
  refine lv_aload_n hx hb d_Md_isSooner_86 rfl (lv_at hl 5 rfl) ?_
  refine va_get (D := D) (ci := 7) (v := .ref (ob 2)) (C := R_Md) (T := F_Md) (N := 26) hx hb hts (fun w h => List.mem_cons_of_mem _ (in_Md w h)) hown hK hP 0 rfl rfl 4 (by decide) (hts _ (List.mem_cons_of_mem _ wd_826)) (fun _ h9 => h9) rfl d_Md_isSooner_87 ?_
  refine lv_iload hx hb d_Md_isSooner_90 (lv_at hl 9 rfl) ?_
  obtain ⟨hi_16, hf⟩ := as_some hf
  refine va_iald hx hb hK hP 2 0 rfl rfl (inb_in hi_16) d_Md_isSooner_92 ?_
  refine lv_i2l (v := (Int32.toInt64 (ga S 2 (Int32.toNatClampNeg x4)))) hx hb d_Md_isSooner_93 rfl ?_
  refine lv_aload_n hx hb d_Md_isSooner_94 rfl (lv_at hl 5 rfl) ?_
  refine va_get (D := D) (ci := 7) (v := .ref (ob 2)) (C := R_Md) (T := F_Md) (N := 26) hx hb hts (fun w h => List.mem_cons_of_mem _ (in_Md w h)) hown hK hP 0 rfl rfl 4 (by decide) (hts _ (List.mem_cons_of_mem _ wd_826)) (fun _ h9 => h9) rfl d_Md_isSooner_95 ?_
  refine lv_iload_n hx hb d_Md_isSooner_98 rfl (lv_at hl 6 rfl) ?_
  obtain ⟨hi_17, hf⟩ := as_some hf
  refine va_iald hx hb hK hP 2 0 rfl rfl (inb_in hi_17) d_Md_isSooner_99 ?_
  refine lv_i2l (v := (Int32.toInt64 (ga S 2 (Int32.toNatClampNeg x1)))) hx hb d_Md_isSooner_100 rfl ?_
  refine lv_lsub hx hb d_Md_isSooner_101 ?_
  obtain ⟨x15_18, ex15_18, hf⟩ := bn_some hf
  refine tpl ex15_18 ?_
  refine lv_lstore (lv' := [(15, .long x15_18), (13, .long x13_15), (11, .long x11_12), (9, .long x9_9), (7, .long x7_6), (5, .long x5_3), (0, .ref (ob 0)), (1, .int x1), (2, .int x2), (3, .int x3), (4, .int x4)]) hx hb d_Md_isSooner_102 hl (by decide) rfl (fun ls hl => ?_)
  refine lv_lload hx hb d_Md_isSooner_104 (lv_at hl 5 rfl) ?_
  refine lv_lload hx hb d_Md_isSooner_106 (lv_at hl 4 rfl) ?_
  refine lv_lload hx hb d_Md_isSooner_108 (lv_at hl 3 rfl) ?_
  refine lv_lload hx hb d_Md_isSooner_110 (lv_at hl 2 rfl) ?_
  obtain ⟨q_19, hq_19, hf⟩ := bd_some hf
  refine kc_l (va_runS (As := [.long x5_3, .long x7_6, .long x9_9, .long x11_12]) (rest := []) ⟨hx, hb, hml, hown, hts⟩ (c_Md_cross l D cA cP ob ad x5_3 x7_6 x9_9 x11_12  S hq_19 H.size) ⟨callB_of 4 hts (gd_Md_cross) rfl rfl rfl (hts _ (List.mem_cons_of_mem _ wd_72)) (hts _ (List.mem_cons_of_mem _ wd_969)) dd_Md_cross ⟨Nat.le_of_ble_eq_true rfl, Nat.le_of_ble_eq_true rfl⟩, (hts _ (List.mem_cons_of_mem _ wd_970))⟩ (kpS hK hP hD hN hZ hS) rfl rfl hl.1 rfl (lv_room (Nat.le_of_ble_eq_true rfl)) d_Md_isSooner_112 ⟨Nat.le_of_ble_eq_true rfl, Nat.le_of_ble_eq_true rfl⟩) hP hD hS hA (fun r w H locs hw hP hD hS => ?_)
  obtain ⟨rfl, rfl⟩ := hw
  obtain ⟨q_20, hq_20, hf⟩ := bd_some hf
  refine kc_i (va_runS (As := [.long q_19.1]) (rest := []) ⟨hx, hb, hml, hown, hts⟩ (c_Md_sign l D cA cP ob ad q_19.1  q_19.2 hq_20 H.size) ⟨callB_of 1 hts (gd_Md_sign) rfl rfl rfl (hts _ (List.mem_cons_of_mem _ wd_72)) (hts _ (List.mem_cons_of_mem _ wd_972)) dd_Md_sign ⟨Nat.le_of_ble_eq_true rfl, Nat.le_of_ble_eq_true rfl⟩, (hts _ (List.mem_cons_of_mem _ wd_973))⟩ (kpS hK hP hD hN hZ hS) rfl rfl hl.1 rfl (lv_room (Nat.le_of_ble_eq_true rfl)) d_Md_isSooner_115 ⟨Nat.le_of_ble_eq_true rfl, Nat.le_of_ble_eq_true rfl⟩) hP hD hS hA (fun r w H locs hw hP hD hS => ?_)
  obtain ⟨rfl, rfl⟩ := hw
  refine lv_istore (lv' := [(17, .int q_20.1), (15, .long x15_18), (13, .long x13_15), (11, .long x11_12), (9, .long x9_9), (7, .long x7_6), (5, .long x5_3), (0, .ref (ob 0)), (1, .int x1), (2, .int x2), (3, .int x3), (4, .int x4)]) hx hb d_Md_isSooner_118 hl (by decide) rfl (fun ls hl => ?_)
  refine lv_lload hx hb d_Md_isSooner_120 (lv_at hl 6 rfl) ?_
  refine lv_lload hx hb d_Md_isSooner_122 (lv_at hl 5 rfl) ?_
  refine lv_lload hx hb d_Md_isSooner_124 (lv_at hl 2 rfl) ?_
  refine lv_lload hx hb d_Md_isSooner_126 (lv_at hl 1 rfl) ?_
  obtain ⟨q_21, hq_21, hf⟩ := bd_some hf
  refine kc_l (va_runS (As := [.long x5_3, .long x7_6, .long x13_15, .long x15_18]) (rest := []) ⟨hx, hb, hml, hown, hts⟩ (c_Md_cross l D cA cP ob ad x5_3 x7_6 x13_15 x15_18  q_20.2 hq_21 H.size) ⟨callB_of 4 hts (gd_Md_cross) rfl rfl rfl (hts _ (List.mem_cons_of_mem _ wd_72)) (hts _ (List.mem_cons_of_mem _ wd_969)) dd_Md_cross ⟨Nat.le_of_ble_eq_true rfl, Nat.le_of_ble_eq_true rfl⟩, (hts _ (List.mem_cons_of_mem _ wd_970))⟩ (kpS hK hP hD hN hZ hS) rfl rfl hl.1 rfl (lv_room (Nat.le_of_ble_eq_true rfl)) d_Md_isSooner_128 ⟨Nat.le_of_ble_eq_true rfl, Nat.le_of_ble_eq_true rfl⟩) hP hD hS hA (fun r w H locs hw hP hD hS => ?_)
  obtain ⟨rfl, rfl⟩ := hw
  obtain ⟨q_22, hq_22, hf⟩ := bd_some hf
  refine kc_i (va_runS (As := [.long q_21.1]) (rest := []) ⟨hx, hb, hml, hown, hts⟩ (c_Md_sign l D cA cP ob ad q_21.1  q_21.2 hq_22 H.size) ⟨callB_of 1 hts (gd_Md_sign) rfl rfl rfl (hts _ (List.mem_cons_of_mem _ wd_72)) (hts _ (List.mem_cons_of_mem _ wd_972)) dd_Md_sign ⟨Nat.le_of_ble_eq_true rfl, Nat.le_of_ble_eq_true rfl⟩, (hts _ (List.mem_cons_of_mem _ wd_973))⟩ (kpS hK hP hD hN hZ hS) rfl rfl hl.1 rfl (lv_room (Nat.le_of_ble_eq_true rfl)) d_Md_isSooner_131 ⟨Nat.le_of_ble_eq_true rfl, Nat.le_of_ble_eq_true rfl⟩) hP hD hS hA (fun r w H locs hw hP hD hS => ?_)
  obtain ⟨rfl, rfl⟩ := hw
  refine lv_istore (lv' := [(18, .int q_22.1), (17, .int q_20.1), (15, .long x15_18), (13, .long x13_15), (11, .long x11_12), (9, .long x9_9), (7, .long x7_6), (5, .long x5_3), (0, .ref (ob 0)), (1, .int x1), (2, .int x2), (3, .int x3), (4, .int x4)]) hx hb d_Md_isSooner_134 hl (by decide) rfl (fun ls hl => ?_)
  refine lv_iload hx hb d_Md_isSooner_136 (lv_at hl 1 rfl) ?_
  refine lv_iload hx hb d_Md_isSooner_138 (lv_at hl 0 rfl) ?_
  refine lv_icmp_eq (tgt := 158) hx hb d_Md_isSooner_140 (by decide) (fun c_23 => ?_) (fun c_23 => ?_)
  · rw [if_pos c_23] at hf
    refine lv_lload hx hb d_Md_isSooner_158 (lv_at hl 5 rfl) ?_
    refine lv_lload hx hb d_Md_isSooner_160 (lv_at hl 4 rfl) ?_
    refine lv_lload hx hb d_Md_isSooner_162 (lv_at hl 3 rfl) ?_
    refine lv_lload hx hb d_Md_isSooner_164 (lv_at hl 2 rfl) ?_
    obtain ⟨q_24, hq_24, hf⟩ := bd_some hf
    refine kc_l (va_runS (As := [.long x9_9, .long x11_12, .long x13_15, .long x15_18]) (rest := []) ⟨hx, hb, hml, hown, hts⟩ (c_Md_cross l D cA cP ob ad x9_9 x11_12 x13_15 x15_18  q_22.2 hq_24 H.size) ⟨callB_of 4 hts (gd_Md_cross) rfl rfl rfl (hts _ (List.mem_cons_of_mem _ wd_72)) (hts _ (List.mem_cons_of_mem _ wd_969)) dd_Md_cross ⟨Nat.le_of_ble_eq_true rfl, Nat.le_of_ble_eq_true rfl⟩, (hts _ (List.mem_cons_of_mem _ wd_970))⟩ (kpS hK hP hD hN hZ hS) rfl rfl hl.1 rfl (lv_room (Nat.le_of_ble_eq_true rfl)) d_Md_isSooner_166 ⟨Nat.le_of_ble_eq_true rfl, Nat.le_of_ble_eq_true rfl⟩) hP hD hS hA (fun r w H locs hw hP hD hS => ?_)
    obtain ⟨rfl, rfl⟩ := hw
    refine lv_lconst (v := 0) hx hb d_Md_isSooner_169 (by decide) ?_
    refine W.lcmp hx hb d_Md_isSooner_170 ?_
    refine lv_if_le (tgt := 178) hx hb d_Md_isSooner_171 (by decide) (fun c_25 => ?_) (fun c_25 => ?_)
    · rw [if_pos c_25] at hf
      refine lv_iconst (v := 0) hx hb d_Md_isSooner_178 (by decide) ?_
      cases hf
      exact hret _ _ _ _ _ _ ⟨rfl, rfl⟩ rfl hP hD hS d_Md_isSooner_179
    · rw [if_neg c_25] at hf
      refine lv_iconst (v := 1) hx hb d_Md_isSooner_174 (by decide) ?_
      refine lv_goto (tgt := 179) hx hb d_Md_isSooner_175 (by decide) ?_
      cases hf
      exact hret _ _ _ _ _ _ ⟨rfl, rfl⟩ rfl hP hD hS d_Md_isSooner_179
  · rw [if_neg c_23] at hf
    refine lv_iload hx hb d_Md_isSooner_143 (lv_at hl 1 rfl) ?_
    refine lv_iload hx hb d_Md_isSooner_145 (lv_at hl 0 rfl) ?_
    refine lv_icmp_le (tgt := 154) hx hb d_Md_isSooner_147 (by decide) (fun c_26 => ?_) (fun c_26 => ?_)
    · rw [if_pos c_26] at hf
      refine lv_iconst (v := 0) hx hb d_Md_isSooner_154 (by decide) ?_
      refine lv_goto (tgt := 179) hx hb d_Md_isSooner_155 (by decide) ?_
      cases hf
      exact hret _ _ _ _ _ _ ⟨rfl, rfl⟩ rfl hP hD hS d_Md_isSooner_179
    · rw [if_neg c_26] at hf
      refine lv_iconst (v := 1) hx hb d_Md_isSooner_150 (by decide) ?_
      refine lv_goto (tgt := 179) hx hb d_Md_isSooner_151 (by decide) ?_
      cases hf
      exact hret _ _ _ _ _ _ ⟨rfl, rfl⟩ rfl hP hD hS d_Md_isSooner_179
def f_Md_isSooner (x1 : Int32) (x2 : Int32) (x3 : Int32) (x4 : Int32) (S : St) : Option (Int32 × St) := f_Md_isSooner_0  x1 x2 x3 x4 S
theorem c_Md_isSooner (l : Launch) (D : va_G) (cA cP : ClassId) (ob : Nat → Nat) (ad : Nat → Nat → Nat) (x1 : Int32) (x2 : Int32) (x3 : Int32) (x4 : Int32)  (S : St) {res : (Int32 × St)} (hf : f_Md_isSooner x1 x2 x3 x4 S = some res) : CTi l y_Md_isSooner w_Md_isSooner rm_Md_isSooner 0 0 D clC (TY cA cP) [.ref (ob 0), .int x1, .int x2, .int x3, .int x4] (mw cA cP ob ad S) (fun r w => r = res.1 ∧ w = mw cA cP ob ad res.2) :=
  mk_z (cc := b_Md_isSooner) (maxL := 19) (own := R_Md) (by decide) rfl rfl (Nat.le_of_ble_eq_true rfl) (fun p e s m below meth c A Q C0 hret ls hl hP hD hS => w_Md_isSooner_0 C0 hret   x1 x2 x3 x4 S _ _ ls hP hD hS (lv_sub hl [0, 1, 2, 3, 4] rfl) hf)
end
