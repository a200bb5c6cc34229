section
variable {p : Program} {l : Launch} {e : Env} {s : State} {m : MethodId} {args : Array Value} {below : List Frame} {meth : Method} {c : Code} {Q : State → Prop} {D : va_G} {cA cP : ClassId} {ob : Nat → Nat} {ad : Nat → Nat → Nat} {A : Nat → Prop}
def f_Md_least_26  (k4 : Int32 → Int32 → St → Option (Int32 × St)) (x2 : Int32) (t0 : Int32) (S : St) : Option (Int32 × St) :=
  bn (x2 + 1) (fun x2_1 => k4 t0 x2_1 S)
set_option maxHeartbeats 4000000 in
set_option maxRecDepth 100000 in
theorem w_Md_least_26 (C0 : CX p s m args c b_Md_least 3 R_Md w_Md_least D clC cA cP A) {res : (Int32 × St)} (hret : RTi p l e rm_Md_least s m args below meth c Q D clC A b_Md_least 0 0 (fun r w => r = res.1 ∧ w = mw cA cP ob ad res.2))   (k4 : Int32 → Int32 → St → Option (Int32 × St)) (hk4 : ∀ (x1 : Int32) (x2 : Int32) (S : St) (H : Heap) (locs : List Loc) (ls : Array Slot), va_P D clC (mw cA cP ob ad S) H → va_D A (mw cA cP ob ad S) → va_S A s.heap H locs → lv_has ls 3 [(0, .ref (ob 0)), (1, .int x1), (2, .int x2)] → k4 x1 x2 S = some res → W p l e rm_Md_least s m args below meth c H locs 0 0 Q (F0 m 4 ls [])) : ∀ (x2 : Int32) (t0 : Int32) (S : St) (H : Heap) (locs : List Loc) (ls : Array Slot), va_P D clC (mw cA cP ob ad S) H → va_D A (mw cA cP ob ad S) → va_S A s.heap H locs → lv_has ls 3 [(0, .ref (ob 0)), (2, .int x2)] → f_Md_least_26  k4 x2 t0 S = some res → W p l e rm_Md_least s m args below meth c H locs 0 0 Q (F0 m 26 ls [.int t0]) := by
  obtain ⟨hx, hb, hml, hown, hts, hK, hA, hN, hZ⟩ := id C0
  intro x2 t0 S H locs ls hP hD hS hl hf
  rw [f_Md_least_26] at hf
  refine lv_istore_n (lv' := [(1, .int t0), (0, .ref (ob 0)), (2, .int x2)]) hx hb d_Md_least_26 rfl hl (by decide) rfl (fun ls hl => ?_)
  obtain ⟨x2_1, ex2_1, hf⟩ := bn_some hf
  refine lv_iinc (v := x2_1) (lv' := [(2, .int x2_1), (1, .int t0), (0, .ref (ob 0))]) hx hb d_Md_least_27 hl (k := 2) rfl (by rw [ex2_1]; rfl) (by decide) rfl (fun ls hl => ?_)
  refine lv_goto (tgt := 4) hx hb d_Md_least_30 (by decide) ?_
  exact hk4 t0 x2_1 S H locs ls hP hD hS (lv_sub hl [2, 1, 0] rfl) hf
def f_Md_least_4   : Nat → Int32 → Int32 → St → Option (Int32 × St)
  | 0 => fun _ _ _ => none
  | n + 1 => fun x1 x2 S => (if (gi S 2) ≤ x2 then
      some (x1, S)
      else
      bd (f_Md_isLess x2 x1 S) (fun q_2 => (if q_2.1 = 0 then
        f_Md_least_26  (f_Md_least_4  n) x2 x1 q_2.2
        else
        f_Md_least_26  (f_Md_least_4  n) x2 x2 q_2.2)))
set_option maxHeartbeats 4000000 in
set_option maxRecDepth 100000 in
theorem w_Md_least_4 (C0 : CX p s m args c b_Md_least 3 R_Md w_Md_least D clC cA cP A) {res : (Int32 × St)} (hret : RTi p l e rm_Md_least s m args below meth c Q D clC A b_Md_least 0 0 (fun r w => r = res.1 ∧ w = mw cA cP ob ad res.2))    : ∀ (n : Nat) (x1 : Int32) (x2 : Int32) (S : St) (H : Heap) (locs : List Loc) (ls : Array Slot), va_P D clC (mw cA cP ob ad S) H → va_D A (mw cA cP ob ad S) → va_S A s.heap H locs → lv_has ls 3 [(0, .ref (ob 0)), (1, .int x1), (2, .int x2)] → f_Md_least_4   n x1 x2 S = some res → W p l e rm_Md_least s m args below meth c H locs 0 0 Q (F0 m 4 ls []) := by
  obtain ⟨hx, hb, hml, hown, hts, hK, hA, hN, hZ⟩ := id C0
  intro n
  induction n with
  | zero =>
    intro x1 x2 S H locs ls hP hD hS hl hf
    cases hf
  | succ n ih =>
    intro x1 x2 S H locs ls hP hD hS hl hf
    rw [f_Md_least_4] at hf
    try dsimp only at hf
    refine lv_iload_n hx hb d_Md_least_4 rfl (lv_at hl 2 rfl) ?_
    refine lv_aload_n hx hb d_Md_least_5 rfl (lv_at hl 0 rfl) ?_
    refine va_get (D := D) (ci := 7) (v := .int (gi S 2)) (C := R_Md) (T := F_Md) (N := 26) hx hb hts (fun w h => List.mem_cons_of_mem _ (in_Md w h)) hown hK hP 0 rfl rfl 2 (by decide) (hts _ (List.mem_cons_of_mem _ wd_824)) (fun _ h9 => h9) rfl d_Md_least_6 ?_
    refine lv_icmp_ge (tgt := 33) hx hb d_Md_least_9 (by decide) (fun c_1 => ?_) (fun c_1 => ?_)
    · rw [if_pos c_1] at hf
      refine lv_iload_n hx hb d_Md_least_33 rfl (lv_at hl 1 rfl) ?_
      cases hf
      exact hret _ _ _ _ _ _ ⟨rfl, rfl⟩ hP hD hS d_Md_least_34
    · rw [if_neg c_1] at hf
      refine lv_aload_n hx hb d_Md_least_12 rfl (lv_at hl 0 rfl) ?_
      refine lv_iload_n hx hb d_Md_least_13 rfl (lv_at hl 2 rfl) ?_
      refine lv_iload_n hx hb d_Md_least_14 rfl (lv_at hl 1 rfl) ?_
      obtain ⟨q_2, hq_2, hf⟩ := bd_some hf
      refine kc_i (va_runV (As := [.int x2, .int x1]) (rest := []) ⟨hx, hb, hml, hown, hts⟩ (c_Md_isLess l D cA cP ob ad x2 x1  S hq_2 H.size) ⟨callB_of 2 hts (gd_Md_isLess) rfl rfl rfl (hts _ (List.mem_cons_of_mem _ wd_72)) (hts _ (List.mem_cons_of_mem _ wd_953)) dd_Md_isLess ⟨Nat.le_of_ble_eq_true rfl, Nat.le_of_ble_eq_true rfl⟩, (hts _ (List.mem_cons_of_mem _ wd_955)), (hts _ (List.mem_cons_of_mem _ wd_40))⟩ (kpV hK hP hD hN hZ hS 7 0 rfl rfl) rfl rfl hl.1 rfl (lv_room (Nat.le_of_ble_eq_true rfl)) d_Md_least_15 ⟨Nat.le_of_ble_eq_true rfl, Nat.le_of_ble_eq_true rfl⟩) hP hD hS hA (fun r w H locs hw hP hD hS => ?_)
      obtain ⟨rfl, rfl⟩ := hw
      refine lv_if_eq (tgt := 25) hx hb d_Md_least_18 (by decide) (fun c_3 => ?_) (fun c_3 => ?_)
      · rw [if_pos c_3] at hf
        refine lv_iload_n hx hb d_Md_least_25 rfl (lv_at hl 1 rfl) ?_
        exact w_Md_least_26 C0 hret   (f_Md_least_4  n) ih x2 x1 q_2.2 H locs ls hP hD hS (lv_sub hl [0, 2] rfl) hf
      · rw [if_neg c_3] at hf
        refine lv_iload_n hx hb d_Md_least_21 rfl (lv_at hl 2 rfl) ?_
        refine lv_goto (tgt := 26) hx hb d_Md_least_22 (by decide) ?_
        exact w_Md_least_26 C0 hret   (f_Md_least_4  n) ih x2 x2 q_2.2 H locs ls hP hD hS (lv_sub hl [0, 2] rfl) hf
def f_Md_least_0    (S : St) : Option (Int32 × St) :=
  f_Md_least_4   FU 0 1 S
set_option maxHeartbeats 4000000 in
set_option maxRecDepth 100000 in
theorem w_Md_least_0 (C0 : CX p s m args c b_Md_least 3 R_Md w_Md_least D clC cA cP A) {res : (Int32 × St)} (hret : RTi p l e rm_Md_least s m args below meth c Q D clC A b_Md_least 0 0 (fun r w => r = res.1 ∧ w = mw cA cP ob ad res.2))    : ∀  (S : St) (H : Heap) (locs : List Loc) (ls : Array Slot), va_P D clC (mw cA cP ob ad S) H → va_D A (mw cA cP ob ad S) → va_S A s.heap H locs → lv_has ls 3 [(0, .ref (ob 0))] → f_Md_least_0    S = some res → W p l e rm_Md_least s m args below meth c H locs 0 0 Q (F0 m 0 ls []) := by
  obtain ⟨hx, hb, hml, hown, hts, hK, hA, hN, hZ⟩ := id C0
  intro  S H locs ls hP hD hS hl hf
  rw [f_Md_least_0] at hf
  refine lv_iconst (v := 0) hx hb d_Md_least_0 (by decide) ?_
  refine lv_istore_n (lv' := [(1, .int 0), (0, .ref (ob 0))]) hx hb d_Md_least_1 rfl hl (by decide) rfl (fun ls hl => ?_)
  refine lv_iconst (v := 1) hx hb d_Md_least_2 (by decide) ?_
  refine lv_istore_n (lv' := [(2, .int 1), (1, .int 0), (0, .ref (ob 0))]) hx hb d_Md_least_3 rfl hl (by decide) rfl (fun ls hl => ?_)
  exact w_Md_least_4 C0 hret    FU 0 1 S H locs ls hP hD hS (lv_sub hl [2, 1, 0] rfl) hf
def f_Md_least  (S : St) : Option (Int32 × St) := f_Md_least_0   S
theorem c_Md_least (l : Launch) (D : va_G) (cA cP : ClassId) (ob : Nat → Nat) (ad : Nat → Nat → Nat)   (S : St) {res : (Int32 × St)} (hf : f_Md_least  S = some res) : CTi l y_Md_least w_Md_least rm_Md_least 0 0 D clC (TY cA cP) [.ref (ob 0)] (mw cA cP ob ad S) (fun r w => r = res.1 ∧ w = mw cA cP ob ad res.2) :=
  mk_i (cc := b_Md_least) (maxL := 3) (own := R_Md) (by decide) rfl rfl (Nat.le_of_ble_eq_true rfl) (fun p e s m below meth c A Q C0 hret ls hl hP hD hS => w_Md_least_0 C0 hret    S _ _ ls hP hD hS (lv_sub hl [0] rfl) hf)
def f_Md_cornerBehind_97  (k20 : Int32 → Int32 → Int32 → St → Option (Int32 × St)) (x1 : Int32) (x2 : Int32) (x3 : Int32) (S : St) : Option (Int32 × St) :=
  bn (x3 + 1) (fun x3_1 => k20 x1 x2 x3_1 S)
set_option maxHeartbeats 4000000 in
set_option maxRecDepth 100000 in
theorem w_Md_cornerBehind_97 (C0 : CX p s m args c b_Md_cornerBehind 5 R_Md w_Md_cornerBehind D clC cA cP A) {res : (Int32 × St)} (hret : RTi p l e rm_Md_cornerBehind s m args below meth c Q D clC A b_Md_cornerBehind 0 0 (fun r w => r = res.1 ∧ w = mw cA cP ob ad res.2))   (k20 : Int32 → Int32 → Int32 → St → Option (Int32 × St)) (hk20 : ∀ (x1 : Int32) (x2 : Int32) (x3 : Int32) (S : St) (H : Heap) (locs : List Loc) (ls : Array Slot), va_P D clC (mw cA cP ob ad S) H → va_D A (mw cA cP ob ad S) → va_S A s.heap H locs → lv_has ls 5 [(0, .ref (ob 0)), (1, .int x1), (2, .int x2), (3, .int x3)] → k20 x1 x2 x3 S = some res → W p l e rm_Md_cornerBehind s m args below meth c H locs 0 0 Q (F0 m 20 ls [])) : ∀ (x1 : Int32) (x2 : Int32) (x3 : Int32) (S : St) (H : Heap) (locs : List Loc) (ls : Array Slot), va_P D clC (mw cA cP ob ad S) H → va_D A (mw cA cP ob ad S) → va_S A s.heap H locs → lv_has ls 5 [(0, .ref (ob 0)), (1, .int x1), (2, .int x2), (3, .int x3)] → f_Md_cornerBehind_97  k20 x1 x2 x3 S = some res → W p l e rm_Md_cornerBehind s m args below meth c H locs 0 0 Q (F0 m 97 ls []) := by
  obtain ⟨hx, hb, hml, hown, hts, hK, hA, hN, hZ⟩ := id C0
  intro x1 x2 x3 S H locs ls hP hD hS hl hf
  rw [f_Md_cornerBehind_97] at hf
  obtain ⟨x3_1, ex3_1, hf⟩ := bn_some hf
  refine lv_iinc (v := x3_1) (lv' := [(3, .int x3_1), (0, .ref (ob 0)), (1, .int x1), (2, .int x2)]) hx hb d_Md_cornerBehind_97 hl (k := 3) rfl (by rw [ex3_1]; rfl) (by decide) rfl (fun ls hl => ?_)
  refine lv_goto (tgt := 20) hx hb d_Md_cornerBehind_100 (by decide) ?_
  exact hk20 x1 x2 x3_1 S H locs ls hP hD hS (lv_sub hl [1, 2, 3, 0] rfl) hf
def f_Md_cornerBehind_95  (k20 : Int32 → Int32 → Int32 → St → Option (Int32 × St)) (x1 : Int32) (x3 : Int32) (S : St) : Option (Int32 × St) :=
  f_Md_cornerBehind_97  k20 x1 x3 x3 S
set_option maxHeartbeats 4000000 in
set_option maxRecDepth 100000 in
theorem w_Md_cornerBehind_95 (C0 : CX p s m args c b_Md_cornerBehind 5 R_Md w_Md_cornerBehind D clC cA cP A) {res : (Int32 × St)} (hret : RTi p l e rm_Md_cornerBehind s m args below meth c Q D clC A b_Md_cornerBehind 0 0 (fun r w => r = res.1 ∧ w = mw cA cP ob ad res.2))   (k20 : Int32 → Int32 → Int32 → St → Option (Int32 × St)) (hk20 : ∀ (x1 : Int32) (x2 : Int32) (x3 : Int32) (S : St) (H : Heap) (locs : List Loc) (ls : Array Slot), va_P D clC (mw cA cP ob ad S) H → va_D A (mw cA cP ob ad S) → va_S A s.heap H locs → lv_has ls 5 [(0, .ref (ob 0)), (1, .int x1), (2, .int x2), (3, .int x3)] → k20 x1 x2 x3 S = some res → W p l e rm_Md_cornerBehind s m args below meth c H locs 0 0 Q (F0 m 20 ls [])) : ∀ (x1 : Int32) (x3 : Int32) (S : St) (H : Heap) (locs : List Loc) (ls : Array Slot), va_P D clC (mw cA cP ob ad S) H → va_D A (mw cA cP ob ad S) → va_S A s.heap H locs → lv_has ls 5 [(0, .ref (ob 0)), (1, .int x1), (3, .int x3)] → f_Md_cornerBehind_95  k20 x1 x3 S = some res → W p l e rm_Md_cornerBehind s m args below meth c H locs 0 0 Q (F0 m 95 ls []) := by
  obtain ⟨hx, hb, hml, hown, hts, hK, hA, hN, hZ⟩ := id C0
  intro x1 x3 S H locs ls hP hD hS hl hf
  rw [f_Md_cornerBehind_95] at hf
  refine lv_iload_n hx hb d_Md_cornerBehind_95 rfl (lv_at hl 2 rfl) ?_
  refine lv_istore_n (lv' := [(2, .int x3), (0, .ref (ob 0)), (1, .int x1), (3, .int x3)]) hx hb d_Md_cornerBehind_96 rfl hl (by decide) rfl (fun ls hl => ?_)
  exact w_Md_cornerBehind_97 C0 hret   k20 hk20 x1 x3 x3 S H locs ls hP hD hS (lv_sub hl [1, 2, 0, 3] rfl) hf
def f_Md_cornerBehind_20   : Nat → Int32 → Int32 → Int32 → St → Option (Int32 × St)
  | 0 => fun _ _ _ _ => none
  | n + 1 => fun x1 x2 x3 S => (if (gi S 2) ≤ x3 then
      some (x2, S)
      else
      (if x3 = x1 then
        f_Md_cornerBehind_97  (f_Md_cornerBehind_20  n) x1 x2 x3 S
        else
        (if x3 = x2 then
          f_Md_cornerBehind_97  (f_Md_cornerBehind_20  n) x1 x2 x3 S
          else
          bd (f_Md_sideOf x1 x2 x3 S) (fun q_4 => (if q_4.1 < 0 then
            f_Md_cornerBehind_95  (f_Md_cornerBehind_20  n) x1 x3 q_4.2
            else
            (if q_4.1 = 0 then
              as_ (inb x3 (gn q_4.2 1)) (as_ (inb x3 (gn q_4.2 2)) (bd (f_Md_apart x1 (ga q_4.2 1 (Int32.toNatClampNeg x3)) (ga q_4.2 2 (Int32.toNatClampNeg x3)) q_4.2) (fun q_9 => as_ (inb x2 (gn q_9.2 1)) (as_ (inb x2 (gn q_9.2 2)) (bd (f_Md_apart x1 (ga q_9.2 1 (Int32.toNatClampNeg x2)) (ga q_9.2 2 (Int32.toNatClampNeg x2)) q_9.2) (fun q_12 => (if (lg_cmp q_9.1 q_12.1) ≤ 0 then
                f_Md_cornerBehind_97  (f_Md_cornerBehind_20  n) x1 x2 x3 q_12.2
                else
                f_Md_cornerBehind_95  (f_Md_cornerBehind_20  n) x1 x3 q_12.2)))))))
              else
              f_Md_cornerBehind_97  (f_Md_cornerBehind_20  n) x1 x2 x3 q_4.2))))))
set_option maxHeartbeats 4000000 in
set_option maxRecDepth 100000 in
theorem w_Md_cornerBehind_20 (C0 : CX p s m args c b_Md_cornerBehind 5 R_Md w_Md_cornerBehind D clC cA cP A) {res : (Int32 × St)} (hret : RTi p l e rm_Md_cornerBehind s m args below meth c Q D clC A b_Md_cornerBehind 0 0 (fun r w => r = res.1 ∧ w = mw cA cP ob ad res.2))    : ∀ (n : Nat) (x1 : Int32) (x2 : Int32) (x3 : Int32) (S : St) (H : Heap) (locs : List Loc) (ls : Array Slot), va_P D clC (mw cA cP ob ad S) H → va_D A (mw cA cP ob ad S) → va_S A s.heap H locs → lv_has ls 5 [(0, .ref (ob 0)), (1, .int x1), (2, .int x2), (3, .int x3)] → f_Md_cornerBehind_20   n x1 x2 x3 S = some res → W p l e rm_Md_cornerBehind s m args below meth c H locs 0 0 Q (F0 m 20 ls []) := by
  obtain ⟨hx, hb, hml, hown, hts, hK, hA, hN, hZ⟩ := id C0
  intro n
  induction n with
  | zero =>
    intro x1 x2 x3 S H locs ls hP hD hS hl hf
    cases hf
  | succ n ih =>
    intro x1 x2 x3 S H locs ls hP hD hS hl hf
    rw [f_Md_cornerBehind_20] at hf
    try dsimp only at hf
    refine lv_iload_n hx hb d_Md_cornerBehind_20 rfl (lv_at hl 3 rfl) ?_
    refine lv_aload_n hx hb d_Md_cornerBehind_21 rfl (lv_at hl 0 rfl) ?_
    refine va_get (D := D) (ci := 7) (v := .int (gi S 2)) (C := R_Md) (T := F_Md) (N := 26) hx hb hts (fun w h => List.mem_cons_of_mem _ (in_Md w h)) hown hK hP 0 rfl rfl 2 (by decide) (hts _ (List.mem_cons_of_mem _ wd_824)) (fun _ h9 => h9) rfl d_Md_cornerBehind_22 ?_
    refine lv_icmp_ge (tgt := 103) hx hb d_Md_cornerBehind_25 (by decide) (fun c_1 => ?_) (fun c_1 => ?_)
    · rw [if_pos c_1] at hf
      refine lv_iload_n hx hb d_Md_cornerBehind_103 rfl (lv_at hl 2 rfl) ?_
      cases hf
      exact hret _ _ _ _ _ _ ⟨rfl, rfl⟩ hP hD hS d_Md_cornerBehind_104
    · rw [if_neg c_1] at hf
      refine lv_iload_n hx hb d_Md_cornerBehind_28 rfl (lv_at hl 3 rfl) ?_
      refine lv_iload_n hx hb d_Md_cornerBehind_29 rfl (lv_at hl 1 rfl) ?_
      refine lv_icmp_eq (tgt := 97) hx hb d_Md_cornerBehind_30 (by decide) (fun c_2 => ?_) (fun c_2 => ?_)
      · rw [if_pos c_2] at hf
        exact w_Md_cornerBehind_97 C0 hret   (f_Md_cornerBehind_20  n) ih x1 x2 x3 S H locs ls hP hD hS (lv_sub hl [0, 1, 2, 3] rfl) hf
      · rw [if_neg c_2] at hf
        refine lv_iload_n hx hb d_Md_cornerBehind_33 rfl (lv_at hl 3 rfl) ?_
        refine lv_iload_n hx hb d_Md_cornerBehind_34 rfl (lv_at hl 2 rfl) ?_
        refine lv_icmp_eq (tgt := 97) hx hb d_Md_cornerBehind_35 (by decide) (fun c_3 => ?_) (fun c_3 => ?_)
        · rw [if_pos c_3] at hf
          exact w_Md_cornerBehind_97 C0 hret   (f_Md_cornerBehind_20  n) ih x1 x2 x3 S H locs ls hP hD hS (lv_sub hl [0, 1, 2, 3] rfl) hf
        · rw [if_neg c_3] at hf
          refine lv_aload_n hx hb d_Md_cornerBehind_38 rfl (lv_at hl 0 rfl) ?_
          refine lv_iload_n hx hb d_Md_cornerBehind_39 rfl (lv_at hl 1 rfl) ?_
          refine lv_iload_n hx hb d_Md_cornerBehind_40 rfl (lv_at hl 2 rfl) ?_
          refine lv_iload_n hx hb d_Md_cornerBehind_41 rfl (lv_at hl 3 rfl) ?_
          obtain ⟨q_4, hq_4, hf⟩ := bd_some hf
          refine kc_i (va_runV (As := [.int x1, .int x2, .int x3]) (rest := []) ⟨hx, hb, hml, hown, hts⟩ (c_Md_sideOf l D cA cP ob ad x1 x2 x3  S hq_4 H.size) ⟨callB_of 3 hts (gd_Md_sideOf) rfl rfl rfl (hts _ (List.mem_cons_of_mem _ wd_72)) (hts _ (List.mem_cons_of_mem _ wd_961)) dd_Md_sideOf ⟨Nat.le_of_ble_eq_true rfl, Nat.le_of_ble_eq_true rfl⟩, (hts _ (List.mem_cons_of_mem _ wd_963)), (hts _ (List.mem_cons_of_mem _ wd_42))⟩ (kpV hK hP hD hN hZ hS 7 0 rfl rfl) rfl rfl hl.1 rfl (lv_room (Nat.le_of_ble_eq_true rfl)) d_Md_cornerBehind_42 ⟨Nat.le_of_ble_eq_true rfl, Nat.le_of_ble_eq_true rfl⟩) hP hD hS hA (fun r w H locs hw hP hD hS => ?_)
          obtain ⟨rfl, rfl⟩ := hw
          refine lv_istore (lv' := [(4, .int q_4.1), (0, .ref (ob 0)), (1, .int x1), (2, .int x2), (3, .int x3)]) hx hb d_Md_cornerBehind_45 hl (by decide) rfl (fun ls hl => ?_)
          refine lv_iload hx hb d_Md_cornerBehind_47 (lv_at hl 0 rfl) ?_
          refine lv_if_lt (tgt := 95) hx hb d_Md_cornerBehind_49 (by decide) (fun c_5 => ?_) (fun c_5 => ?_)
          · rw [if_pos c_5] at hf
            exact w_Md_cornerBehind_95 C0 hret   (f_Md_cornerBehind_20  n) ih x1 x3 q_4.2 H locs ls hP hD hS (lv_sub hl [1, 2, 4] rfl) hf
          · rw [if_neg c_5] at hf
            refine lv_iload hx hb d_Md_cornerBehind_52 (lv_at hl 0 rfl) ?_
            refine lv_if_ne (tgt := 97) hx hb d_Md_cornerBehind_54 (by decide) (fun c_6 => ?_) (fun c_6 => ?_)
            · rw [if_neg c_6] at hf
              exact w_Md_cornerBehind_97 C0 hret   (f_Md_cornerBehind_20  n) ih x1 x2 x3 q_4.2 H locs ls hP hD hS (lv_sub hl [1, 2, 3, 4] rfl) hf
            · rw [if_pos c_6] at hf
              refine lv_aload_n hx hb d_Md_cornerBehind_57 rfl (lv_at hl 1 rfl) ?_
              refine lv_iload_n hx hb d_Md_cornerBehind_58 rfl (lv_at hl 2 rfl) ?_
              refine lv_aload_n hx hb d_Md_cornerBehind_59 rfl (lv_at hl 1 rfl) ?_
              refine va_get (D := D) (ci := 7) (v := .ref (ob 1)) (C := R_Md) (T := F_Md) (N := 26) hx hb hts (fun w h => List.mem_cons_of_mem _ (in_Md w h)) hown hK hP 0 rfl rfl 3 (by decide) (hts _ (List.mem_cons_of_mem _ wd_825)) (fun _ h9 => h9) rfl d_Md_cornerBehind_60 ?_
              refine lv_iload_n hx hb d_Md_cornerBehind_63 rfl (lv_at hl 4 rfl) ?_
              obtain ⟨hi_7, hf⟩ := as_some hf
              refine va_iald hx hb hK hP 1 0 rfl rfl (inb_in hi_7) d_Md_cornerBehind_64 ?_
              refine lv_aload_n hx hb d_Md_cornerBehind_65 rfl (lv_at hl 1 rfl) ?_
              refine va_get (D := D) (ci := 7) (v := .ref (ob 2)) (C := R_Md) (T := F_Md) (N := 26) hx hb hts (fun w h => List.mem_cons_of_mem _ (in_Md w h)) hown hK hP 0 rfl rfl 4 (by decide) (hts _ (List.mem_cons_of_mem _ wd_826)) (fun _ h9 => h9) rfl d_Md_cornerBehind_66 ?_
              refine lv_iload_n hx hb d_Md_cornerBehind_69 rfl (lv_at hl 4 rfl) ?_
              obtain ⟨hi_8, hf⟩ := as_some hf
              refine va_iald hx hb hK hP 2 0 rfl rfl (inb_in hi_8) d_Md_cornerBehind_70 ?_
              obtain ⟨q_9, hq_9, hf⟩ := bd_some hf
              refine kc_l (va_runV (As := [.int x1, .int (ga q_4.2 1 (Int32.toNatClampNeg x3)), .int (ga q_4.2 2 (Int32.toNatClampNeg x3))]) (rest := []) ⟨hx, hb, hml, hown, hts⟩ (c_Md_apart l D cA cP ob ad x1 (ga q_4.2 1 (Int32.toNatClampNeg x3)) (ga q_4.2 2 (Int32.toNatClampNeg x3))  q_4.2 hq_9 H.size) ⟨callB_of 3 hts (gd_Md_apart) rfl rfl rfl (hts _ (List.mem_cons_of_mem _ wd_72)) (hts _ (List.mem_cons_of_mem _ wd_975)) dd_Md_apart ⟨Nat.le_of_ble_eq_true rfl, Nat.le_of_ble_eq_true rfl⟩, (hts _ (List.mem_cons_of_mem _ wd_977)), (hts _ (List.mem_cons_of_mem _ wd_44))⟩ (kpV hK hP hD hN hZ hS 7 0 rfl rfl) rfl rfl hl.1 rfl (lv_room (Nat.le_of_ble_eq_true rfl)) d_Md_cornerBehind_71 ⟨Nat.le_of_ble_eq_true rfl, Nat.le_of_ble_eq_true rfl⟩) hP hD hS hA (fun r w H locs hw hP hD hS => ?_)
              obtain ⟨rfl, rfl⟩ := hw
              refine lv_aload_n hx hb d_Md_cornerBehind_74 rfl (lv_at hl 1 rfl) ?_
              refine lv_iload_n hx hb d_Md_cornerBehind_75 rfl (lv_at hl 2 rfl) ?_
              refine lv_aload_n hx hb d_Md_cornerBehind_76 rfl (lv_at hl 1 rfl) ?_
              refine va_get (D := D) (ci := 7) (v := .ref (ob 1)) (C := R_Md) (T := F_Md) (N := 26) hx hb hts (fun w h => List.mem_cons_of_mem _ (in_Md w h)) hown hK hP 0 rfl rfl 3 (by decide) (hts _ (List.mem_cons_of_mem _ wd_825)) (fun _ h9 => h9) rfl d_Md_cornerBehind_77 ?_
              refine lv_iload_n hx hb d_Md_cornerBehind_80 rfl (lv_at hl 3 rfl) ?_
              obtain ⟨hi_10, hf⟩ := as_some hf
              refine va_iald hx hb hK hP 1 0 rfl rfl (inb_in hi_10) d_Md_cornerBehind_81 ?_
              refine lv_aload_n hx hb d_Md_cornerBehind_82 rfl (lv_at hl 1 rfl) ?_
              refine va_get (D := D) (ci := 7) (v := .ref (ob 2)) (C := R_Md) (T := F_Md) (N := 26) hx hb hts (fun w h => List.mem_cons_of_mem _ (in_Md w h)) hown hK hP 0 rfl rfl 4 (by decide) (hts _ (List.mem_cons_of_mem _ wd_826)) (fun _ h9 => h9) rfl d_Md_cornerBehind_83 ?_
              refine lv_iload_n hx hb d_Md_cornerBehind_86 rfl (lv_at hl 3 rfl) ?_
              obtain ⟨hi_11, hf⟩ := as_some hf
              refine va_iald hx hb hK hP 2 0 rfl rfl (inb_in hi_11) d_Md_cornerBehind_87 ?_
              obtain ⟨q_12, hq_12, hf⟩ := bd_some hf
              refine kc_l (va_runV (As := [.int x1, .int (ga q_9.2 1 (Int32.toNatClampNeg x2)), .int (ga q_9.2 2 (Int32.toNatClampNeg x2))]) (rest := [.long q_9.1]) ⟨hx, hb, hml, hown, hts⟩ (c_Md_apart l D cA cP ob ad x1 (ga q_9.2 1 (Int32.toNatClampNeg x2)) (ga q_9.2 2 (Int32.toNatClampNeg x2))  q_9.2 hq_12 H.size) ⟨callB_of 3 hts (gd_Md_apart) rfl rfl rfl (hts _ (List.mem_cons_of_mem _ wd_72)) (hts _ (List.mem_cons_of_mem _ wd_975)) dd_Md_apart ⟨Nat.le_of_ble_eq_true rfl, Nat.le_of_ble_eq_true rfl⟩, (hts _ (List.mem_cons_of_mem _ wd_977)), (hts _ (List.mem_cons_of_mem _ wd_44))⟩ (kpV hK hP hD hN hZ hS 7 0 rfl rfl) rfl rfl hl.1 rfl (lv_room (Nat.le_of_ble_eq_true rfl)) d_Md_cornerBehind_88 ⟨Nat.le_of_ble_eq_true rfl, Nat.le_of_ble_eq_true rfl⟩) hP hD hS hA (fun r w H locs hw hP hD hS => ?_)
              obtain ⟨rfl, rfl⟩ := hw
              refine W.lcmp hx hb d_Md_cornerBehind_91 ?_
              refine lv_if_le (tgt := 97) hx hb d_Md_cornerBehind_92 (by decide) (fun c_13 => ?_) (fun c_13 => ?_)
              · rw [if_pos c_13] at hf
                exact w_Md_cornerBehind_97 C0 hret   (f_Md_cornerBehind_20  n) ih x1 x2 x3 q_12.2 H locs ls hP hD hS (lv_sub hl [1, 2, 3, 4] rfl) hf
              · rw [if_neg c_13] at hf
                exact w_Md_cornerBehind_95 C0 hret   (f_Md_cornerBehind_20  n) ih x1 x3 q_12.2 H locs ls hP hD hS (lv_sub hl [1, 2, 4] rfl) hf
def f_Md_cornerBehind_17   (x1 : Int32) (t0 : Int32) (S : St) : Option (Int32 × St) :=
  f_Md_cornerBehind_20   FU x1 t0 0 S
set_option maxHeartbeats 4000000 in
set_option maxRecDepth 100000 in
theorem w_Md_cornerBehind_17 (C0 : CX p s m args c b_Md_cornerBehind 5 R_Md w_Md_cornerBehind D clC cA cP A) {res : (Int32 × St)} (hret : RTi p l e rm_Md_cornerBehind s m args below meth c Q D clC A b_Md_cornerBehind 0 0 (fun r w => r = res.1 ∧ w = mw cA cP ob ad res.2))    : ∀ (x1 : Int32) (t0 : Int32) (S : St) (H : Heap) (locs : List Loc) (ls : Array Slot), va_P D clC (mw cA cP ob ad S) H → va_D A (mw cA cP ob ad S) → va_S A s.heap H locs → lv_has ls 5 [(0, .ref (ob 0)), (1, .int x1)] → f_Md_cornerBehind_17   x1 t0 S = some res → W p l e rm_Md_cornerBehind s m args below meth c H locs 0 0 Q (F0 m 17 ls [.int t0]) := by
  obtain ⟨hx, hb, hml, hown, hts, hK, hA, hN, hZ⟩ := id C0
  intro x1 t0 S H locs ls hP hD hS hl hf
  rw [f_Md_cornerBehind_17] at hf
  refine lv_istore_n (lv' := [(2, .int t0), (0, .ref (ob 0)), (1, .int x1)]) hx hb d_Md_cornerBehind_17 rfl hl (by decide) rfl (fun ls hl => ?_)
  refine lv_iconst (v := 0) hx hb d_Md_cornerBehind_18 (by decide) ?_
  refine lv_istore_n (lv' := [(3, .int 0), (2, .int t0), (0, .ref (ob 0)), (1, .int x1)]) hx hb d_Md_cornerBehind_19 rfl hl (by decide) rfl (fun ls hl => ?_)
  exact w_Md_cornerBehind_20 C0 hret    FU x1 t0 0 S H locs ls hP hD hS (lv_sub hl [2, 3, 1, 0] rfl) hf
def f_Md_cornerBehind_16   (x1 : Int32) (S : St) : Option (Int32 × St) :=
  f_Md_cornerBehind_17   x1 0 S
set_option maxHeartbeats 4000000 in
set_option maxRecDepth 100000 in
theorem w_Md_cornerBehind_16 (C0 : CX p s m args c b_Md_cornerBehind 5 R_Md w_Md_cornerBehind D clC cA cP A) {res : (Int32 × St)} (hret : RTi p l e rm_Md_cornerBehind s m args below meth c Q D clC A b_Md_cornerBehind 0 0 (fun r w => r = res.1 ∧ w = mw cA cP ob ad res.2))    : ∀ (x1 : Int32) (S : St) (H : Heap) (locs : List Loc) (ls : Array Slot), va_P D clC (mw cA cP ob ad S) H → va_D A (mw cA cP ob ad S) → va_S A s.heap H locs → lv_has ls 5 [(0, .ref (ob 0)), (1, .int x1)] → f_Md_cornerBehind_16   x1 S = some res → W p l e rm_Md_cornerBehind s m args below meth c H locs 0 0 Q (F0 m 16 ls []) := by
  obtain ⟨hx, hb, hml, hown, hts, hK, hA, hN, hZ⟩ := id C0
  intro x1 S H locs ls hP hD hS hl hf
  rw [f_Md_cornerBehind_16] at hf
  refine lv_iconst (v := 0) hx hb d_Md_cornerBehind_16 (by decide) ?_
  exact w_Md_cornerBehind_17 C0 hret    x1 0 S H locs ls hP hD hS (lv_sub hl [0, 1] rfl) hf
def f_Md_cornerBehind_0   (x1 : Int32) (S : St) : Option (Int32 × St) :=
  (if x1 = 0 then
    (if (gi S 2) ≤ 1 then
      f_Md_cornerBehind_16   x1 S
      else
      f_Md_cornerBehind_17   x1 1 S)
    else
    f_Md_cornerBehind_16   x1 S)
set_option maxHeartbeats 4000000 in
set_option maxRecDepth 100000 in
theorem w_Md_cornerBehind_0 (C0 : CX p s m args c b_Md_cornerBehind 5 R_Md w_Md_cornerBehind D clC cA cP A) {res : (Int32 × St)} (hret : RTi p l e rm_Md_cornerBehind s m args below meth c Q D clC A b_Md_cornerBehind 0 0 (fun r w => r = res.1 ∧ w = mw cA cP ob ad res.2))    : ∀ (x1 : Int32) (S : St) (H : Heap) (locs : List Loc) (ls : Array Slot), va_P D clC (mw cA cP ob ad S) H → va_D A (mw cA cP ob ad S) → va_S A s.heap H locs → lv_has ls 5 [(0, .ref (ob 0)), (1, .int x1)] → f_Md_cornerBehind_0   x1 S = some res → W p l e rm_Md_cornerBehind s m args below meth c H locs 0 0 Q (F0 m 0 ls []) := by
  obtain ⟨hx, hb, hml, hown, hts, hK, hA, hN, hZ⟩ := id C0
  intro x1 S H locs ls hP hD hS hl hf
  rw [f_Md_cornerBehind_0] at hf
  refine lv_iload_n hx hb d_Md_cornerBehind_0 rfl (lv_at hl 1 rfl) ?_
  refine lv_if_ne (tgt := 16) hx hb d_Md_cornerBehind_1 (by decide) (fun c_1 => ?_) (fun c_1 => ?_)
  · rw [if_neg c_1] at hf
    exact w_Md_cornerBehind_16 C0 hret    x1 S H locs ls hP hD hS (lv_sub hl [0, 1] rfl) hf
  · rw [if_pos c_1] at hf
    refine lv_aload_n hx hb d_Md_cornerBehind_4 rfl (lv_at hl 0 rfl) ?_
    refine va_get (D := D) (ci := 7) (v := .int (gi S 2)) (C := R_Md) (T := F_Md) (N := 26) hx hb hts (fun w h => List.mem_cons_of_mem _ (in_Md w h)) hown hK hP 0 rfl rfl 2 (by decide) (hts _ (List.mem_cons_of_mem _ wd_824)) (fun _ h9 => h9) rfl d_Md_cornerBehind_5 ?_
    refine lv_iconst (v := 1) hx hb d_Md_cornerBehind_8 (by decide) ?_
    refine lv_icmp_le (tgt := 16) hx hb d_Md_cornerBehind_9 (by decide) (fun c_2 => ?_) (fun c_2 => ?_)
    · rw [if_pos c_2] at hf
      exact w_Md_cornerBehind_16 C0 hret    x1 S H locs ls hP hD hS (lv_sub hl [0, 1] rfl) hf
    · rw [if_neg c_2] at hf
      refine lv_iconst (v := 1) hx hb d_Md_cornerBehind_12 (by decide) ?_
      refine lv_goto (tgt := 17) hx hb d_Md_cornerBehind_13 (by decide) ?_
      exact w_Md_cornerBehind_17 C0 hret    x1 1 S H locs ls hP hD hS (lv_sub hl [0, 1] rfl) hf
def f_Md_cornerBehind (x1 : Int32) (S : St) : Option (Int32 × St) := f_Md_cornerBehind_0  x1 S
theorem c_Md_cornerBehind (l : Launch) (D : va_G) (cA cP : ClassId) (ob : Nat → Nat) (ad : Nat → Nat → Nat) (x1 : Int32)  (S : St) {res : (Int32 × St)} (hf : f_Md_cornerBehind x1 S = some res) : CTi l y_Md_cornerBehind w_Md_cornerBehind rm_Md_cornerBehind 0 0 D clC (TY cA cP) [.ref (ob 0), .int x1] (mw cA cP ob ad S) (fun r w => r = res.1 ∧ w = mw cA cP ob ad res.2) :=
  mk_i (cc := b_Md_cornerBehind) (maxL := 5) (own := R_Md) (by decide) rfl rfl (Nat.le_of_ble_eq_true rfl) (fun p e s m below meth c A Q C0 hret ls hl hP hD hS => w_Md_cornerBehind_0 C0 hret   x1 S _ _ ls hP hD hS (lv_sub hl [0, 1] rfl) hf)
def f_Md_findCorners_62  (k22 : Int32 → Int32 → Int32 → St → Option St) (x1 : Int32) (x2 : Int32) (t0 : Int32) (S : St) : Option St :=
  k22 x1 x2 t0 S
set_option maxHeartbeats 4000000 in
set_option maxRecDepth 100000 in
theorem w_Md_findCorners_62 (C0 : CX p s m args c b_Md_findCorners 4 R_Md w_Md_findCorners D clC cA cP A) {res : St} (hret : RTv p l e rm_Md_findCorners s m args below meth c Q D clC A b_Md_findCorners 0 0 (fun w => w = mw cA cP ob ad res))   (k22 : Int32 → Int32 → Int32 → St → Option St) (hk22 : ∀ (x1 : Int32) (x2 : Int32) (x3 : Int32) (S : St) (H : Heap) (locs : List Loc) (ls : Array Slot), va_P D clC (mw cA cP ob ad S) H → va_D A (mw cA cP ob ad S) → va_S A s.heap H locs → lv_has ls 4 [(0, .ref (ob 0)), (1, .int x1), (2, .int x2), (3, .int x3)] → k22 x1 x2 x3 S = some res → W p l e rm_Md_findCorners s m args below meth c H locs 0 0 Q (F0 m 22 ls [])) : ∀ (x1 : Int32) (x2 : Int32) (t0 : Int32) (S : St) (H : Heap) (locs : List Loc) (ls : Array Slot), va_P D clC (mw cA cP ob ad S) H → va_D A (mw cA cP ob ad S) → va_S A s.heap H locs → lv_has ls 4 [(0, .ref (ob 0)), (1, .int x1), (2, .int x2)] → f_Md_findCorners_62  k22 x1 x2 t0 S = some res → W p l e rm_Md_findCorners s m args below meth c H locs 0 0 Q (F0 m 62 ls [.int t0]) := by
  obtain ⟨hx, hb, hml, hown, hts, hK, hA, hN, hZ⟩ := id C0
  intro x1 x2 t0 S H locs ls hP hD hS hl hf
  rw [f_Md_findCorners_62] at hf
  refine lv_istore_n (lv' := [(3, .int t0), (0, .ref (ob 0)), (1, .int x1), (2, .int x2)]) hx hb d_Md_findCorners_62 rfl hl (by decide) rfl (fun ls hl => ?_)
  refine lv_goto (tgt := 22) hx hb d_Md_findCorners_63 (by decide) ?_
  exact hk22 x1 x2 t0 S H locs ls hP hD hS (lv_sub hl [1, 2, 3, 0] rfl) hf
def f_Md_findCorners_22   : Nat → Int32 → Int32 → Int32 → St → Option St
  | 0 => fun _ _ _ _ => none
  | n + 1 => fun x1 x2 x3 S => (if x3 = 0 then
      some S
      else
      as_ (inb (gi S 5) (gn S 6)) (bn (seta S 6 (upd (ga S 6) (Int32.toNatClampNeg (gi S 5)) x2)) (fun S_3 => bn (seti S_3 5 ((gi S_3 5) + 1)) (fun S_4 => bd (f_Md_cornerBehind x2 S_4) (fun q_5 => (if q_5.1 = x1 then
        f_Md_findCorners_62  (f_Md_findCorners_22  n) x1 q_5.1 0 q_5.2
        else
        f_Md_findCorners_62  (f_Md_findCorners_22  n) x1 q_5.1 1 q_5.2))))))
set_option maxHeartbeats 4000000 in
set_option maxRecDepth 100000 in
theorem w_Md_findCorners_22 (C0 : CX p s m args c b_Md_findCorners 4 R_Md w_Md_findCorners D clC cA cP A) {res : St} (hret : RTv p l e rm_Md_findCorners s m args below meth c Q D clC A b_Md_findCorners 0 0 (fun w => w = mw cA cP ob ad res))    : ∀ (n : Nat) (x1 : Int32) (x2 : Int32) (x3 : Int32) (S : St) (H : Heap) (locs : List Loc) (ls : Array Slot), va_P D clC (mw cA cP ob ad S) H → va_D A (mw cA cP ob ad S) → va_S A s.heap H locs → lv_has ls 4 [(0, .ref (ob 0)), (1, .int x1), (2, .int x2), (3, .int x3)] → f_Md_findCorners_22   n x1 x2 x3 S = some res → W p l e rm_Md_findCorners s m args below meth c H locs 0 0 Q (F0 m 22 ls []) := by
  obtain ⟨hx, hb, hml, hown, hts, hK, hA, hN, hZ⟩ := id C0
  intro n
  induction n with
  | zero =>
    intro x1 x2 x3 S H locs ls hP hD hS hl hf
    cases hf
  | succ n ih =>
    intro x1 x2 x3 S H locs ls hP hD hS hl hf
    rw [f_Md_findCorners_22] at hf
    try dsimp only at hf
    refine lv_iload_n hx hb d_Md_findCorners_22 rfl (lv_at hl 3 rfl) ?_
    refine lv_if_eq (tgt := 66) hx hb d_Md_findCorners_23 (by decide) (fun c_1 => ?_) (fun c_1 => ?_)
    · rw [if_pos c_1] at hf
      cases hf
      exact hret _ _ _ _ _ rfl hP hD hS d_Md_findCorners_66
    · rw [if_neg c_1] at hf
      refine lv_aload_n hx hb d_Md_findCorners_26 rfl (lv_at hl 0 rfl) ?_
      refine va_get (D := D) (ci := 7) (v := .ref (ob 6)) (C := R_Md) (T := F_Md) (N := 26) hx hb hts (fun w h => List.mem_cons_of_mem _ (in_Md w h)) hown hK hP 0 rfl rfl 11 (by decide) (hts _ (List.mem_cons_of_mem _ wd_833)) (fun _ h9 => h9) rfl d_Md_findCorners_27 ?_
      refine lv_aload_n hx hb d_Md_findCorners_30 rfl (lv_at hl 0 rfl) ?_
      refine va_get (D := D) (ci := 7) (v := .int (gi S 5)) (C := R_Md) (T := F_Md) (N := 26) hx hb hts (fun w h => List.mem_cons_of_mem _ (in_Md w h)) hown hK hP 0 rfl rfl 10 (by decide) (hts _ (List.mem_cons_of_mem _ wd_832)) (fun _ h9 => h9) rfl d_Md_findCorners_31 ?_
      refine lv_iload_n hx hb d_Md_findCorners_34 rfl (lv_at hl 2 rfl) ?_
      obtain ⟨hi_2, hf⟩ := as_some hf
      obtain ⟨S_3, eS_3, hf⟩ := bn_some hf
      refine va_iast hx hb hK hP hD hS 6 0 rfl rfl (inb_in hi_2) d_Md_findCorners_35 (fun H locs hP hD hS => ?_)
      have hP : va_P D clC (mw cA cP ob ad S_3) H := by rw [eS_3]; exact hP
      have hD : va_D A (mw cA cP ob ad S_3) := by rw [eS_3]; exact hD
      refine lv_aload_n hx hb d_Md_findCorners_36 rfl (lv_at hl 0 rfl) ?_
      refine lv_dup hx hb d_Md_findCorners_37 rfl ?_
      refine va_get (D := D) (ci := 7) (v := .int (gi S_3 5)) (C := R_Md) (T := F_Md) (N := 26) hx hb hts (fun w h => List.mem_cons_of_mem _ (in_Md w h)) hown hK hP 0 rfl rfl 10 (by decide) (hts _ (List.mem_cons_of_mem _ wd_832)) (fun _ h9 => h9) rfl d_Md_findCorners_38 ?_
      refine lv_iconst (v := 1) hx hb d_Md_findCorners_41 (by decide) ?_
      refine lv_iadd hx hb d_Md_findCorners_42 ?_
      obtain ⟨S_4, eS_4, hf⟩ := bn_some hf
      refine va_put (D := D) (ci := 7) (v := .int ((gi S_3 5) + 1)) (ty := .int) (C := R_Md) (T := F_Md) (N := 26) hx hb hts (fun w h => List.mem_cons_of_mem _ (in_Md w h)) t_Md tk_Md nk_Md hown hK hP hD hS 0 rfl rfl 10 (by decide) (hts _ (List.mem_cons_of_mem _ wd_832)) (fun _ h9 => h9) rfl (by decide +kernel) rfl rfl (Nat.le_of_ble_eq_true rfl) d_Md_findCorners_43 (fun H locs hP hD hS => ?_)
      have hP : va_P D clC (mw cA cP ob ad S_4) H := by rw [eS_4]; exact hP
      have hD : va_D A (mw cA cP ob ad S_4) := by rw [eS_4]; exact hD
      refine lv_aload_n hx hb d_Md_findCorners_46 rfl (lv_at hl 0 rfl) ?_
      refine lv_iload_n hx hb d_Md_findCorners_47 rfl (lv_at hl 2 rfl) ?_
      obtain ⟨q_5, hq_5, hf⟩ := bd_some hf
      refine kc_i (va_runV (As := [.int x2]) (rest := []) ⟨hx, hb, hml, hown, hts⟩ (c_Md_cornerBehind l D cA cP ob ad x2  S_4 hq_5 H.size) ⟨callB_of 1 hts (gd_Md_cornerBehind) rfl rfl rfl (hts _ (List.mem_cons_of_mem _ wd_72)) (hts _ (List.mem_cons_of_mem _ wd_957)) dd_Md_cornerBehind ⟨Nat.le_of_ble_eq_true rfl, Nat.le_of_ble_eq_true rfl⟩, (hts _ (List.mem_cons_of_mem _ wd_959)), (hts _ (List.mem_cons_of_mem _ wd_41))⟩ (kpV hK hP hD hN hZ hS 7 0 rfl rfl) rfl rfl hl.1 rfl (lv_room (Nat.le_of_ble_eq_true rfl)) d_Md_findCorners_48 ⟨Nat.le_of_ble_eq_true rfl, Nat.le_of_ble_eq_true rfl⟩) hP hD hS hA (fun r w H locs hw hP hD hS => ?_)
      obtain ⟨rfl, rfl⟩ := hw
      refine lv_istore_n (lv' := [(2, .int q_5.1), (0, .ref (ob 0)), (1, .int x1), (3, .int x3)]) hx hb d_Md_findCorners_51 rfl hl (by decide) rfl (fun ls hl => ?_)
      refine lv_iload_n hx hb d_Md_findCorners_52 rfl (lv_at hl 0 rfl) ?_
      refine lv_iload_n hx hb d_Md_findCorners_53 rfl (lv_at hl 2 rfl) ?_
      refine lv_icmp_eq (tgt := 61) hx hb d_Md_findCorners_54 (by decide) (fun c_6 => ?_) (fun c_6 => ?_)
      · rw [if_pos c_6] at hf
        refine lv_iconst (v := 0) hx hb d_Md_findCorners_61 (by decide) ?_
        exact w_Md_findCorners_62 C0 hret   (f_Md_findCorners_22  n) ih x1 q_5.1 0 q_5.2 H locs ls hP hD hS (lv_sub hl [1, 2, 0] rfl) hf
      · rw [if_neg c_6] at hf
        refine lv_iconst (v := 1) hx hb d_Md_findCorners_57 (by decide) ?_
        refine lv_goto (tgt := 62) hx hb d_Md_findCorners_58 (by decide) ?_
        exact w_Md_findCorners_62 C0 hret   (f_Md_findCorners_22  n) ih x1 q_5.1 1 q_5.2 H locs ls hP hD hS (lv_sub hl [1, 2, 0] rfl) hf
def f_Md_findCorners_0    (S : St) : Option St :=
  bn (seti S 5 0) (fun S_1 => (if (gi S_1 2) = 0 then
    some S_1
    else
    bd (f_Md_least  S_1) (fun q_3 => f_Md_findCorners_22   FU q_3.1 q_3.1 1 q_3.2)))
set_option maxHeartbeats 4000000 in
set_option maxRecDepth 100000 in
theorem w_Md_findCorners_0 (C0 : CX p s m args c b_Md_findCorners 4 R_Md w_Md_findCorners D clC cA cP A) {res : St} (hret : RTv p l e rm_Md_findCorners s m args below meth c Q D clC A b_Md_findCorners 0 0 (fun w => w = mw cA cP ob ad res))    : ∀  (S : St) (H : Heap) (locs : List Loc) (ls : Array Slot), va_P D clC (mw cA cP ob ad S) H → va_D A (mw cA cP ob ad S) → va_S A s.heap H locs → lv_has ls 4 [(0, .ref (ob 0))] → f_Md_findCorners_0    S = some res → W p l e rm_Md_findCorners s m args below meth c H locs 0 0 Q (F0 m 0 ls []) := by
  obtain ⟨hx, hb, hml, hown, hts, hK, hA, hN, hZ⟩ := id C0
  intro  S H locs ls hP hD hS hl hf
  rw [f_Md_findCorners_0] at hf
  refine lv_aload_n hx hb d_Md_findCorners_0 rfl (lv_at hl 0 rfl) ?_
  refine lv_iconst (v := 0) hx hb d_Md_findCorners_1 (by decide) ?_
  obtain ⟨S_1, eS_1, hf⟩ := bn_some hf
  refine va_put (D := D) (ci := 7) (v := .int 0) (ty := .int) (C := R_Md) (T := F_Md) (N := 26) hx hb hts (fun w h => List.mem_cons_of_mem _ (in_Md w h)) t_Md tk_Md nk_Md hown hK hP hD hS 0 rfl rfl 10 (by decide) (hts _ (List.mem_cons_of_mem _ wd_832)) (fun _ h9 => h9) rfl (by decide +kernel) rfl rfl (Nat.le_of_ble_eq_true rfl) d_Md_findCorners_2 (fun H locs hP hD hS => ?_)
  have hP : va_P D clC (mw cA cP ob ad S_1) H := by rw [eS_1]; exact hP
  have hD : va_D A (mw cA cP ob ad S_1) := by rw [eS_1]; exact hD
  refine lv_aload_n hx hb d_Md_findCorners_5 rfl (lv_at hl 0 rfl) ?_
  refine va_get (D := D) (ci := 7) (v := .int (gi S_1 2)) (C := R_Md) (T := F_Md) (N := 26) hx hb hts (fun w h => List.mem_cons_of_mem _ (in_Md w h)) hown hK hP 0 rfl rfl 2 (by decide) (hts _ (List.mem_cons_of_mem _ wd_824)) (fun _ h9 => h9) rfl d_Md_findCorners_6 ?_
  refine lv_if_ne (tgt := 13) hx hb d_Md_findCorners_9 (by decide) (fun c_2 => ?_) (fun c_2 => ?_)
  · rw [if_neg c_2] at hf
    refine lv_aload_n hx hb d_Md_findCorners_13 rfl (lv_at hl 0 rfl) ?_
    obtain ⟨q_3, hq_3, hf⟩ := bd_some hf
    refine kc_i (va_runV (As := []) (rest := []) ⟨hx, hb, hml, hown, hts⟩ (c_Md_least l D cA cP ob ad   S_1 hq_3 H.size) ⟨callB_of 0 hts (gd_Md_least) rfl rfl rfl (hts _ (List.mem_cons_of_mem _ wd_72)) (hts _ (List.mem_cons_of_mem _ wd_949)) dd_Md_least ⟨Nat.le_of_ble_eq_true rfl, Nat.le_of_ble_eq_true rfl⟩, (hts _ (List.mem_cons_of_mem _ wd_951)), (hts _ (List.mem_cons_of_mem _ wd_39))⟩ (kpV hK hP hD hN hZ hS 7 0 rfl rfl) rfl rfl hl.1 rfl (lv_room (Nat.le_of_ble_eq_true rfl)) d_Md_findCorners_14 ⟨Nat.le_of_ble_eq_true rfl, Nat.le_of_ble_eq_true rfl⟩) hP hD hS hA (fun r w H locs hw hP hD hS => ?_)
    obtain ⟨rfl, rfl⟩ := hw
    refine lv_istore_n (lv' := [(1, .int q_3.1), (0, .ref (ob 0))]) hx hb d_Md_findCorners_17 rfl hl (by decide) rfl (fun ls hl => ?_)
    refine lv_iload_n hx hb d_Md_findCorners_18 rfl (lv_at hl 0 rfl) ?_
    refine lv_istore_n (lv' := [(2, .int q_3.1), (1, .int q_3.1), (0, .ref (ob 0))]) hx hb d_Md_findCorners_19 rfl hl (by decide) rfl (fun ls hl => ?_)
    refine lv_iconst (v := 1) hx hb d_Md_findCorners_20 (by decide) ?_
    refine lv_istore_n (lv' := [(3, .int 1), (2, .int q_3.1), (1, .int q_3.1), (0, .ref (ob 0))]) hx hb d_Md_findCorners_21 rfl hl (by decide) rfl (fun ls hl => ?_)
    exact w_Md_findCorners_22 C0 hret    FU q_3.1 q_3.1 1 q_3.2 H locs ls hP hD hS (lv_sub hl [3, 2, 1, 0] rfl) hf
  · rw [if_pos c_2] at hf
    cases hf
    exact hret _ _ _ _ _ rfl hP hD hS d_Md_findCorners_12
def f_Md_findCorners  (S : St) : Option St := f_Md_findCorners_0   S
theorem c_Md_findCorners (l : Launch) (D : va_G) (cA cP : ClassId) (ob : Nat → Nat) (ad : Nat → Nat → Nat)   (S : St) {res : St} (hf : f_Md_findCorners  S = some res) : CTv l y_Md_findCorners w_Md_findCorners rm_Md_findCorners 0 0 D clC (TY cA cP) [.ref (ob 0)] (mw cA cP ob ad S) (fun w => w = mw cA cP ob ad res) :=
  mk_v (cc := b_Md_findCorners) (maxL := 4) (own := R_Md) (by decide) rfl rfl (Nat.le_of_ble_eq_true rfl) (fun p e s m below meth c A Q C0 hret ls hl hP hD hS => w_Md_findCorners_0 C0 hret    S _ _ ls hP hD hS (lv_sub hl [0] rfl) hf)
def f_Md_isCelled_31  (k4 : Int32 → Int32 → Int32 → St → Option (Int32 × St)) (x1 : Int32) (x3 : Int32) (t0 : Int32) (S : St) : Option (Int32 × St) :=
  bn (x3 + 1) (fun x3_1 => k4 x1 t0 x3_1 S)
set_option maxHeartbeats 4000000 in
set_option maxRecDepth 100000 in
theorem w_Md_isCelled_31 (C0 : CX p s m args c b_Md_isCelled 4 R_Md w_Md_isCelled D clC cA cP A) {res : (Int32 × St)} (hret : RTz p l e rm_Md_isCelled s m args below meth c Q D clC A b_Md_isCelled 0 0 (fun r w => r = res.1 ∧ w = mw cA cP ob ad res.2))   (k4 : Int32 → Int32 → Int32 → St → Option (Int32 × St)) (hk4 : ∀ (x1 : Int32) (x2 : Int32) (x3 : Int32) (S : St) (H : Heap) (locs : List Loc) (ls : Array Slot), va_P D clC (mw cA cP ob ad S) H → va_D A (mw cA cP ob ad S) → va_S A s.heap H locs → lv_has ls 4 [(0, .ref (ob 0)), (1, .int x1), (2, .int x2), (3, .int x3)] → k4 x1 x2 x3 S = some res → W p l e rm_Md_isCelled s m args below meth c H locs 0 0 Q (F0 m 4 ls [])) : ∀ (x1 : Int32) (x3 : Int32) (t0 : Int32) (S : St) (H : Heap) (locs : List Loc) (ls : Array Slot), va_P D clC (mw cA cP ob ad S) H → va_D A (mw cA cP ob ad S) → va_S A s.heap H locs → lv_has ls 4 [(0, .ref (ob 0)), (1, .int x1), (3, .int x3)] → f_Md_isCelled_31  k4 x1 x3 t0 S = some res → W p l e rm_Md_isCelled s m args below meth c H locs 0 0 Q (F0 m 31 ls [.int t0]) := by
  obtain ⟨hx, hb, hml, hown, hts, hK, hA, hN, hZ⟩ := id C0
  intro x1 x3 t0 S H locs ls hP hD hS hl hf
  rw [f_Md_isCelled_31] at hf
  refine lv_istore_n (lv' := [(2, .int t0), (0, .ref (ob 0)), (1, .int x1), (3, .int x3)]) hx hb d_Md_isCelled_31 rfl hl (by decide) rfl (fun ls hl => ?_)
  obtain ⟨x3_1, ex3_1, hf⟩ := bn_some hf
  refine lv_iinc (v := x3_1) (lv' := [(3, .int x3_1), (2, .int t0), (0, .ref (ob 0)), (1, .int x1)]) hx hb d_Md_isCelled_32 hl (k := 3) rfl (by rw [ex3_1]; rfl) (by decide) rfl (fun ls hl => ?_)
  refine lv_goto (tgt := 4) hx hb d_Md_isCelled_35 (by decide) ?_
  exact hk4 x1 t0 x3_1 S H locs ls hP hD hS (lv_sub hl [2, 3, 1, 0] rfl) hf
def f_Md_isCelled_26  (k4 : Int32 → Int32 → Int32 → St → Option (Int32 × St)) (x1 : Int32) (x3 : Int32) (S : St) : Option (Int32 × St) :=
  f_Md_isCelled_31  k4 x1 x3 1 S
set_option maxHeartbeats 4000000 in
set_option maxRecDepth 100000 in
theorem w_Md_isCelled_26 (C0 : CX p s m args c b_Md_isCelled 4 R_Md w_Md_isCelled D clC cA cP A) {res : (Int32 × St)} (hret : RTz p l e rm_Md_isCelled s m args below meth c Q D clC A b_Md_isCelled 0 0 (fun r w => r = res.1 ∧ w = mw cA cP ob ad res.2))   (k4 : Int32 → Int32 → Int32 → St → Option (Int32 × St)) (hk4 : ∀ (x1 : Int32) (x2 : Int32) (x3 : Int32) (S : St) (H : Heap) (locs : List Loc) (ls : Array Slot), va_P D clC (mw cA cP ob ad S) H → va_D A (mw cA cP ob ad S) → va_S A s.heap H locs → lv_has ls 4 [(0, .ref (ob 0)), (1, .int x1), (2, .int x2), (3, .int x3)] → k4 x1 x2 x3 S = some res → W p l e rm_Md_isCelled s m args below meth c H locs 0 0 Q (F0 m 4 ls [])) : ∀ (x1 : Int32) (x3 : Int32) (S : St) (H : Heap) (locs : List Loc) (ls : Array Slot), va_P D clC (mw cA cP ob ad S) H → va_D A (mw cA cP ob ad S) → va_S A s.heap H locs → lv_has ls 4 [(0, .ref (ob 0)), (1, .int x1), (3, .int x3)] → f_Md_isCelled_26  k4 x1 x3 S = some res → W p l e rm_Md_isCelled s m args below meth c H locs 0 0 Q (F0 m 26 ls []) := by
  obtain ⟨hx, hb, hml, hown, hts, hK, hA, hN, hZ⟩ := id C0
  intro x1 x3 S H locs ls hP hD hS hl hf
  rw [f_Md_isCelled_26] at hf
  refine lv_iconst (v := 1) hx hb d_Md_isCelled_26 (by decide) ?_
  refine lv_goto (tgt := 31) hx hb d_Md_isCelled_27 (by decide) ?_
  exact w_Md_isCelled_31 C0 hret   k4 hk4 x1 x3 1 S H locs ls hP hD hS (lv_sub hl [0, 1, 2] rfl) hf
def f_Md_isCelled_4   : Nat → Int32 → Int32 → Int32 → St → Option (Int32 × St)
  | 0 => fun _ _ _ _ => none
  | n + 1 => fun x1 x2 x3 S => (if (gi S 8) ≤ x3 then
      as_ (isb x2) (some (x2, S))
      else
      (if x2 = 0 then
        as_ (inb x3 (gn S 9)) ((if (ga S 9 (Int32.toNatClampNeg x3)) = x1 then
          f_Md_isCelled_26  (f_Md_isCelled_4  n) x1 x3 S
          else
          f_Md_isCelled_31  (f_Md_isCelled_4  n) x1 x3 0 S))
        else
        f_Md_isCelled_26  (f_Md_isCelled_4  n) x1 x3 S))
set_option maxHeartbeats 4000000 in
set_option maxRecDepth 100000 in
theorem w_Md_isCelled_4 (C0 : CX p s m args c b_Md_isCelled 4 R_Md w_Md_isCelled D clC cA cP A) {res : (Int32 × St)} (hret : RTz p l e rm_Md_isCelled s m args below meth c Q D clC A b_Md_isCelled 0 0 (fun r w => r = res.1 ∧ w = mw cA cP ob ad res.2))    : ∀ (n : Nat) (x1 : Int32) (x2 : Int32) (x3 : Int32) (S : St) (H : Heap) (locs : List Loc) (ls : Array Slot), va_P D clC (mw cA cP ob ad S) H → va_D A (mw cA cP ob ad S) → va_S A s.heap H locs → lv_has ls 4 [(0, .ref (ob 0)), (1, .int x1), (2, .int x2), (3, .int x3)] → f_Md_isCelled_4   n x1 x2 x3 S = some res → W p l e rm_Md_isCelled s m args below meth c H locs 0 0 Q (F0 m 4 ls []) := by
  obtain ⟨hx, hb, hml, hown, hts, hK, hA, hN, hZ⟩ := id C0
  intro n
  induction n with
  | zero =>
    intro x1 x2 x3 S H locs ls hP hD hS hl hf
    cases hf
  | succ n ih =>
    intro x1 x2 x3 S H locs ls hP hD hS hl hf
    rw [f_Md_isCelled_4] at hf
    try dsimp only at hf
    refine lv_iload_n hx hb d_Md_isCelled_4 rfl (lv_at hl 3 rfl) ?_
    refine lv_aload_n hx hb d_Md_isCelled_5 rfl (lv_at hl 0 rfl) ?_
    refine va_get (D := D) (ci := 7) (v := .int (gi S 8)) (C := R_Md) (T := F_Md) (N := 26) hx hb hts (fun w h => List.mem_cons_of_mem _ (in_Md w h)) hown hK hP 0 rfl rfl 16 (by decide) (hts _ (List.mem_cons_of_mem _ wd_838)) (fun _ h9 => h9) rfl d_Md_isCelled_6 ?_
    refine lv_icmp_ge (tgt := 38) hx hb d_Md_isCelled_9 (by decide) (fun c_1 => ?_) (fun c_1 => ?_)
    · rw [if_pos c_1] at hf
      refine lv_iload_n hx hb d_Md_isCelled_38 rfl (lv_at hl 2 rfl) ?_
      obtain ⟨hb_2, hf⟩ := as_some hf
      cases hf
      exact hret _ _ _ _ _ _ ⟨rfl, rfl⟩ (nb_of hb_2) hP hD hS d_Md_isCelled_39
    · rw [if_neg c_1] at hf
      refine lv_iload_n hx hb d_Md_isCelled_12 rfl (lv_at hl 2 rfl) ?_
      refine lv_if_ne (tgt := 26) hx hb d_Md_isCelled_13 (by decide) (fun c_3 => ?_) (fun c_3 => ?_)
      · rw [if_neg c_3] at hf
        exact w_Md_isCelled_26 C0 hret   (f_Md_isCelled_4  n) ih x1 x3 S H locs ls hP hD hS (lv_sub hl [0, 1, 3] rfl) hf
      · rw [if_pos c_3] at hf
        refine lv_aload_n hx hb d_Md_isCelled_16 rfl (lv_at hl 0 rfl) ?_
        refine va_get (D := D) (ci := 7) (v := .ref (ob 9)) (C := R_Md) (T := F_Md) (N := 26) hx hb hts (fun w h => List.mem_cons_of_mem _ (in_Md w h)) hown hK hP 0 rfl rfl 17 (by decide) (hts _ (List.mem_cons_of_mem _ wd_839)) (fun _ h9 => h9) rfl d_Md_isCelled_17 ?_
        refine lv_iload_n hx hb d_Md_isCelled_20 rfl (lv_at hl 3 rfl) ?_
        obtain ⟨hi_4, hf⟩ := as_some hf
        refine va_iald hx hb hK hP 9 0 rfl rfl (inb_in hi_4) d_Md_isCelled_21 ?_
        refine lv_iload_n hx hb d_Md_isCelled_22 rfl (lv_at hl 1 rfl) ?_
        refine lv_icmp_ne (tgt := 30) hx hb d_Md_isCelled_23 (by decide) (fun c_5 => ?_) (fun c_5 => ?_)
        · rw [if_neg c_5] at hf
          refine lv_iconst (v := 0) hx hb d_Md_isCelled_30 (by decide) ?_
          exact w_Md_isCelled_31 C0 hret   (f_Md_isCelled_4  n) ih x1 x3 0 S H locs ls hP hD hS (lv_sub hl [0, 1, 3] rfl) hf
        · rw [if_pos c_5] at hf
          exact w_Md_isCelled_26 C0 hret   (f_Md_isCelled_4  n) ih x1 x3 S H locs ls hP hD hS (lv_sub hl [0, 1, 3] rfl) hf
def f_Md_isCelled_0   (x1 : Int32) (S : St) : Option (Int32 × St) :=
  f_Md_isCelled_4   FU x1 0 0 S
set_option maxHeartbeats 4000000 in
set_option maxRecDepth 100000 in
theorem w_Md_isCelled_0 (C0 : CX p s m args c b_Md_isCelled 4 R_Md w_Md_isCelled D clC cA cP A) {res : (Int32 × St)} (hret : RTz p l e rm_Md_isCelled s m args below meth c Q D clC A b_Md_isCelled 0 0 (fun r w => r = res.1 ∧ w = mw cA cP ob ad res.2))    : ∀ (x1 : Int32) (S : St) (H : Heap) (locs : List Loc) (ls : Array Slot), va_P D clC (mw cA cP ob ad S) H → va_D A (mw cA cP ob ad S) → va_S A s.heap H locs → lv_has ls 4 [(0, .ref (ob 0)), (1, .int x1)] → f_Md_isCelled_0   x1 S = some res → W p l e rm_Md_isCelled s m args below meth c H locs 0 0 Q (F0 m 0 ls []) := by
  obtain ⟨hx, hb, hml, hown, hts, hK, hA, hN, hZ⟩ := id C0
  intro x1 S H locs ls hP hD hS hl hf
  rw [f_Md_isCelled_0] at hf
  refine lv_iconst (v := 0) hx hb d_Md_isCelled_0 (by decide) ?_
  refine lv_istore_n (lv' := [(2, .int 0), (0, .ref (ob 0)), (1, .int x1)]) hx hb d_Md_isCelled_1 rfl hl (by decide) rfl (fun ls hl => ?_)
  refine lv_iconst (v := 0) hx hb d_Md_isCelled_2 (by decide) ?_
  refine lv_istore_n (lv' := [(3, .int 0), (2, .int 0), (0, .ref (ob 0)), (1, .int x1)]) hx hb d_Md_isCelled_3 rfl hl (by decide) rfl (fun ls hl => ?_)
  exact w_Md_isCelled_4 C0 hret    FU x1 0 0 S H locs ls hP hD hS (lv_sub hl [2, 3, 1, 0] rfl) hf
def f_Md_isCelled (x1 : Int32) (S : St) : Option (Int32 × St) := f_Md_isCelled_0  x1 S
theorem c_Md_isCelled (l : Launch) (D : va_G) (cA cP : ClassId) (ob : Nat → Nat) (ad : Nat → Nat → Nat) (x1 : Int32)  (S : St) {res : (Int32 × St)} (hf : f_Md_isCelled x1 S = some res) : CTi l y_Md_isCelled w_Md_isCelled rm_Md_isCelled 0 0 D clC (TY cA cP) [.ref (ob 0), .int x1] (mw cA cP ob ad S) (fun r w => r = res.1 ∧ w = mw cA cP ob ad res.2) :=
  mk_z (cc := b_Md_isCelled) (maxL := 4) (own := R_Md) (by decide) rfl rfl (Nat.le_of_ble_eq_true rfl) (fun p e s m below meth c A Q C0 hret ls hl hP hD hS => w_Md_isCelled_0 C0 hret   x1 S _ _ ls hP hD hS (lv_sub hl [0, 1] rfl) hf)
end
