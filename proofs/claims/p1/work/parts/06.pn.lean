section
variable {p : Program} {l : Launch} {e : Env} {s : State} {m : MethodId} {args : Array Value} {below : List Frame} {meth : Method} {c : Code} {Q : State → Prop} {D : va_G} {cA : ClassId} {ob ad : Nat → Nat} {A : Nat → Prop}
def f_Pn_checkPlace_24    (S : St) : Option St :=
  none
set_option maxHeartbeats 4000000 in
set_option maxRecDepth 100000 in
theorem w_Pn_checkPlace_24 (C0 : CX p s m args c b_Pn_checkPlace 2 R_Pn w_Pn_checkPlace D clC cA A) {res : St} (hret : RTv p l e rm_Pn_checkPlace s m args below meth c Q D clC A b_Pn_checkPlace 0 0 (fun w => w = cw cA ob ad res))    : ∀  (S : St) (H : Heap) (locs : List Loc) (ls : Array Slot), va_P D clC (cw cA ob ad S) H → va_D A (cw cA ob ad S) → va_S A s.heap H locs → lv_has ls 2 [] → f_Pn_checkPlace_24    S = some res → W p l e rm_Pn_checkPlace s m args below meth c H locs 0 0 Q (F0 m 24 ls []) := by
  obtain ⟨hx, hb, hml, hown, hts, hK, hA, hN⟩ := id C0
  intro  S H locs ls hP hD hS hl hf
  rw [f_Pn_checkPlace_24] at hf
  cases hf
def f_Pn_checkPlace_0   (x0 : Int32) (x1 : Int32) (S : St) : Option St :=
  (if x0 < (-1000000000) then
    f_Pn_checkPlace_24    S
    else
    (if 1000000000 < x0 then
      f_Pn_checkPlace_24    S
      else
      (if x1 < (-1000000000) then
        f_Pn_checkPlace_24    S
        else
        (if x1 ≤ 1000000000 then
          some S
          else
          f_Pn_checkPlace_24    S))))
set_option maxHeartbeats 4000000 in
set_option maxRecDepth 100000 in
theorem w_Pn_checkPlace_0 (C0 : CX p s m args c b_Pn_checkPlace 2 R_Pn w_Pn_checkPlace D clC cA A) {res : St} (hret : RTv p l e rm_Pn_checkPlace s m args below meth c Q D clC A b_Pn_checkPlace 0 0 (fun w => w = cw cA ob ad res))    : ∀ (x0 : Int32) (x1 : Int32) (S : St) (H : Heap) (locs : List Loc) (ls : Array Slot), va_P D clC (cw cA ob ad S) H → va_D A (cw cA ob ad S) → va_S A s.heap H locs → lv_has ls 2 [(0, .int x0), (1, .int x1)] → f_Pn_checkPlace_0   x0 x1 S = some res → W p l e rm_Pn_checkPlace s m args below meth c H locs 0 0 Q (F0 m 0 ls []) := by
  obtain ⟨hx, hb, hml, hown, hts, hK, hA, hN⟩ := id C0
  intro x0 x1 S H locs ls hP hD hS hl hf
  rw [f_Pn_checkPlace_0] at hf
  refine lv_iload_n hx hb d_Pn_checkPlace_0 rfl (lv_at hl 0 rfl) ?_
  refine lv_ldc (v := (-1000000000)) hx hb hown (hts _ (List.mem_cons_of_mem _ wd_400)) d_Pn_checkPlace_1 ?_
  refine lv_icmp_lt (tgt := 24) hx hb d_Pn_checkPlace_3 (by decide) (fun c_1 => ?_) (fun c_1 => ?_)
  · rw [if_pos c_1] at hf
    exact w_Pn_checkPlace_24 C0 hret     S H locs ls hP hD hS (lv_sub hl [] rfl) hf
  · rw [if_neg c_1] at hf
    refine lv_iload_n hx hb d_Pn_checkPlace_6 rfl (lv_at hl 0 rfl) ?_
    refine lv_ldc (v := 1000000000) hx hb hown (hts _ (List.mem_cons_of_mem _ wd_401)) d_Pn_checkPlace_7 ?_
    refine lv_icmp_gt (tgt := 24) hx hb d_Pn_checkPlace_9 (by decide) (fun c_2 => ?_) (fun c_2 => ?_)
    · rw [if_pos c_2] at hf
      exact w_Pn_checkPlace_24 C0 hret     S H locs ls hP hD hS (lv_sub hl [] rfl) hf
    · rw [if_neg c_2] at hf
      refine lv_iload_n hx hb d_Pn_checkPlace_12 rfl (lv_at hl 1 rfl) ?_
      refine lv_ldc (v := (-1000000000)) hx hb hown (hts _ (List.mem_cons_of_mem _ wd_400)) d_Pn_checkPlace_13 ?_
      refine lv_icmp_lt (tgt := 24) hx hb d_Pn_checkPlace_15 (by decide) (fun c_3 => ?_) (fun c_3 => ?_)
      · rw [if_pos c_3] at hf
        exact w_Pn_checkPlace_24 C0 hret     S H locs ls hP hD hS (lv_sub hl [] rfl) hf
      · rw [if_neg c_3] at hf
        refine lv_iload_n hx hb d_Pn_checkPlace_18 rfl (lv_at hl 1 rfl) ?_
        refine lv_ldc (v := 1000000000) hx hb hown (hts _ (List.mem_cons_of_mem _ wd_401)) d_Pn_checkPlace_19 ?_
        refine lv_icmp_le (tgt := 34) hx hb d_Pn_checkPlace_21 (by decide) (fun c_4 => ?_) (fun c_4 => ?_)
        · rw [if_pos c_4] at hf
          cases hf
          exact hret _ _ _ _ _ rfl hP hD hS d_Pn_checkPlace_34
        · rw [if_neg c_4] at hf
          exact w_Pn_checkPlace_24 C0 hret     S H locs ls hP hD hS (lv_sub hl [] rfl) hf
def f_Pn_checkPlace (x0 : Int32) (x1 : Int32) (S : St) : Option St := f_Pn_checkPlace_0  x0 x1 S
theorem c_Pn_checkPlace (l : Launch) (D : va_G) (cA : ClassId) (ob ad : Nat → Nat) (x0 : Int32) (x1 : Int32)  (S : St) {res : St} (hf : f_Pn_checkPlace x0 x1 S = some res) : CTv l y_Pn_checkPlace w_Pn_checkPlace rm_Pn_checkPlace 0 0 D clC [(cA, .int)] [.int x0, .int x1] (cw cA ob ad S) (fun w => w = cw cA ob ad res) :=
  mk_v (cc := b_Pn_checkPlace) (maxL := 2) (own := R_Pn) (by decide) rfl rfl (Nat.le_of_ble_eq_true rfl) (fun p e s m below meth c A Q C0 hret ls hl hP hD hS => w_Pn_checkPlace_0 C0 hret   x0 x1 S _ _ ls hP hD hS (lv_sub hl [0, 1] rfl) hf)
def f_Pt_nearestOf_86  (k9 : Int32 → Int32 → Int32 → Int32 → Int64 → Int32 → St → Option (Int32 × St)) (x1 : Int32) (x2 : Int32) (x3 : Int32) (x4 : Int32) (x5 : Int64) (x7 : Int32) (S : St) : Option (Int32 × St) :=
  bn (x7 + 1) (fun x7_1 => k9 x1 x2 x3 x4 x5 x7_1 S)
set_option maxHeartbeats 4000000 in
set_option maxRecDepth 100000 in
theorem w_Pt_nearestOf_86 (C0 : CX p s m args c b_Pt_nearestOf 14 R_Pt w_Pt_nearestOf D clC cA A) {res : (Int32 × St)} (hret : RTi p l e rm_Pt_nearestOf s m args below meth c Q D clC A b_Pt_nearestOf 0 0 (fun r w => r = res.1 ∧ w = cw cA ob ad res.2))   (k9 : Int32 → Int32 → Int32 → Int32 → Int64 → Int32 → St → Option (Int32 × St)) (hk9 : ∀ (x1 : Int32) (x2 : Int32) (x3 : Int32) (x4 : Int32) (x5 : Int64) (x7 : Int32) (S : St) (H : Heap) (locs : List Loc) (ls : Array Slot), va_P D clC (cw cA ob ad S) H → va_D A (cw cA ob ad S) → va_S A s.heap H locs → lv_has ls 14 [(0, .ref (ob 1)), (1, .int x1), (2, .int x2), (3, .int x3), (4, .int x4), (5, .long x5), (7, .int x7)] → k9 x1 x2 x3 x4 x5 x7 S = some res → W p l e rm_Pt_nearestOf s m args below meth c H locs 0 0 Q (F0 m 9 ls [])) : ∀ (x1 : Int32) (x2 : Int32) (x3 : Int32) (x4 : Int32) (x5 : Int64) (x7 : Int32) (S : St) (H : Heap) (locs : List Loc) (ls : Array Slot), va_P D clC (cw cA ob ad S) H → va_D A (cw cA ob ad S) → va_S A s.heap H locs → lv_has ls 14 [(0, .ref (ob 1)), (1, .int x1), (2, .int x2), (3, .int x3), (4, .int x4), (5, .long x5), (7, .int x7)] → f_Pt_nearestOf_86  k9 x1 x2 x3 x4 x5 x7 S = some res → W p l e rm_Pt_nearestOf s m args below meth c H locs 0 0 Q (F0 m 86 ls []) := by
  obtain ⟨hx, hb, hml, hown, hts, hK, hA, hN⟩ := id C0
  intro x1 x2 x3 x4 x5 x7 S H locs ls hP hD hS hl hf
  rw [f_Pt_nearestOf_86] at hf
  obtain ⟨x7_1, ex7_1, hf⟩ := bn_some hf
  refine lv_iinc (v := x7_1) (lv' := [(7, .int x7_1), (0, .ref (ob 1)), (1, .int x1), (2, .int x2), (3, .int x3), (4, .int x4), (5, .long x5)]) hx hb d_Pt_nearestOf_86 hl (k := 6) rfl (by rw [ex7_1]; rfl) (by decide) rfl (fun ls hl => ?_)
  refine lv_goto (tgt := 9) hx hb d_Pt_nearestOf_89 (by decide) ?_
  exact hk9 x1 x2 x3 x4 x5 x7_1 S H locs ls hP hD hS (lv_sub hl [1, 2, 3, 4, 5, 6, 0] rfl) hf
def f_Pt_nearestOf_78  (k9 : Int32 → Int32 → Int32 → Int32 → Int64 → Int32 → St → Option (Int32 × St)) (x1 : Int32) (x2 : Int32) (x3 : Int32) (x7 : Int32) (x12 : Int64) (S : St) : Option (Int32 × St) :=
  f_Pt_nearestOf_86  k9 x1 x2 x3 x7 x12 x7 S
set_option maxHeartbeats 4000000 in
set_option maxRecDepth 100000 in
theorem w_Pt_nearestOf_78 (C0 : CX p s m args c b_Pt_nearestOf 14 R_Pt w_Pt_nearestOf D clC cA A) {res : (Int32 × St)} (hret : RTi p l e rm_Pt_nearestOf s m args below meth c Q D clC A b_Pt_nearestOf 0 0 (fun r w => r = res.1 ∧ w = cw cA ob ad res.2))   (k9 : Int32 → Int32 → Int32 → Int32 → Int64 → Int32 → St → Option (Int32 × St)) (hk9 : ∀ (x1 : Int32) (x2 : Int32) (x3 : Int32) (x4 : Int32) (x5 : Int64) (x7 : Int32) (S : St) (H : Heap) (locs : List Loc) (ls : Array Slot), va_P D clC (cw cA ob ad S) H → va_D A (cw cA ob ad S) → va_S A s.heap H locs → lv_has ls 14 [(0, .ref (ob 1)), (1, .int x1), (2, .int x2), (3, .int x3), (4, .int x4), (5, .long x5), (7, .int x7)] → k9 x1 x2 x3 x4 x5 x7 S = some res → W p l e rm_Pt_nearestOf s m args below meth c H locs 0 0 Q (F0 m 9 ls [])) : ∀ (x1 : Int32) (x2 : Int32) (x3 : Int32) (x7 : Int32) (x12 : Int64) (S : St) (H : Heap) (locs : List Loc) (ls : Array Slot), va_P D clC (cw cA ob ad S) H → va_D A (cw cA ob ad S) → va_S A s.heap H locs → lv_has ls 14 [(0, .ref (ob 1)), (1, .int x1), (2, .int x2), (3, .int x3), (7, .int x7), (12, .long x12)] → f_Pt_nearestOf_78  k9 x1 x2 x3 x7 x12 S = some res → W p l e rm_Pt_nearestOf s m args below meth c H locs 0 0 Q (F0 m 78 ls []) := by
  obtain ⟨hx, hb, hml, hown, hts, hK, hA, hN⟩ := id C0
  intro x1 x2 x3 x7 x12 S H locs ls hP hD hS hl hf
  rw [f_Pt_nearestOf_78] at hf
  refine lv_iload hx hb d_Pt_nearestOf_78 (lv_at hl 4 rfl) ?_
  refine lv_istore (lv' := [(4, .int x7), (0, .ref (ob 1)), (1, .int x1), (2, .int x2), (3, .int x3), (7, .int x7), (12, .long x12)]) hx hb d_Pt_nearestOf_80 hl (by decide) rfl (fun ls hl => ?_)
  refine lv_lload hx hb d_Pt_nearestOf_82 (lv_at hl 6 rfl) ?_
  refine lv_lstore (lv' := [(5, .long x12), (4, .int x7), (0, .ref (ob 1)), (1, .int x1), (2, .int x2), (3, .int x3), (7, .int x7), (12, .long x12)]) hx hb d_Pt_nearestOf_84 hl (by decide) rfl (fun ls hl => ?_)
  exact w_Pt_nearestOf_86 C0 hret   k9 hk9 x1 x2 x3 x7 x12 x7 S H locs ls hP hD hS (lv_sub hl [2, 3, 4, 5, 1, 0, 6] rfl) hf
def f_Pt_nearestOf_9   : Nat → Int32 → Int32 → Int32 → Int32 → Int64 → Int32 → St → Option (Int32 × St)
  | 0 => fun _ _ _ _ _ _ _ => none
  | n + 1 => fun x1 x2 x3 x4 x5 x7 S => (if x1 ≤ x7 then
      some (x4, S)
      else
      (if (nI (gn S 7)) ≤ x7 then
        some (x4, S)
        else
        as_ (inb x7 (gn S 7)) (bn ((Int32.toInt64 (ga S 7 (Int32.toNatClampNeg x7))) - (Int32.toInt64 x2)) (fun x8_4 => as_ (inb x7 (gn S 8)) (bn ((Int32.toInt64 (ga S 8 (Int32.toNatClampNeg x7))) - (Int32.toInt64 x3)) (fun x10_6 => bn ((x8_4 * x8_4) + (x10_6 * x10_6)) (fun x12_7 => (if x4 = (-1) then
          f_Pt_nearestOf_78  (f_Pt_nearestOf_9  n) x1 x2 x3 x7 x12_7 S
          else
          (if 0 ≤ (lg_cmp x12_7 x5) then
            f_Pt_nearestOf_86  (f_Pt_nearestOf_9  n) x1 x2 x3 x4 x5 x7 S
            else
            f_Pt_nearestOf_78  (f_Pt_nearestOf_9  n) x1 x2 x3 x7 x12_7 S)))))))))
set_option maxHeartbeats 4000000 in
set_option maxRecDepth 100000 in
theorem w_Pt_nearestOf_9 (C0 : CX p s m args c b_Pt_nearestOf 14 R_Pt w_Pt_nearestOf D clC cA A) {res : (Int32 × St)} (hret : RTi p l e rm_Pt_nearestOf s m args below meth c Q D clC A b_Pt_nearestOf 0 0 (fun r w => r = res.1 ∧ w = cw cA ob ad res.2))    : ∀ (n : Nat) (x1 : Int32) (x2 : Int32) (x3 : Int32) (x4 : Int32) (x5 : Int64) (x7 : Int32) (S : St) (H : Heap) (locs : List Loc) (ls : Array Slot), va_P D clC (cw cA ob ad S) H → va_D A (cw cA ob ad S) → va_S A s.heap H locs → lv_has ls 14 [(0, .ref (ob 1)), (1, .int x1), (2, .int x2), (3, .int x3), (4, .int x4), (5, .long x5), (7, .int x7)] → f_Pt_nearestOf_9   n x1 x2 x3 x4 x5 x7 S = some res → W p l e rm_Pt_nearestOf s m args below meth c H locs 0 0 Q (F0 m 9 ls []) := by
  obtain ⟨hx, hb, hml, hown, hts, hK, hA, hN⟩ := id C0
  intro n
  induction n with
  | zero =>
    intro x1 x2 x3 x4 x5 x7 S H locs ls hP hD hS hl hf
    cases hf
  | succ n ih =>
    intro x1 x2 x3 x4 x5 x7 S H locs ls hP hD hS hl hf
    rw [f_Pt_nearestOf_9] at hf
    try dsimp only at hf
    refine lv_iload hx hb d_Pt_nearestOf_9 (lv_at hl 6 rfl) ?_
    refine lv_iload_n hx hb d_Pt_nearestOf_11 rfl (lv_at hl 1 rfl) ?_
    refine lv_icmp_ge (tgt := 92) hx hb d_Pt_nearestOf_12 (by decide) (fun c_1 => ?_) (fun c_1 => ?_)
    · rw [if_pos c_1] at hf
      refine lv_iload hx hb d_Pt_nearestOf_92 (lv_at hl 4 rfl) ?_
      cases hf
      exact hret _ _ _ _ _ _ ⟨rfl, rfl⟩ hP hD hS d_Pt_nearestOf_94
    · rw [if_neg c_1] at hf
      refine lv_iload hx hb d_Pt_nearestOf_15 (lv_at hl 6 rfl) ?_
      refine lv_aload_n hx hb d_Pt_nearestOf_17 rfl (lv_at hl 0 rfl) ?_
      refine va_get (D := D) (ci := 1) (v := .ref (ad 7)) (C := R_Pt) (T := F_Pt) (N := 5) hx hb hts (fun w h => List.mem_cons_of_mem _ (in_Pt w h)) hown hK hP 1 rfl rfl 2 (by decide) (hts _ (List.mem_cons_of_mem _ wd_120)) (fun _ h9 => h9) rfl d_Pt_nearestOf_18 ?_
      refine va_alen (v := (nI (gn S 7))) hx hb hK hP 7 0 rfl rfl rfl d_Pt_nearestOf_21 ?_
      refine lv_icmp_ge (tgt := 92) hx hb d_Pt_nearestOf_22 (by decide) (fun c_2 => ?_) (fun c_2 => ?_)
      · rw [if_pos c_2] at hf
        refine lv_iload hx hb d_Pt_nearestOf_92 (lv_at hl 4 rfl) ?_
        cases hf
        exact hret _ _ _ _ _ _ ⟨rfl, rfl⟩ hP hD hS d_Pt_nearestOf_94
      · rw [if_neg c_2] at hf
        refine lv_aload_n hx hb d_Pt_nearestOf_25 rfl (lv_at hl 0 rfl) ?_
        refine va_get (D := D) (ci := 1) (v := .ref (ad 7)) (C := R_Pt) (T := F_Pt) (N := 5) hx hb hts (fun w h => List.mem_cons_of_mem _ (in_Pt w h)) hown hK hP 1 rfl rfl 2 (by decide) (hts _ (List.mem_cons_of_mem _ wd_120)) (fun _ h9 => h9) rfl d_Pt_nearestOf_26 ?_
        refine lv_iload hx hb d_Pt_nearestOf_29 (lv_at hl 6 rfl) ?_
        obtain ⟨hi_3, hf⟩ := as_some hf
        refine va_iald hx hb hK hP 7 0 rfl rfl (inb_in hi_3) d_Pt_nearestOf_31 ?_
        refine lv_i2l (v := (Int32.toInt64 (ga S 7 (Int32.toNatClampNeg x7)))) hx hb d_Pt_nearestOf_32 rfl ?_
        refine lv_iload_n hx hb d_Pt_nearestOf_33 rfl (lv_at hl 2 rfl) ?_
        refine lv_i2l (v := (Int32.toInt64 x2)) hx hb d_Pt_nearestOf_34 rfl ?_
        refine lv_lsub hx hb d_Pt_nearestOf_35 ?_
        obtain ⟨x8_4, ex8_4, hf⟩ := bn_some hf
        refine tpl ex8_4 ?_
        refine lv_lstore (lv' := [(8, .long x8_4), (0, .ref (ob 1)), (1, .int x1), (2, .int x2), (3, .int x3), (4, .int x4), (5, .long x5), (7, .int x7)]) hx hb d_Pt_nearestOf_36 hl (by decide) rfl (fun ls hl => ?_)
        refine lv_aload_n hx hb d_Pt_nearestOf_38 rfl (lv_at hl 1 rfl) ?_
        refine va_get (D := D) (ci := 1) (v := .ref (ad 8)) (C := R_Pt) (T := F_Pt) (N := 5) hx hb hts (fun w h => List.mem_cons_of_mem _ (in_Pt w h)) hown hK hP 1 rfl rfl 3 (by decide) (hts _ (List.mem_cons_of_mem _ wd_121)) (fun _ h9 => h9) rfl d_Pt_nearestOf_39 ?_
        refine lv_iload hx hb d_Pt_nearestOf_42 (lv_at hl 7 rfl) ?_
        obtain ⟨hi_5, hf⟩ := as_some hf
        refine va_iald hx hb hK hP 8 0 rfl rfl (inb_in hi_5) d_Pt_nearestOf_44 ?_
        refine lv_i2l (v := (Int32.toInt64 (ga S 8 (Int32.toNatClampNeg x7)))) hx hb d_Pt_nearestOf_45 rfl ?_
        refine lv_iload_n hx hb d_Pt_nearestOf_46 rfl (lv_at hl 4 rfl) ?_
        refine lv_i2l (v := (Int32.toInt64 x3)) hx hb d_Pt_nearestOf_47 rfl ?_
        refine lv_lsub hx hb d_Pt_nearestOf_48 ?_
        obtain ⟨x10_6, ex10_6, hf⟩ := bn_some hf
        refine tpl ex10_6 ?_
        refine lv_lstore (lv' := [(10, .long x10_6), (8, .long x8_4), (0, .ref (ob 1)), (1, .int x1), (2, .int x2), (3, .int x3), (4, .int x4), (5, .long x5), (7, .int x7)]) hx hb d_Pt_nearestOf_49 hl (by decide) rfl (fun ls hl => ?_)
        refine lv_lload hx hb d_Pt_nearestOf_51 (lv_at hl 1 rfl) ?_
        refine lv_lload hx hb d_Pt_nearestOf_53 (lv_at hl 1 rfl) ?_
        refine lv_lmul hx hb d_Pt_nearestOf_55 ?_
        refine lv_lload hx hb d_Pt_nearestOf_56 (lv_at hl 0 rfl) ?_
        refine lv_lload hx hb d_Pt_nearestOf_58 (lv_at hl 0 rfl) ?_
        refine lv_lmul hx hb d_Pt_nearestOf_60 ?_
        refine lv_ladd hx hb d_Pt_nearestOf_61 ?_
        obtain ⟨x12_7, ex12_7, hf⟩ := bn_some hf
        refine tpl ex12_7 ?_
        refine lv_lstore (lv' := [(12, .long x12_7), (10, .long x10_6), (8, .long x8_4), (0, .ref (ob 1)), (1, .int x1), (2, .int x2), (3, .int x3), (4, .int x4), (5, .long x5), (7, .int x7)]) hx hb d_Pt_nearestOf_62 hl (by decide) rfl (fun ls hl => ?_)
        refine lv_iload hx hb d_Pt_nearestOf_64 (lv_at hl 7 rfl) ?_
        refine lv_iconst (v := (-1)) hx hb d_Pt_nearestOf_66 (by decide) ?_
        refine lv_icmp_eq (tgt := 78) hx hb d_Pt_nearestOf_67 (by decide) (fun c_8 => ?_) (fun c_8 => ?_)
        · rw [if_pos c_8] at hf
          exact w_Pt_nearestOf_78 C0 hret   (f_Pt_nearestOf_9  n) ih x1 x2 x3 x7 x12_7 S H locs ls hP hD hS (lv_sub hl [3, 4, 5, 6, 9, 0] rfl) hf
        · rw [if_neg c_8] at hf
          refine lv_lload hx hb d_Pt_nearestOf_70 (lv_at hl 0 rfl) ?_
          refine lv_lload hx hb d_Pt_nearestOf_72 (lv_at hl 8 rfl) ?_
          refine W.lcmp hx hb d_Pt_nearestOf_74 ?_
          refine lv_if_ge (tgt := 86) hx hb d_Pt_nearestOf_75 (by decide) (fun c_9 => ?_) (fun c_9 => ?_)
          · rw [if_pos c_9] at hf
            exact w_Pt_nearestOf_86 C0 hret   (f_Pt_nearestOf_9  n) ih x1 x2 x3 x4 x5 x7 S H locs ls hP hD hS (lv_sub hl [3, 4, 5, 6, 7, 8, 9] rfl) hf
          · rw [if_neg c_9] at hf
            exact w_Pt_nearestOf_78 C0 hret   (f_Pt_nearestOf_9  n) ih x1 x2 x3 x7 x12_7 S H locs ls hP hD hS (lv_sub hl [3, 4, 5, 6, 9, 0] rfl) hf
def f_Pt_nearestOf_0   (x1 : Int32) (x2 : Int32) (x3 : Int32) (S : St) : Option (Int32 × St) :=
  f_Pt_nearestOf_9   FU x1 x2 x3 (-1) 0 0 S
set_option maxHeartbeats 4000000 in
set_option maxRecDepth 100000 in
theorem w_Pt_nearestOf_0 (C0 : CX p s m args c b_Pt_nearestOf 14 R_Pt w_Pt_nearestOf D clC cA A) {res : (Int32 × St)} (hret : RTi p l e rm_Pt_nearestOf s m args below meth c Q D clC A b_Pt_nearestOf 0 0 (fun r w => r = res.1 ∧ w = cw cA ob ad res.2))    : ∀ (x1 : Int32) (x2 : Int32) (x3 : Int32) (S : St) (H : Heap) (locs : List Loc) (ls : Array Slot), va_P D clC (cw cA ob ad S) H → va_D A (cw cA ob ad S) → va_S A s.heap H locs → lv_has ls 14 [(0, .ref (ob 1)), (1, .int x1), (2, .int x2), (3, .int x3)] → f_Pt_nearestOf_0   x1 x2 x3 S = some res → W p l e rm_Pt_nearestOf s m args below meth c H locs 0 0 Q (F0 m 0 ls []) := by
  obtain ⟨hx, hb, hml, hown, hts, hK, hA, hN⟩ := id C0
  intro x1 x2 x3 S H locs ls hP hD hS hl hf
  rw [f_Pt_nearestOf_0] at hf
  refine lv_iconst (v := (-1)) hx hb d_Pt_nearestOf_0 (by decide) ?_
  refine lv_istore (lv' := [(4, .int (-1)), (0, .ref (ob 1)), (1, .int x1), (2, .int x2), (3, .int x3)]) hx hb d_Pt_nearestOf_1 hl (by decide) rfl (fun ls hl => ?_)
  refine lv_lconst (v := 0) hx hb d_Pt_nearestOf_3 (by decide) ?_
  refine lv_lstore (lv' := [(5, .long 0), (4, .int (-1)), (0, .ref (ob 1)), (1, .int x1), (2, .int x2), (3, .int x3)]) hx hb d_Pt_nearestOf_4 hl (by decide) rfl (fun ls hl => ?_)
  refine lv_iconst (v := 0) hx hb d_Pt_nearestOf_6 (by decide) ?_
  refine lv_istore (lv' := [(7, .int 0), (5, .long 0), (4, .int (-1)), (0, .ref (ob 1)), (1, .int x1), (2, .int x2), (3, .int x3)]) hx hb d_Pt_nearestOf_7 hl (by decide) rfl (fun ls hl => ?_)
  exact w_Pt_nearestOf_9 C0 hret    FU x1 x2 x3 (-1) 0 0 S H locs ls hP hD hS (lv_sub hl [3, 4, 5, 6, 2, 1, 0] rfl) hf
def f_Pt_nearestOf (x1 : Int32) (x2 : Int32) (x3 : Int32) (S : St) : Option (Int32 × St) := f_Pt_nearestOf_0  x1 x2 x3 S
theorem c_Pt_nearestOf (l : Launch) (D : va_G) (cA : ClassId) (ob ad : Nat → Nat) (x1 : Int32) (x2 : Int32) (x3 : Int32)  (S : St) {res : (Int32 × St)} (hf : f_Pt_nearestOf x1 x2 x3 S = some res) : CTi l y_Pt_nearestOf w_Pt_nearestOf rm_Pt_nearestOf 0 0 D clC [(cA, .int)] [.ref (ob 1), .int x1, .int x2, .int x3] (cw cA ob ad S) (fun r w => r = res.1 ∧ w = cw cA ob ad res.2) :=
  mk_i (cc := b_Pt_nearestOf) (maxL := 14) (own := R_Pt) (by decide) rfl rfl (Nat.le_of_ble_eq_true rfl) (fun p e s m below meth c A Q C0 hret ls hl hP hD hS => w_Pt_nearestOf_0 C0 hret   x1 x2 x3 S _ _ ls hP hD hS (lv_sub hl [0, 1, 2, 3] rfl) hf)
def f_Pt_x_0   (x1 : Int32) (S : St) : Option (Int32 × St) :=
  (if x1 < 0 then
    some (0, S)
    else
    (if (nI (gn S 7)) ≤ x1 then
      some (0, S)
      else
      as_ (inb x1 (gn S 7)) (some ((ga S 7 (Int32.toNatClampNeg x1)), S))))
set_option maxHeartbeats 4000000 in
set_option maxRecDepth 100000 in
theorem w_Pt_x_0 (C0 : CX p s m args c b_Pt_x 2 R_Pt w_Pt_x D clC cA A) {res : (Int32 × St)} (hret : RTi p l e rm_Pt_x s m args below meth c Q D clC A b_Pt_x 0 0 (fun r w => r = res.1 ∧ w = cw cA ob ad res.2))    : ∀ (x1 : Int32) (S : St) (H : Heap) (locs : List Loc) (ls : Array Slot), va_P D clC (cw cA ob ad S) H → va_D A (cw cA ob ad S) → va_S A s.heap H locs → lv_has ls 2 [(0, .ref (ob 1)), (1, .int x1)] → f_Pt_x_0   x1 S = some res → W p l e rm_Pt_x s m args below meth c H locs 0 0 Q (F0 m 0 ls []) := by
  obtain ⟨hx, hb, hml, hown, hts, hK, hA, hN⟩ := id C0
  intro x1 S H locs ls hP hD hS hl hf
  rw [f_Pt_x_0] at hf
  refine lv_iload_n hx hb d_Pt_x_0 rfl (lv_at hl 1 rfl) ?_
  refine lv_if_lt (tgt := 22) hx hb d_Pt_x_1 (by decide) (fun c_1 => ?_) (fun c_1 => ?_)
  · rw [if_pos c_1] at hf
    refine lv_iconst (v := 0) hx hb d_Pt_x_22 (by decide) ?_
    cases hf
    exact hret _ _ _ _ _ _ ⟨rfl, rfl⟩ hP hD hS d_Pt_x_23
  · rw [if_neg c_1] at hf
    refine lv_iload_n hx hb d_Pt_x_4 rfl (lv_at hl 1 rfl) ?_
    refine lv_aload_n hx hb d_Pt_x_5 rfl (lv_at hl 0 rfl) ?_
    refine va_get (D := D) (ci := 1) (v := .ref (ad 7)) (C := R_Pt) (T := F_Pt) (N := 5) hx hb hts (fun w h => List.mem_cons_of_mem _ (in_Pt w h)) hown hK hP 1 rfl rfl 2 (by decide) (hts _ (List.mem_cons_of_mem _ wd_120)) (fun _ h9 => h9) rfl d_Pt_x_6 ?_
    refine va_alen (v := (nI (gn S 7))) hx hb hK hP 7 0 rfl rfl rfl d_Pt_x_9 ?_
    refine lv_icmp_ge (tgt := 22) hx hb d_Pt_x_10 (by decide) (fun c_2 => ?_) (fun c_2 => ?_)
    · rw [if_pos c_2] at hf
      refine lv_iconst (v := 0) hx hb d_Pt_x_22 (by decide) ?_
      cases hf
      exact hret _ _ _ _ _ _ ⟨rfl, rfl⟩ hP hD hS d_Pt_x_23
    · rw [if_neg c_2] at hf
      refine lv_aload_n hx hb d_Pt_x_13 rfl (lv_at hl 0 rfl) ?_
      refine va_get (D := D) (ci := 1) (v := .ref (ad 7)) (C := R_Pt) (T := F_Pt) (N := 5) hx hb hts (fun w h => List.mem_cons_of_mem _ (in_Pt w h)) hown hK hP 1 rfl rfl 2 (by decide) (hts _ (List.mem_cons_of_mem _ wd_120)) (fun _ h9 => h9) rfl d_Pt_x_14 ?_
      refine lv_iload_n hx hb d_Pt_x_17 rfl (lv_at hl 1 rfl) ?_
      obtain ⟨hi_3, hf⟩ := as_some hf
      refine va_iald hx hb hK hP 7 0 rfl rfl (inb_in hi_3) d_Pt_x_18 ?_
      refine lv_goto (tgt := 23) hx hb d_Pt_x_19 (by decide) ?_
      cases hf
      exact hret _ _ _ _ _ _ ⟨rfl, rfl⟩ hP hD hS d_Pt_x_23
def f_Pt_x (x1 : Int32) (S : St) : Option (Int32 × St) := f_Pt_x_0  x1 S
theorem c_Pt_x (l : Launch) (D : va_G) (cA : ClassId) (ob ad : Nat → Nat) (x1 : Int32)  (S : St) {res : (Int32 × St)} (hf : f_Pt_x x1 S = some res) : CTi l y_Pt_x w_Pt_x rm_Pt_x 0 0 D clC [(cA, .int)] [.ref (ob 1), .int x1] (cw cA ob ad S) (fun r w => r = res.1 ∧ w = cw cA ob ad res.2) :=
  mk_i (cc := b_Pt_x) (maxL := 2) (own := R_Pt) (by decide) rfl rfl (Nat.le_of_ble_eq_true rfl) (fun p e s m below meth c A Q C0 hret ls hl hP hD hS => w_Pt_x_0 C0 hret   x1 S _ _ ls hP hD hS (lv_sub hl [0, 1] rfl) hf)
def f_Pt_y_0   (x1 : Int32) (S : St) : Option (Int32 × St) :=
  (if x1 < 0 then
    some (0, S)
    else
    (if (nI (gn S 8)) ≤ x1 then
      some (0, S)
      else
      as_ (inb x1 (gn S 8)) (some ((ga S 8 (Int32.toNatClampNeg x1)), S))))
set_option maxHeartbeats 4000000 in
set_option maxRecDepth 100000 in
theorem w_Pt_y_0 (C0 : CX p s m args c b_Pt_y 2 R_Pt w_Pt_y D clC cA A) {res : (Int32 × St)} (hret : RTi p l e rm_Pt_y s m args below meth c Q D clC A b_Pt_y 0 0 (fun r w => r = res.1 ∧ w = cw cA ob ad res.2))    : ∀ (x1 : Int32) (S : St) (H : Heap) (locs : List Loc) (ls : Array Slot), va_P D clC (cw cA ob ad S) H → va_D A (cw cA ob ad S) → va_S A s.heap H locs → lv_has ls 2 [(0, .ref (ob 1)), (1, .int x1)] → f_Pt_y_0   x1 S = some res → W p l e rm_Pt_y s m args below meth c H locs 0 0 Q (F0 m 0 ls []) := by
  obtain ⟨hx, hb, hml, hown, hts, hK, hA, hN⟩ := id C0
  intro x1 S H locs ls hP hD hS hl hf
  rw [f_Pt_y_0] at hf
  refine lv_iload_n hx hb d_Pt_y_0 rfl (lv_at hl 1 rfl) ?_
  refine lv_if_lt (tgt := 22) hx hb d_Pt_y_1 (by decide) (fun c_1 => ?_) (fun c_1 => ?_)
  · rw [if_pos c_1] at hf
    refine lv_iconst (v := 0) hx hb d_Pt_y_22 (by decide) ?_
    cases hf
    exact hret _ _ _ _ _ _ ⟨rfl, rfl⟩ hP hD hS d_Pt_y_23
  · rw [if_neg c_1] at hf
    refine lv_iload_n hx hb d_Pt_y_4 rfl (lv_at hl 1 rfl) ?_
    refine lv_aload_n hx hb d_Pt_y_5 rfl (lv_at hl 0 rfl) ?_
    refine va_get (D := D) (ci := 1) (v := .ref (ad 8)) (C := R_Pt) (T := F_Pt) (N := 5) hx hb hts (fun w h => List.mem_cons_of_mem _ (in_Pt w h)) hown hK hP 1 rfl rfl 3 (by decide) (hts _ (List.mem_cons_of_mem _ wd_121)) (fun _ h9 => h9) rfl d_Pt_y_6 ?_
    refine va_alen (v := (nI (gn S 8))) hx hb hK hP 8 0 rfl rfl rfl d_Pt_y_9 ?_
    refine lv_icmp_ge (tgt := 22) hx hb d_Pt_y_10 (by decide) (fun c_2 => ?_) (fun c_2 => ?_)
    · rw [if_pos c_2] at hf
      refine lv_iconst (v := 0) hx hb d_Pt_y_22 (by decide) ?_
      cases hf
      exact hret _ _ _ _ _ _ ⟨rfl, rfl⟩ hP hD hS d_Pt_y_23
    · rw [if_neg c_2] at hf
      refine lv_aload_n hx hb d_Pt_y_13 rfl (lv_at hl 0 rfl) ?_
      refine va_get (D := D) (ci := 1) (v := .ref (ad 8)) (C := R_Pt) (T := F_Pt) (N := 5) hx hb hts (fun w h => List.mem_cons_of_mem _ (in_Pt w h)) hown hK hP 1 rfl rfl 3 (by decide) (hts _ (List.mem_cons_of_mem _ wd_121)) (fun _ h9 => h9) rfl d_Pt_y_14 ?_
      refine lv_iload_n hx hb d_Pt_y_17 rfl (lv_at hl 1 rfl) ?_
      obtain ⟨hi_3, hf⟩ := as_some hf
      refine va_iald hx hb hK hP 8 0 rfl rfl (inb_in hi_3) d_Pt_y_18 ?_
      refine lv_goto (tgt := 23) hx hb d_Pt_y_19 (by decide) ?_
      cases hf
      exact hret _ _ _ _ _ _ ⟨rfl, rfl⟩ hP hD hS d_Pt_y_23
def f_Pt_y (x1 : Int32) (S : St) : Option (Int32 × St) := f_Pt_y_0  x1 S
theorem c_Pt_y (l : Launch) (D : va_G) (cA : ClassId) (ob ad : Nat → Nat) (x1 : Int32)  (S : St) {res : (Int32 × St)} (hf : f_Pt_y x1 S = some res) : CTi l y_Pt_y w_Pt_y rm_Pt_y 0 0 D clC [(cA, .int)] [.ref (ob 1), .int x1] (cw cA ob ad S) (fun r w => r = res.1 ∧ w = cw cA ob ad res.2) :=
  mk_i (cc := b_Pt_y) (maxL := 2) (own := R_Pt) (by decide) rfl rfl (Nat.le_of_ble_eq_true rfl) (fun p e s m below meth c A Q C0 hret ls hl hP hD hS => w_Pt_y_0 C0 hret   x1 S _ _ ls hP hD hS (lv_sub hl [0, 1] rfl) hf)
def f_Pt_isAt_0   (x1 : Int32) (x2 : Int32) (x3 : Int32) (S : St) : Option (Int32 × St) :=
  (if x1 < 0 then
    some (0, S)
    else
    (if (gi S 3) ≤ x1 then
      some (0, S)
      else
      bd (f_Pt_x x1 S) (fun q_3 => (if q_3.1 = x2 then
        bd (f_Pt_y x1 q_3.2) (fun q_5 => (if q_5.1 = x3 then
          some (1, q_5.2)
          else
          some (0, q_5.2)))
        else
        some (0, q_3.2)))))
set_option maxHeartbeats 4000000 in
set_option maxRecDepth 100000 in
theorem w_Pt_isAt_0 (C0 : CX p s m args c b_Pt_isAt 4 R_Pt w_Pt_isAt D clC cA A) {res : (Int32 × St)} (hret : RTz p l e rm_Pt_isAt s m args below meth c Q D clC A b_Pt_isAt 0 0 (fun r w => r = res.1 ∧ w = cw cA ob ad res.2))    : ∀ (x1 : Int32) (x2 : Int32) (x3 : Int32) (S : St) (H : Heap) (locs : List Loc) (ls : Array Slot), va_P D clC (cw cA ob ad S) H → va_D A (cw cA ob ad S) → va_S A s.heap H locs → lv_has ls 4 [(0, .ref (ob 1)), (1, .int x1), (2, .int x2), (3, .int x3)] → f_Pt_isAt_0   x1 x2 x3 S = some res → W p l e rm_Pt_isAt s m args below meth c H locs 0 0 Q (F0 m 0 ls []) := by
  obtain ⟨hx, hb, hml, hown, hts, hK, hA, hN⟩ := id C0
  intro x1 x2 x3 S H locs ls hP hD hS hl hf
  rw [f_Pt_isAt_0] at hf
  refine lv_iload_n hx hb d_Pt_isAt_0 rfl (lv_at hl 1 rfl) ?_
  refine lv_if_lt (tgt := 34) hx hb d_Pt_isAt_1 (by decide) (fun c_1 => ?_) (fun c_1 => ?_)
  · rw [if_pos c_1] at hf
    refine lv_iconst (v := 0) hx hb d_Pt_isAt_34 (by decide) ?_
    cases hf
    exact hret _ _ _ _ _ _ ⟨rfl, rfl⟩ rfl hP hD hS d_Pt_isAt_35
  · rw [if_neg c_1] at hf
    refine lv_iload_n hx hb d_Pt_isAt_4 rfl (lv_at hl 1 rfl) ?_
    refine lv_aload_n hx hb d_Pt_isAt_5 rfl (lv_at hl 0 rfl) ?_
    refine va_get (D := D) (ci := 1) (v := .int (gi S 3)) (C := R_Pt) (T := F_Pt) (N := 5) hx hb hts (fun w h => List.mem_cons_of_mem _ (in_Pt w h)) hown hK hP 1 rfl rfl 1 (by decide) (hts _ (List.mem_cons_of_mem _ wd_116)) (fun _ h9 => h9) rfl d_Pt_isAt_6 ?_
    refine lv_icmp_ge (tgt := 34) hx hb d_Pt_isAt_9 (by decide) (fun c_2 => ?_) (fun c_2 => ?_)
    · rw [if_pos c_2] at hf
      refine lv_iconst (v := 0) hx hb d_Pt_isAt_34 (by decide) ?_
      cases hf
      exact hret _ _ _ _ _ _ ⟨rfl, rfl⟩ rfl hP hD hS d_Pt_isAt_35
    · rw [if_neg c_2] at hf
      refine lv_aload_n hx hb d_Pt_isAt_12 rfl (lv_at hl 0 rfl) ?_
      refine lv_iload_n hx hb d_Pt_isAt_13 rfl (lv_at hl 1 rfl) ?_
      obtain ⟨q_3, hq_3, hf⟩ := bd_some hf
      refine kc_i (va_runV (As := [.int x1]) (rest := []) ⟨hx, hb, hml, hown, hts⟩ (c_Pt_x l D cA ob ad x1  S hq_3 H.size) ⟨callB_of 1 hts (gd_Pt_x) rfl rfl rfl (hts _ (List.mem_cons_of_mem _ wd_64)) (hts _ (List.mem_cons_of_mem _ wd_316)) dd_Pt_x ⟨Nat.le_of_ble_eq_true rfl, Nat.le_of_ble_eq_true rfl⟩, (hts _ (List.mem_cons_of_mem _ wd_317)), (hts _ (List.mem_cons_of_mem _ wd_318))⟩ (kpV hK hP hD hN 1 1 rfl rfl) rfl rfl hl.1 rfl (lv_room (Nat.le_of_ble_eq_true rfl)) d_Pt_isAt_14 ⟨Nat.le_of_ble_eq_true rfl, Nat.le_of_ble_eq_true rfl⟩) hP hD hS hA (fun r w H locs hw hP hD hS => ?_)
      obtain ⟨rfl, rfl⟩ := hw
      refine lv_iload_n hx hb d_Pt_isAt_17 rfl (lv_at hl 2 rfl) ?_
      refine lv_icmp_ne (tgt := 34) hx hb d_Pt_isAt_18 (by decide) (fun c_4 => ?_) (fun c_4 => ?_)
      · rw [if_neg c_4] at hf
        refine lv_iconst (v := 0) hx hb d_Pt_isAt_34 (by decide) ?_
        cases hf
        exact hret _ _ _ _ _ _ ⟨rfl, rfl⟩ rfl hP hD hS d_Pt_isAt_35
      · rw [if_pos c_4] at hf
        refine lv_aload_n hx hb d_Pt_isAt_21 rfl (lv_at hl 0 rfl) ?_
        refine lv_iload_n hx hb d_Pt_isAt_22 rfl (lv_at hl 1 rfl) ?_
        obtain ⟨q_5, hq_5, hf⟩ := bd_some hf
        refine kc_i (va_runV (As := [.int x1]) (rest := []) ⟨hx, hb, hml, hown, hts⟩ (c_Pt_y l D cA ob ad x1  q_3.2 hq_5 H.size) ⟨callB_of 1 hts (gd_Pt_y) rfl rfl rfl (hts _ (List.mem_cons_of_mem _ wd_64)) (hts _ (List.mem_cons_of_mem _ wd_320)) dd_Pt_y ⟨Nat.le_of_ble_eq_true rfl, Nat.le_of_ble_eq_true rfl⟩, (hts _ (List.mem_cons_of_mem _ wd_321)), (hts _ (List.mem_cons_of_mem _ wd_322))⟩ (kpV hK hP hD hN 1 1 rfl rfl) rfl rfl hl.1 rfl (lv_room (Nat.le_of_ble_eq_true rfl)) d_Pt_isAt_23 ⟨Nat.le_of_ble_eq_true rfl, Nat.le_of_ble_eq_true rfl⟩) hP hD hS hA (fun r w H locs hw hP hD hS => ?_)
        obtain ⟨rfl, rfl⟩ := hw
        refine lv_iload_n hx hb d_Pt_isAt_26 rfl (lv_at hl 3 rfl) ?_
        refine lv_icmp_ne (tgt := 34) hx hb d_Pt_isAt_27 (by decide) (fun c_6 => ?_) (fun c_6 => ?_)
        · rw [if_neg c_6] at hf
          refine lv_iconst (v := 0) hx hb d_Pt_isAt_34 (by decide) ?_
          cases hf
          exact hret _ _ _ _ _ _ ⟨rfl, rfl⟩ rfl hP hD hS d_Pt_isAt_35
        · rw [if_pos c_6] at hf
          refine lv_iconst (v := 1) hx hb d_Pt_isAt_30 (by decide) ?_
          refine lv_goto (tgt := 35) hx hb d_Pt_isAt_31 (by decide) ?_
          cases hf
          exact hret _ _ _ _ _ _ ⟨rfl, rfl⟩ rfl hP hD hS d_Pt_isAt_35
def f_Pt_isAt (x1 : Int32) (x2 : Int32) (x3 : Int32) (S : St) : Option (Int32 × St) := f_Pt_isAt_0  x1 x2 x3 S
theorem c_Pt_isAt (l : Launch) (D : va_G) (cA : ClassId) (ob ad : Nat → Nat) (x1 : Int32) (x2 : Int32) (x3 : Int32)  (S : St) {res : (Int32 × St)} (hf : f_Pt_isAt x1 x2 x3 S = some res) : CTi l y_Pt_isAt w_Pt_isAt rm_Pt_isAt 0 0 D clC [(cA, .int)] [.ref (ob 1), .int x1, .int x2, .int x3] (cw cA ob ad S) (fun r w => r = res.1 ∧ w = cw cA ob ad res.2) :=
  mk_z (cc := b_Pt_isAt) (maxL := 4) (own := R_Pt) (by decide) rfl rfl (Nat.le_of_ble_eq_true rfl) (fun p e s m below meth c A Q C0 hret ls hl hP hD hS => w_Pt_isAt_0 C0 hret   x1 x2 x3 S _ _ ls hP hD hS (lv_sub hl [0, 1, 2, 3] rfl) hf)
def f_Pt_isFull_0    (S : St) : Option (Int32 × St) :=
  (if (gi S 3) < (gi S 2) then
    some (0, S)
    else
    some (1, S))
set_option maxHeartbeats 4000000 in
set_option maxRecDepth 100000 in
theorem w_Pt_isFull_0 (C0 : CX p s m args c b_Pt_isFull 1 R_Pt w_Pt_isFull D clC cA A) {res : (Int32 × St)} (hret : RTz p l e rm_Pt_isFull s m args below meth c Q D clC A b_Pt_isFull 0 0 (fun r w => r = res.1 ∧ w = cw cA ob ad res.2))    : ∀  (S : St) (H : Heap) (locs : List Loc) (ls : Array Slot), va_P D clC (cw cA ob ad S) H → va_D A (cw cA ob ad S) → va_S A s.heap H locs → lv_has ls 1 [(0, .ref (ob 1))] → f_Pt_isFull_0    S = some res → W p l e rm_Pt_isFull s m args below meth c H locs 0 0 Q (F0 m 0 ls []) := by
  obtain ⟨hx, hb, hml, hown, hts, hK, hA, hN⟩ := id C0
  intro  S H locs ls hP hD hS hl hf
  rw [f_Pt_isFull_0] at hf
  refine lv_aload_n hx hb d_Pt_isFull_0 rfl (lv_at hl 0 rfl) ?_
  refine va_get (D := D) (ci := 1) (v := .int (gi S 3)) (C := R_Pt) (T := F_Pt) (N := 5) hx hb hts (fun w h => List.mem_cons_of_mem _ (in_Pt w h)) hown hK hP 1 rfl rfl 1 (by decide) (hts _ (List.mem_cons_of_mem _ wd_116)) (fun _ h9 => h9) rfl d_Pt_isFull_1 ?_
  refine lv_aload_n hx hb d_Pt_isFull_4 rfl (lv_at hl 0 rfl) ?_
  refine va_get (D := D) (ci := 1) (v := .int (gi S 2)) (C := R_Pt) (T := F_Pt) (N := 5) hx hb hts (fun w h => List.mem_cons_of_mem _ (in_Pt w h)) hown hK hP 1 rfl rfl 0 (by decide) (hts _ (List.mem_cons_of_mem _ wd_112)) (fun _ h9 => h9) rfl d_Pt_isFull_5 ?_
  refine lv_icmp_lt (tgt := 15) hx hb d_Pt_isFull_8 (by decide) (fun c_1 => ?_) (fun c_1 => ?_)
  · rw [if_pos c_1] at hf
    refine lv_iconst (v := 0) hx hb d_Pt_isFull_15 (by decide) ?_
    cases hf
    exact hret _ _ _ _ _ _ ⟨rfl, rfl⟩ rfl hP hD hS d_Pt_isFull_16
  · rw [if_neg c_1] at hf
    refine lv_iconst (v := 1) hx hb d_Pt_isFull_11 (by decide) ?_
    refine lv_goto (tgt := 16) hx hb d_Pt_isFull_12 (by decide) ?_
    cases hf
    exact hret _ _ _ _ _ _ ⟨rfl, rfl⟩ rfl hP hD hS d_Pt_isFull_16
def f_Pt_isFull  (S : St) : Option (Int32 × St) := f_Pt_isFull_0   S
theorem c_Pt_isFull (l : Launch) (D : va_G) (cA : ClassId) (ob ad : Nat → Nat)   (S : St) {res : (Int32 × St)} (hf : f_Pt_isFull  S = some res) : CTi l y_Pt_isFull w_Pt_isFull rm_Pt_isFull 0 0 D clC [(cA, .int)] [.ref (ob 1)] (cw cA ob ad S) (fun r w => r = res.1 ∧ w = cw cA ob ad res.2) :=
  mk_z (cc := b_Pt_isFull) (maxL := 1) (own := R_Pt) (by decide) rfl rfl (Nat.le_of_ble_eq_true rfl) (fun p e s m below meth c A Q C0 hret ls hl hP hD hS => w_Pt_isFull_0 C0 hret    S _ _ ls hP hD hS (lv_sub hl [0] rfl) hf)
def f_Pt_append_0   (x1 : Int32) (x2 : Int32) (S : St) : Option (Int32 × St) :=
  bn (gi S 3) (fun x3_1 => bd (f_Pn_write 7 x3_1 x1 S) (fun q_2 => bd (f_Pn_write 8 x3_1 x2 q_2) (fun q_3 => bn (seti q_3 3 (x3_1 + 1)) (fun S_4 => some (x3_1, S_4)))))
set_option maxHeartbeats 4000000 in
set_option maxRecDepth 100000 in
theorem w_Pt_append_0 (C0 : CX p s m args c b_Pt_append 4 R_Pt w_Pt_append D clC cA A) {res : (Int32 × St)} (hret : RTi p l e rm_Pt_append s m args below meth c Q D clC A b_Pt_append 0 0 (fun r w => r = res.1 ∧ w = cw cA ob ad res.2))    : ∀ (x1 : Int32) (x2 : Int32) (S : St) (H : Heap) (locs : List Loc) (ls : Array Slot), va_P D clC (cw cA ob ad S) H → va_D A (cw cA ob ad S) → va_S A s.heap H locs → lv_has ls 4 [(0, .ref (ob 1)), (1, .int x1), (2, .int x2)] → f_Pt_append_0   x1 x2 S = some res → W p l e rm_Pt_append s m args below meth c H locs 0 0 Q (F0 m 0 ls []) := by
  obtain ⟨hx, hb, hml, hown, hts, hK, hA, hN⟩ := id C0
  intro x1 x2 S H locs ls hP hD hS hl hf
  rw [f_Pt_append_0] at hf
  refine lv_aload_n hx hb d_Pt_append_0 rfl (lv_at hl 0 rfl) ?_
  refine va_get (D := D) (ci := 1) (v := .int (gi S 3)) (C := R_Pt) (T := F_Pt) (N := 5) hx hb hts (fun w h => List.mem_cons_of_mem _ (in_Pt w h)) hown hK hP 1 rfl rfl 1 (by decide) (hts _ (List.mem_cons_of_mem _ wd_116)) (fun _ h9 => h9) rfl d_Pt_append_1 ?_
  obtain ⟨x3_1, ex3_1, hf⟩ := bn_some hf
  refine tpi ex3_1 ?_
  refine lv_istore_n (lv' := [(3, .int x3_1), (0, .ref (ob 1)), (1, .int x1), (2, .int x2)]) hx hb d_Pt_append_4 rfl hl (by decide) rfl (fun ls hl => ?_)
  refine lv_aload_n hx hb d_Pt_append_5 rfl (lv_at hl 1 rfl) ?_
  refine va_get (D := D) (ci := 1) (v := .ref (ad 7)) (C := R_Pt) (T := F_Pt) (N := 5) hx hb hts (fun w h => List.mem_cons_of_mem _ (in_Pt w h)) hown hK hP 1 rfl rfl 2 (by decide) (hts _ (List.mem_cons_of_mem _ wd_120)) (fun _ h9 => h9) rfl d_Pt_append_6 ?_
  refine lv_iload_n hx hb d_Pt_append_9 rfl (lv_at hl 0 rfl) ?_
  refine lv_iload_n hx hb d_Pt_append_10 rfl (lv_at hl 2 rfl) ?_
  obtain ⟨q_2, hq_2, hf⟩ := bd_some hf
  refine kc_v (va_runSN (As := [.ref (ad 7), .int x3_1, .int x1]) (rest := []) ⟨hx, hb, hml, hown, hts⟩ (c_Pn_write l D cA ob ad 7 x3_1 x1 (by decide) S hq_2 H.size) ⟨va_cnB 3 hts (gd_Pn_write) rfl rfl rfl (nw_2 hN) (hts _ (List.mem_cons_of_mem _ wd_63)) dd_Pn_write ⟨Nat.le_of_ble_eq_true rfl, Nat.le_of_ble_eq_true rfl⟩, (hts _ (List.mem_cons_of_mem _ wd_342)), trivial⟩ (kpS hK hP hD hN) rfl rfl hl.1 rfl (lv_room (Nat.le_of_ble_eq_true rfl)) d_Pt_append_11 ⟨Nat.le_of_ble_eq_true rfl, Nat.le_of_ble_eq_true rfl⟩) hP hD hS hA (fun w H locs hw hP hD hS => ?_)
  obtain rfl := hw
  refine lv_aload_n hx hb d_Pt_append_14 rfl (lv_at hl 1 rfl) ?_
  refine va_get (D := D) (ci := 1) (v := .ref (ad 8)) (C := R_Pt) (T := F_Pt) (N := 5) hx hb hts (fun w h => List.mem_cons_of_mem _ (in_Pt w h)) hown hK hP 1 rfl rfl 3 (by decide) (hts _ (List.mem_cons_of_mem _ wd_121)) (fun _ h9 => h9) rfl d_Pt_append_15 ?_
  refine lv_iload_n hx hb d_Pt_append_18 rfl (lv_at hl 0 rfl) ?_
  refine lv_iload_n hx hb d_Pt_append_19 rfl (lv_at hl 3 rfl) ?_
  obtain ⟨q_3, hq_3, hf⟩ := bd_some hf
  refine kc_v (va_runSN (As := [.ref (ad 8), .int x3_1, .int x2]) (rest := []) ⟨hx, hb, hml, hown, hts⟩ (c_Pn_write l D cA ob ad 8 x3_1 x2 (by decide) q_2 hq_3 H.size) ⟨va_cnB 3 hts (gd_Pn_write) rfl rfl rfl (nw_2 hN) (hts _ (List.mem_cons_of_mem _ wd_63)) dd_Pn_write ⟨Nat.le_of_ble_eq_true rfl, Nat.le_of_ble_eq_true rfl⟩, (hts _ (List.mem_cons_of_mem _ wd_342)), trivial⟩ (kpS hK hP hD hN) rfl rfl hl.1 rfl (lv_room (Nat.le_of_ble_eq_true rfl)) d_Pt_append_20 ⟨Nat.le_of_ble_eq_true rfl, Nat.le_of_ble_eq_true rfl⟩) hP hD hS hA (fun w H locs hw hP hD hS => ?_)
  obtain rfl := hw
  refine lv_aload_n hx hb d_Pt_append_23 rfl (lv_at hl 1 rfl) ?_
  refine lv_iload_n hx hb d_Pt_append_24 rfl (lv_at hl 0 rfl) ?_
  refine lv_iconst (v := 1) hx hb d_Pt_append_25 (by decide) ?_
  refine lv_iadd hx hb d_Pt_append_26 ?_
  obtain ⟨S_4, eS_4, hf⟩ := bn_some hf
  refine va_put (D := D) (ci := 1) (v := .int (x3_1 + 1)) (ty := .int) (C := R_Pt) (T := F_Pt) (N := 5) hx hb hts (fun w h => List.mem_cons_of_mem _ (in_Pt w h)) t_Pt tk_Pt nk_Pt hown hK hP hD hS 1 rfl rfl 1 (by decide) (hts _ (List.mem_cons_of_mem _ wd_116)) (fun _ h9 => h9) rfl (by decide +kernel) rfl rfl (Nat.le_of_ble_eq_true rfl) d_Pt_append_27 (fun H locs hP hD hS => ?_)
  have hP : va_P D clC (cw cA ob ad S_4) H := by rw [eS_4]; exact hP
  have hD : va_D A (cw cA ob ad S_4) := by rw [eS_4]; exact hD
  refine lv_iload_n hx hb d_Pt_append_30 rfl (lv_at hl 0 rfl) ?_
  cases hf
  exact hret _ _ _ _ _ _ ⟨rfl, rfl⟩ hP hD hS d_Pt_append_31
def f_Pt_append (x1 : Int32) (x2 : Int32) (S : St) : Option (Int32 × St) := f_Pt_append_0  x1 x2 S
theorem c_Pt_append (l : Launch) (D : va_G) (cA : ClassId) (ob ad : Nat → Nat) (x1 : Int32) (x2 : Int32)  (S : St) {res : (Int32 × St)} (hf : f_Pt_append x1 x2 S = some res) : CTi l y_Pt_append w_Pt_append rm_Pt_append 0 0 D clC [(cA, .int)] [.ref (ob 1), .int x1, .int x2] (cw cA ob ad S) (fun r w => r = res.1 ∧ w = cw cA ob ad res.2) :=
  mk_i (cc := b_Pt_append) (maxL := 4) (own := R_Pt) (by decide) rfl rfl (Nat.le_of_ble_eq_true rfl) (fun p e s m below meth c A Q C0 hret ls hl hP hD hS => w_Pt_append_0 C0 hret   x1 x2 S _ _ ls hP hD hS (lv_sub hl [0, 1, 2] rfl) hf)
def f_Pt_gap_0   (x1 : Int32) (x2 : Int32) (x3 : Int32) (S : St) : Option (Int64 × St) :=
  bd (f_Pt_x x1 S) (fun q_1 => bn ((Int32.toInt64 q_1.1) - (Int32.toInt64 x2)) (fun x4_2 => bd (f_Pt_y x1 q_1.2) (fun q_3 => bn ((Int32.toInt64 q_3.1) - (Int32.toInt64 x3)) (fun x6_4 => some (((x4_2 * x4_2) + (x6_4 * x6_4)), q_3.2)))))
set_option maxHeartbeats 4000000 in
set_option maxRecDepth 100000 in
theorem w_Pt_gap_0 (C0 : CX p s m args c b_Pt_gap 8 R_Pt w_Pt_gap D clC cA A) {res : (Int64 × St)} (hret : RTl p l e rm_Pt_gap s m args below meth c Q D clC A b_Pt_gap 0 0 (fun r w => r = res.1 ∧ w = cw cA ob ad res.2))    : ∀ (x1 : Int32) (x2 : Int32) (x3 : Int32) (S : St) (H : Heap) (locs : List Loc) (ls : Array Slot), va_P D clC (cw cA ob ad S) H → va_D A (cw cA ob ad S) → va_S A s.heap H locs → lv_has ls 8 [(0, .ref (ob 1)), (1, .int x1), (2, .int x2), (3, .int x3)] → f_Pt_gap_0   x1 x2 x3 S = some res → W p l e rm_Pt_gap s m args below meth c H locs 0 0 Q (F0 m 0 ls []) := by
  obtain ⟨hx, hb, hml, hown, hts, hK, hA, hN⟩ := id C0
  intro x1 x2 x3 S H locs ls hP hD hS hl hf
  rw [f_Pt_gap_0] at hf
  refine lv_aload_n hx hb d_Pt_gap_0 rfl (lv_at hl 0 rfl) ?_
  refine lv_iload_n hx hb d_Pt_gap_1 rfl (lv_at hl 1 rfl) ?_
  obtain ⟨q_1, hq_1, hf⟩ := bd_some hf
  refine kc_i (va_runV (As := [.int x1]) (rest := []) ⟨hx, hb, hml, hown, hts⟩ (c_Pt_x l D cA ob ad x1  S hq_1 H.size) ⟨callB_of 1 hts (gd_Pt_x) rfl rfl rfl (hts _ (List.mem_cons_of_mem _ wd_64)) (hts _ (List.mem_cons_of_mem _ wd_316)) dd_Pt_x ⟨Nat.le_of_ble_eq_true rfl, Nat.le_of_ble_eq_true rfl⟩, (hts _ (List.mem_cons_of_mem _ wd_317)), (hts _ (List.mem_cons_of_mem _ wd_318))⟩ (kpV hK hP hD hN 1 1 rfl rfl) rfl rfl hl.1 rfl (lv_room (Nat.le_of_ble_eq_true rfl)) d_Pt_gap_2 ⟨Nat.le_of_ble_eq_true rfl, Nat.le_of_ble_eq_true rfl⟩) hP hD hS hA (fun r w H locs hw hP hD hS => ?_)
  obtain ⟨rfl, rfl⟩ := hw
  refine lv_i2l (v := (Int32.toInt64 q_1.1)) hx hb d_Pt_gap_5 rfl ?_
  refine lv_iload_n hx hb d_Pt_gap_6 rfl (lv_at hl 2 rfl) ?_
  refine lv_i2l (v := (Int32.toInt64 x2)) hx hb d_Pt_gap_7 rfl ?_
  refine lv_lsub hx hb d_Pt_gap_8 ?_
  obtain ⟨x4_2, ex4_2, hf⟩ := bn_some hf
  refine tpl ex4_2 ?_
  refine lv_lstore (lv' := [(4, .long x4_2), (0, .ref (ob 1)), (1, .int x1), (2, .int x2), (3, .int x3)]) hx hb d_Pt_gap_9 hl (by decide) rfl (fun ls hl => ?_)
  refine lv_aload_n hx hb d_Pt_gap_11 rfl (lv_at hl 1 rfl) ?_
  refine lv_iload_n hx hb d_Pt_gap_12 rfl (lv_at hl 2 rfl) ?_
  obtain ⟨q_3, hq_3, hf⟩ := bd_some hf
  refine kc_i (va_runV (As := [.int x1]) (rest := []) ⟨hx, hb, hml, hown, hts⟩ (c_Pt_y l D cA ob ad x1  q_1.2 hq_3 H.size) ⟨callB_of 1 hts (gd_Pt_y) rfl rfl rfl (hts _ (List.mem_cons_of_mem _ wd_64)) (hts _ (List.mem_cons_of_mem _ wd_320)) dd_Pt_y ⟨Nat.le_of_ble_eq_true rfl, Nat.le_of_ble_eq_true rfl⟩, (hts _ (List.mem_cons_of_mem _ wd_321)), (hts _ (List.mem_cons_of_mem _ wd_322))⟩ (kpV hK hP hD hN 1 1 rfl rfl) rfl rfl hl.1 rfl (lv_room (Nat.le_of_ble_eq_true rfl)) d_Pt_gap_13 ⟨Nat.le_of_ble_eq_true rfl, Nat.le_of_ble_eq_true rfl⟩) hP hD hS hA (fun r w H locs hw hP hD hS => ?_)
  obtain ⟨rfl, rfl⟩ := hw
  refine lv_i2l (v := (Int32.toInt64 q_3.1)) hx hb d_Pt_gap_16 rfl ?_
  refine lv_iload_n hx hb d_Pt_gap_17 rfl (lv_at hl 4 rfl) ?_
  refine lv_i2l (v := (Int32.toInt64 x3)) hx hb d_Pt_gap_18 rfl ?_
  refine lv_lsub hx hb d_Pt_gap_19 ?_
  obtain ⟨x6_4, ex6_4, hf⟩ := bn_some hf
  refine tpl ex6_4 ?_
  refine lv_lstore (lv' := [(6, .long x6_4), (4, .long x4_2), (0, .ref (ob 1)), (1, .int x1), (2, .int x2), (3, .int x3)]) hx hb d_Pt_gap_20 hl (by decide) rfl (fun ls hl => ?_)
  refine lv_lload hx hb d_Pt_gap_22 (lv_at hl 1 rfl) ?_
  refine lv_lload hx hb d_Pt_gap_24 (lv_at hl 1 rfl) ?_
  refine lv_lmul hx hb d_Pt_gap_26 ?_
  refine lv_lload hx hb d_Pt_gap_27 (lv_at hl 0 rfl) ?_
  refine lv_lload hx hb d_Pt_gap_29 (lv_at hl 0 rfl) ?_
  refine lv_lmul hx hb d_Pt_gap_31 ?_
  refine lv_ladd hx hb d_Pt_gap_32 ?_
  cases hf
  exact hret _ _ _ _ _ _ ⟨rfl, rfl⟩ hP hD hS d_Pt_gap_33
def f_Pt_gap (x1 : Int32) (x2 : Int32) (x3 : Int32) (S : St) : Option (Int64 × St) := f_Pt_gap_0  x1 x2 x3 S
theorem c_Pt_gap (l : Launch) (D : va_G) (cA : ClassId) (ob ad : Nat → Nat) (x1 : Int32) (x2 : Int32) (x3 : Int32)  (S : St) {res : (Int64 × St)} (hf : f_Pt_gap x1 x2 x3 S = some res) : CTl l y_Pt_gap w_Pt_gap rm_Pt_gap 0 0 D clC [(cA, .int)] [.ref (ob 1), .int x1, .int x2, .int x3] (cw cA ob ad S) (fun r w => r = res.1 ∧ w = cw cA ob ad res.2) :=
  mk_l (cc := b_Pt_gap) (maxL := 8) (own := R_Pt) (by decide) rfl rfl (Nat.le_of_ble_eq_true rfl) (fun p e s m below meth c A Q C0 hret ls hl hP hD hS => w_Pt_gap_0 C0 hret   x1 x2 x3 S _ _ ls hP hD hS (lv_sub hl [0, 1, 2, 3] rfl) hf)
def f_Pn_noteClosest_65   (x1 : Int32) (x2 : Int32) (x3 : Int64) (S : St) : Option St :=
  bn (setl S 0 x3) (fun S_1 => bn (seti S_1 0 x1) (fun S_2 => bn (seti S_2 1 x2) (fun S_3 => some S_3)))
set_option maxHeartbeats 4000000 in
set_option maxRecDepth 100000 in
theorem w_Pn_noteClosest_65 (C0 : CX p s m args c b_Pn_noteClosest 5 R_Pn w_Pn_noteClosest D clC cA A) {res : St} (hret : RTv p l e rm_Pn_noteClosest s m args below meth c Q D clC A b_Pn_noteClosest 0 0 (fun w => w = cw cA ob ad res))    : ∀ (x1 : Int32) (x2 : Int32) (x3 : Int64) (S : St) (H : Heap) (locs : List Loc) (ls : Array Slot), va_P D clC (cw cA ob ad S) H → va_D A (cw cA ob ad S) → va_S A s.heap H locs → lv_has ls 5 [(0, .ref (ob 0)), (1, .int x1), (2, .int x2), (3, .long x3)] → f_Pn_noteClosest_65   x1 x2 x3 S = some res → W p l e rm_Pn_noteClosest s m args below meth c H locs 0 0 Q (F0 m 65 ls []) := by
  obtain ⟨hx, hb, hml, hown, hts, hK, hA, hN⟩ := id C0
  intro x1 x2 x3 S H locs ls hP hD hS hl hf
  rw [f_Pn_noteClosest_65] at hf
  refine lv_aload_n hx hb d_Pn_noteClosest_65 rfl (lv_at hl 0 rfl) ?_
  refine lv_lload_n hx hb d_Pn_noteClosest_66 rfl (lv_at hl 3 rfl) ?_
  obtain ⟨S_1, eS_1, hf⟩ := bn_some hf
  refine va_put (D := D) (ci := 0) (v := .long x3) (ty := .long) (C := R_Pn) (T := F_Pn) (N := 8) hx hb hts (fun w h => List.mem_cons_of_mem _ (in_Pn w h)) t_Pn tk_Pn nk_Pn hown hK hP hD hS 0 rfl rfl 5 (by decide) (hts _ (List.mem_cons_of_mem _ wd_232)) (fun _ h9 => h9) rfl (by decide +kernel) rfl rfl (Nat.le_of_ble_eq_true rfl) d_Pn_noteClosest_67 (fun H locs hP hD hS => ?_)
  have hP : va_P D clC (cw cA ob ad S_1) H := by rw [eS_1]; exact hP
  have hD : va_D A (cw cA ob ad S_1) := by rw [eS_1]; exact hD
  refine lv_aload_n hx hb d_Pn_noteClosest_70 rfl (lv_at hl 0 rfl) ?_
  refine lv_iload_n hx hb d_Pn_noteClosest_71 rfl (lv_at hl 1 rfl) ?_
  obtain ⟨S_2, eS_2, hf⟩ := bn_some hf
  refine va_put (D := D) (ci := 0) (v := .int x1) (ty := .int) (C := R_Pn) (T := F_Pn) (N := 8) hx hb hts (fun w h => List.mem_cons_of_mem _ (in_Pn w h)) t_Pn tk_Pn nk_Pn hown hK hP hD hS 0 rfl rfl 6 (by decide) (hts _ (List.mem_cons_of_mem _ wd_233)) (fun _ h9 => h9) rfl (by decide +kernel) rfl rfl (Nat.le_of_ble_eq_true rfl) d_Pn_noteClosest_72 (fun H locs hP hD hS => ?_)
  have hP : va_P D clC (cw cA ob ad S_2) H := by rw [eS_2]; exact hP
  have hD : va_D A (cw cA ob ad S_2) := by rw [eS_2]; exact hD
  refine lv_aload_n hx hb d_Pn_noteClosest_75 rfl (lv_at hl 0 rfl) ?_
  refine lv_iload_n hx hb d_Pn_noteClosest_76 rfl (lv_at hl 2 rfl) ?_
  obtain ⟨S_3, eS_3, hf⟩ := bn_some hf
  refine va_put (D := D) (ci := 0) (v := .int x2) (ty := .int) (C := R_Pn) (T := F_Pn) (N := 8) hx hb hts (fun w h => List.mem_cons_of_mem _ (in_Pn w h)) t_Pn tk_Pn nk_Pn hown hK hP hD hS 0 rfl rfl 7 (by decide) (hts _ (List.mem_cons_of_mem _ wd_234)) (fun _ h9 => h9) rfl (by decide +kernel) rfl rfl (Nat.le_of_ble_eq_true rfl) d_Pn_noteClosest_77 (fun H locs hP hD hS => ?_)
  have hP : va_P D clC (cw cA ob ad S_3) H := by rw [eS_3]; exact hP
  have hD : va_D A (cw cA ob ad S_3) := by rw [eS_3]; exact hD
  cases hf
  exact hret _ _ _ _ _ rfl hP hD hS d_Pn_noteClosest_80
def f_Pn_noteClosest_0   (x1 : Int32) (x2 : Int32) (S : St) : Option St :=
  (if x1 = (-1) then
    some S
    else
    bd (f_Pt_x x2 S) (fun q_2 => bd (f_Pt_y x2 q_2.2) (fun q_3 => bd (f_Pt_gap x1 q_2.1 q_3.1 q_3.2) (fun q_4 => (if (gi q_4.2 0) = (-1) then
      f_Pn_noteClosest_65   x1 x2 q_4.1 q_4.2
      else
      (if (lg_cmp q_4.1 (gl q_4.2 0)) < 0 then
        f_Pn_noteClosest_65   x1 x2 q_4.1 q_4.2
        else
        (if (lg_cmp q_4.1 (gl q_4.2 0)) = 0 then
          (if (gi q_4.2 0) ≤ x1 then
            some q_4.2
            else
            f_Pn_noteClosest_65   x1 x2 q_4.1 q_4.2)
          else
          some q_4.2)))))))
set_option maxHeartbeats 4000000 in
set_option maxRecDepth 100000 in
theorem w_Pn_noteClosest_0 (C0 : CX p s m args c b_Pn_noteClosest 5 R_Pn w_Pn_noteClosest D clC cA A) {res : St} (hret : RTv p l e rm_Pn_noteClosest s m args below meth c Q D clC A b_Pn_noteClosest 0 0 (fun w => w = cw cA ob ad res))    : ∀ (x1 : Int32) (x2 : Int32) (S : St) (H : Heap) (locs : List Loc) (ls : Array Slot), va_P D clC (cw cA ob ad S) H → va_D A (cw cA ob ad S) → va_S A s.heap H locs → lv_has ls 5 [(0, .ref (ob 0)), (1, .int x1), (2, .int x2)] → f_Pn_noteClosest_0   x1 x2 S = some res → W p l e rm_Pn_noteClosest s m args below meth c H locs 0 0 Q (F0 m 0 ls []) := by
  obtain ⟨hx, hb, hml, hown, hts, hK, hA, hN⟩ := id C0
  intro x1 x2 S H locs ls hP hD hS hl hf
  rw [f_Pn_noteClosest_0] at hf
  refine lv_iload_n hx hb d_Pn_noteClosest_0 rfl (lv_at hl 1 rfl) ?_
  refine lv_iconst (v := (-1)) hx hb d_Pn_noteClosest_1 (by decide) ?_
  refine lv_icmp_ne (tgt := 6) hx hb d_Pn_noteClosest_2 (by decide) (fun c_1 => ?_) (fun c_1 => ?_)
  · rw [if_neg c_1] at hf
    refine lv_aload_n hx hb d_Pn_noteClosest_6 rfl (lv_at hl 0 rfl) ?_
    refine va_get (D := D) (ci := 0) (v := .ref (ob 1)) (C := R_Pn) (T := F_Pn) (N := 8) hx hb hts (fun w h => List.mem_cons_of_mem _ (in_Pn w h)) hown hK hP 0 rfl rfl 0 (by decide) (hts _ (List.mem_cons_of_mem _ wd_227)) (fun _ h9 => h9) rfl d_Pn_noteClosest_7 ?_
    refine lv_iload_n hx hb d_Pn_noteClosest_10 rfl (lv_at hl 1 rfl) ?_
    refine lv_aload_n hx hb d_Pn_noteClosest_11 rfl (lv_at hl 0 rfl) ?_
    refine va_get (D := D) (ci := 0) (v := .ref (ob 1)) (C := R_Pn) (T := F_Pn) (N := 8) hx hb hts (fun w h => List.mem_cons_of_mem _ (in_Pn w h)) hown hK hP 0 rfl rfl 0 (by decide) (hts _ (List.mem_cons_of_mem _ wd_227)) (fun _ h9 => h9) rfl d_Pn_noteClosest_12 ?_
    refine lv_iload_n hx hb d_Pn_noteClosest_15 rfl (lv_at hl 2 rfl) ?_
    obtain ⟨q_2, hq_2, hf⟩ := bd_some hf
    refine kc_i (va_runV (As := [.int x2]) (rest := [.int x1, .ref (ob 1)]) ⟨hx, hb, hml, hown, hts⟩ (c_Pt_x l D cA ob ad x2  S hq_2 H.size) ⟨callB_of 1 hts (gd_Pt_x) rfl rfl rfl (hts _ (List.mem_cons_of_mem _ wd_64)) (hts _ (List.mem_cons_of_mem _ wd_507)) dd_Pt_x ⟨Nat.le_of_ble_eq_true rfl, Nat.le_of_ble_eq_true rfl⟩, (hts _ (List.mem_cons_of_mem _ wd_317)), (hts _ (List.mem_cons_of_mem _ wd_318))⟩ (kpV hK hP hD hN 1 1 rfl rfl) rfl rfl hl.1 rfl (lv_room (Nat.le_of_ble_eq_true rfl)) d_Pn_noteClosest_16 ⟨Nat.le_of_ble_eq_true rfl, Nat.le_of_ble_eq_true rfl⟩) hP hD hS hA (fun r w H locs hw hP hD hS => ?_)
    obtain ⟨rfl, rfl⟩ := hw
    refine lv_aload_n hx hb d_Pn_noteClosest_19 rfl (lv_at hl 0 rfl) ?_
    refine va_get (D := D) (ci := 0) (v := .ref (ob 1)) (C := R_Pn) (T := F_Pn) (N := 8) hx hb hts (fun w h => List.mem_cons_of_mem _ (in_Pn w h)) hown hK hP 0 rfl rfl 0 (by decide) (hts _ (List.mem_cons_of_mem _ wd_227)) (fun _ h9 => h9) rfl d_Pn_noteClosest_20 ?_
    refine lv_iload_n hx hb d_Pn_noteClosest_23 rfl (lv_at hl 2 rfl) ?_
    obtain ⟨q_3, hq_3, hf⟩ := bd_some hf
    refine kc_i (va_runV (As := [.int x2]) (rest := [.int q_2.1, .int x1, .ref (ob 1)]) ⟨hx, hb, hml, hown, hts⟩ (c_Pt_y l D cA ob ad x2  q_2.2 hq_3 H.size) ⟨callB_of 1 hts (gd_Pt_y) rfl rfl rfl (hts _ (List.mem_cons_of_mem _ wd_64)) (hts _ (List.mem_cons_of_mem _ wd_508)) dd_Pt_y ⟨Nat.le_of_ble_eq_true rfl, Nat.le_of_ble_eq_true rfl⟩, (hts _ (List.mem_cons_of_mem _ wd_321)), (hts _ (List.mem_cons_of_mem _ wd_322))⟩ (kpV hK hP hD hN 1 1 rfl rfl) rfl rfl hl.1 rfl (lv_room (Nat.le_of_ble_eq_true rfl)) d_Pn_noteClosest_24 ⟨Nat.le_of_ble_eq_true rfl, Nat.le_of_ble_eq_true rfl⟩) hP hD hS hA (fun r w H locs hw hP hD hS => ?_)
    obtain ⟨rfl, rfl⟩ := hw
    obtain ⟨q_4, hq_4, hf⟩ := bd_some hf
    refine kc_l (va_runV (As := [.int x1, .int q_2.1, .int q_3.1]) (rest := []) ⟨hx, hb, hml, hown, hts⟩ (c_Pt_gap l D cA ob ad x1 q_2.1 q_3.1  q_3.2 hq_4 H.size) ⟨callB_of 3 hts (gd_Pt_gap) rfl rfl rfl (hts _ (List.mem_cons_of_mem _ wd_64)) (hts _ (List.mem_cons_of_mem _ wd_509)) dd_Pt_gap ⟨Nat.le_of_ble_eq_true rfl, Nat.le_of_ble_eq_true rfl⟩, (hts _ (List.mem_cons_of_mem _ wd_510)), (hts _ (List.mem_cons_of_mem _ wd_511))⟩ (kpV hK hP hD hN 1 1 rfl rfl) rfl rfl hl.1 rfl (lv_room (Nat.le_of_ble_eq_true rfl)) d_Pn_noteClosest_27 ⟨Nat.le_of_ble_eq_true rfl, Nat.le_of_ble_eq_true rfl⟩) hP hD hS hA (fun r w H locs hw hP hD hS => ?_)
    obtain ⟨rfl, rfl⟩ := hw
    refine lv_lstore_n (lv' := [(3, .long q_4.1), (0, .ref (ob 0)), (1, .int x1), (2, .int x2)]) hx hb d_Pn_noteClosest_30 rfl hl (by decide) rfl (fun ls hl => ?_)
    refine lv_aload_n hx hb d_Pn_noteClosest_31 rfl (lv_at hl 1 rfl) ?_
    refine va_get (D := D) (ci := 0) (v := .int (gi q_4.2 0)) (C := R_Pn) (T := F_Pn) (N := 8) hx hb hts (fun w h => List.mem_cons_of_mem _ (in_Pn w h)) hown hK hP 0 rfl rfl 6 (by decide) (hts _ (List.mem_cons_of_mem _ wd_233)) (fun _ h9 => h9) rfl d_Pn_noteClosest_32 ?_
    refine lv_iconst (v := (-1)) hx hb d_Pn_noteClosest_35 (by decide) ?_
    refine lv_icmp_eq (tgt := 65) hx hb d_Pn_noteClosest_36 (by decide) (fun c_5 => ?_) (fun c_5 => ?_)
    · rw [if_pos c_5] at hf
      exact w_Pn_noteClosest_65 C0 hret    x1 x2 q_4.1 q_4.2 H locs ls hP hD hS (lv_sub hl [1, 2, 3, 0] rfl) hf
    · rw [if_neg c_5] at hf
      refine lv_lload_n hx hb d_Pn_noteClosest_39 rfl (lv_at hl 0 rfl) ?_
      refine lv_aload_n hx hb d_Pn_noteClosest_40 rfl (lv_at hl 1 rfl) ?_
      refine va_get (D := D) (ci := 0) (v := .long (gl q_4.2 0)) (C := R_Pn) (T := F_Pn) (N := 8) hx hb hts (fun w h => List.mem_cons_of_mem _ (in_Pn w h)) hown hK hP 0 rfl rfl 5 (by decide) (hts _ (List.mem_cons_of_mem _ wd_232)) (fun _ h9 => h9) rfl d_Pn_noteClosest_41 ?_
      refine W.lcmp hx hb d_Pn_noteClosest_44 ?_
      refine lv_if_lt (tgt := 65) hx hb d_Pn_noteClosest_45 (by decide) (fun c_6 => ?_) (fun c_6 => ?_)
      · rw [if_pos c_6] at hf
        exact w_Pn_noteClosest_65 C0 hret    x1 x2 q_4.1 q_4.2 H locs ls hP hD hS (lv_sub hl [1, 2, 3, 0] rfl) hf
      · rw [if_neg c_6] at hf
        refine lv_lload_n hx hb d_Pn_noteClosest_48 rfl (lv_at hl 0 rfl) ?_
        refine lv_aload_n hx hb d_Pn_noteClosest_49 rfl (lv_at hl 1 rfl) ?_
        refine va_get (D := D) (ci := 0) (v := .long (gl q_4.2 0)) (C := R_Pn) (T := F_Pn) (N := 8) hx hb hts (fun w h => List.mem_cons_of_mem _ (in_Pn w h)) hown hK hP 0 rfl rfl 5 (by decide) (hts _ (List.mem_cons_of_mem _ wd_232)) (fun _ h9 => h9) rfl d_Pn_noteClosest_50 ?_
        refine W.lcmp hx hb d_Pn_noteClosest_53 ?_
        refine lv_if_ne (tgt := 80) hx hb d_Pn_noteClosest_54 (by decide) (fun c_7 => ?_) (fun c_7 => ?_)
        · rw [if_neg c_7] at hf
          cases hf
          exact hret _ _ _ _ _ rfl hP hD hS d_Pn_noteClosest_80
        · rw [if_pos c_7] at hf
          refine lv_iload_n hx hb d_Pn_noteClosest_57 rfl (lv_at hl 2 rfl) ?_
          refine lv_aload_n hx hb d_Pn_noteClosest_58 rfl (lv_at hl 1 rfl) ?_
          refine va_get (D := D) (ci := 0) (v := .int (gi q_4.2 0)) (C := R_Pn) (T := F_Pn) (N := 8) hx hb hts (fun w h => List.mem_cons_of_mem _ (in_Pn w h)) hown hK hP 0 rfl rfl 6 (by decide) (hts _ (List.mem_cons_of_mem _ wd_233)) (fun _ h9 => h9) rfl d_Pn_noteClosest_59 ?_
          refine lv_icmp_ge (tgt := 80) hx hb d_Pn_noteClosest_62 (by decide) (fun c_8 => ?_) (fun c_8 => ?_)
          · rw [if_pos c_8] at hf
            cases hf
            exact hret _ _ _ _ _ rfl hP hD hS d_Pn_noteClosest_80
          · rw [if_neg c_8] at hf
            exact w_Pn_noteClosest_65 C0 hret    x1 x2 q_4.1 q_4.2 H locs ls hP hD hS (lv_sub hl [1, 2, 3, 0] rfl) hf
  · rw [if_pos c_1] at hf
    cases hf
    exact hret _ _ _ _ _ rfl hP hD hS d_Pn_noteClosest_5
def f_Pn_noteClosest (x1 : Int32) (x2 : Int32) (S : St) : Option St := f_Pn_noteClosest_0  x1 x2 S
theorem c_Pn_noteClosest (l : Launch) (D : va_G) (cA : ClassId) (ob ad : Nat → Nat) (x1 : Int32) (x2 : Int32)  (S : St) {res : St} (hf : f_Pn_noteClosest x1 x2 S = some res) : CTv l y_Pn_noteClosest w_Pn_noteClosest rm_Pn_noteClosest 0 0 D clC [(cA, .int)] [.ref (ob 0), .int x1, .int x2] (cw cA ob ad S) (fun w => w = cw cA ob ad res) :=
  mk_v (cc := b_Pn_noteClosest) (maxL := 5) (own := R_Pn) (by decide) rfl rfl (Nat.le_of_ble_eq_true rfl) (fun p e s m below meth c A Q C0 hret ls hl hP hD hS => w_Pn_noteClosest_0 C0 hret   x1 x2 S _ _ ls hP hD hS (lv_sub hl [0, 1, 2] rfl) hf)
def f_Nt_isEmpty_0    (S : St) : Option (Int32 × St) :=
  (if (gi S 6) = 0 then
    some (1, S)
    else
    some (0, S))
set_option maxHeartbeats 4000000 in
set_option maxRecDepth 100000 in
theorem w_Nt_isEmpty_0 (C0 : CX p s m args c b_Nt_isEmpty 1 R_Nt w_Nt_isEmpty D clC cA A) {res : (Int32 × St)} (hret : RTz p l e rm_Nt_isEmpty s m args below meth c Q D clC A b_Nt_isEmpty 0 0 (fun r w => r = res.1 ∧ w = cw cA ob ad res.2))    : ∀  (S : St) (H : Heap) (locs : List Loc) (ls : Array Slot), va_P D clC (cw cA ob ad S) H → va_D A (cw cA ob ad S) → va_S A s.heap H locs → lv_has ls 1 [(0, .ref (ob 3))] → f_Nt_isEmpty_0    S = some res → W p l e rm_Nt_isEmpty s m args below meth c H locs 0 0 Q (F0 m 0 ls []) := by
  obtain ⟨hx, hb, hml, hown, hts, hK, hA, hN⟩ := id C0
  intro  S H locs ls hP hD hS hl hf
  rw [f_Nt_isEmpty_0] at hf
  refine lv_aload_n hx hb d_Nt_isEmpty_0 rfl (lv_at hl 0 rfl) ?_
  refine va_get (D := D) (ci := 3) (v := .int (gi S 6)) (C := R_Nt) (T := F_Nt) (N := 13) hx hb hts (fun w h => List.mem_cons_of_mem _ (in_Nt w h)) hown hK hP 3 rfl rfl 9 (by decide) (hts _ (List.mem_cons_of_mem _ wd_149)) (fun _ h9 => h9) rfl d_Nt_isEmpty_1 ?_
  refine lv_if_ne (tgt := 11) hx hb d_Nt_isEmpty_4 (by decide) (fun c_1 => ?_) (fun c_1 => ?_)
  · rw [if_neg c_1] at hf
    refine lv_iconst (v := 0) hx hb d_Nt_isEmpty_11 (by decide) ?_
    cases hf
    exact hret _ _ _ _ _ _ ⟨rfl, rfl⟩ rfl hP hD hS d_Nt_isEmpty_12
  · rw [if_pos c_1] at hf
    refine lv_iconst (v := 1) hx hb d_Nt_isEmpty_7 (by decide) ?_
    refine lv_goto (tgt := 12) hx hb d_Nt_isEmpty_8 (by decide) ?_
    cases hf
    exact hret _ _ _ _ _ _ ⟨rfl, rfl⟩ rfl hP hD hS d_Nt_isEmpty_12
def f_Nt_isEmpty  (S : St) : Option (Int32 × St) := f_Nt_isEmpty_0   S
theorem c_Nt_isEmpty (l : Launch) (D : va_G) (cA : ClassId) (ob ad : Nat → Nat)   (S : St) {res : (Int32 × St)} (hf : f_Nt_isEmpty  S = some res) : CTi l y_Nt_isEmpty w_Nt_isEmpty rm_Nt_isEmpty 0 0 D clC [(cA, .int)] [.ref (ob 3)] (cw cA ob ad S) (fun r w => r = res.1 ∧ w = cw cA ob ad res.2) :=
  mk_z (cc := b_Nt_isEmpty) (maxL := 1) (own := R_Nt) (by decide) rfl rfl (Nat.le_of_ble_eq_true rfl) (fun p e s m below meth c A Q C0 hret ls hl hP hD hS => w_Nt_isEmpty_0 C0 hret    S _ _ ls hP hD hS (lv_sub hl [0] rfl) hf)
end
