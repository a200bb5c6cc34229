section
variable {p : Program} {l : Launch} {e : Env} {s : State} {m : MethodId} {args : Array Value} {below : List Frame} {meth : Method} {c : Code} {Q : State → Prop} {D : va_G} {cA cP : ClassId} {ob : Nat → Nat} {ad : Nat → Nat → Nat} {A : Nat → Prop}
def f_Md_locate_203  (k120 : Int32 → Int32 → Int32 → St → Option (Int32 × St)) (x1 : Int32) (x2 : Int32) (x4 : Int32) (t0 : Int32) (S : St) : Option (Int32 × St) :=
  (if t0 = 0 then
    bn (x4 + 1) (fun x4_2 => k120 x1 x2 x4_2 S)
    else
    as_ (inb x4 (gn S 3)) (as_ (inb x4 (gn S 4)) (as_ (inb x4 (gn S 5)) (bd (f_Md_found 1 (ga S 3 (Int32.toNatClampNeg x4)) (ga S 4 (Int32.toNatClampNeg x4)) (ga S 5 (Int32.toNatClampNeg x4)) S) (fun q_6 => some (q_6.1, q_6.2))))))
set_option maxHeartbeats 4000000 in
set_option maxRecDepth 100000 in
theorem w_Md_locate_203 (C0 : CX p s m args c b_Md_locate 6 R_Md w_Md_locate D clC cA cP A) {res : (Int32 × St)} (hret : RTi p l e rm_Md_locate s m args below meth c Q D clC A b_Md_locate 0 0 (fun r w => r = res.1 ∧ w = mw cA cP ob ad res.2))   (k120 : Int32 → Int32 → Int32 → St → Option (Int32 × St)) (hk120 : ∀ (x1 : Int32) (x2 : Int32) (x4 : Int32) (S : St) (H : Heap) (locs : List Loc) (ls : Array Slot), va_P D clC (mw cA cP ob ad S) H → va_D A (mw cA cP ob ad S) → va_S A s.heap H locs → lv_has ls 6 [(0, .ref (ob 0)), (1, .int x1), (2, .int x2), (4, .int x4)] → k120 x1 x2 x4 S = some res → W p l e rm_Md_locate s m args below meth c H locs 0 0 Q (F0 m 120 ls [])) : ∀ (x1 : Int32) (x2 : Int32) (x4 : Int32) (t0 : Int32) (S : St) (H : Heap) (locs : List Loc) (ls : Array Slot), va_P D clC (mw cA cP ob ad S) H → va_D A (mw cA cP ob ad S) → va_S A s.heap H locs → lv_has ls 6 [(0, .ref (ob 0)), (1, .int x1), (2, .int x2), (4, .int x4)] → f_Md_locate_203  k120 x1 x2 x4 t0 S = some res → W p l e rm_Md_locate s m args below meth c H locs 0 0 Q (F0 m 203 ls [.int t0]) := by
  obtain ⟨hx, hb, hml, hown, hts, hK, hA, hN, hZ⟩ := id C0
  intro x1 x2 x4 t0 S H locs ls hP hD hS hl hf
  rw [f_Md_locate_203] at hf
  refine lv_istore (lv' := [(5, .int t0), (0, .ref (ob 0)), (1, .int x1), (2, .int x2), (4, .int x4)]) hx hb d_Md_locate_203 hl (by decide) rfl (fun ls hl => ?_)
  refine lv_iload hx hb d_Md_locate_205 (lv_at hl 0 rfl) ?_
  refine lv_if_eq (tgt := 237) hx hb d_Md_locate_207 (by decide) (fun c_1 => ?_) (fun c_1 => ?_)
  · rw [if_pos c_1] at hf
    obtain ⟨x4_2, ex4_2, hf⟩ := bn_some hf
    refine lv_iinc (v := x4_2) (lv' := [(4, .int x4_2), (5, .int t0), (0, .ref (ob 0)), (1, .int x1), (2, .int x2)]) hx hb d_Md_locate_237 hl (k := 4) rfl (by rw [ex4_2]; rfl) (by decide) rfl (fun ls hl => ?_)
    refine lv_goto (tgt := 120) hx hb d_Md_locate_240 (by decide) ?_
    exact hk120 x1 x2 x4_2 S H locs ls hP hD hS (lv_sub hl [2, 3, 4, 0] rfl) hf
  · rw [if_neg c_1] at hf
    refine lv_aload_n hx hb d_Md_locate_210 rfl (lv_at hl 1 rfl) ?_
    refine lv_iconst (v := 1) hx hb d_Md_locate_211 (by decide) ?_
    refine lv_aload_n hx hb d_Md_locate_212 rfl (lv_at hl 1 rfl) ?_
    refine va_get (D := D) (ci := 7) (v := .ref (ob 3)) (C := R_Md) (T := F_Md) (N := 26) hx hb hts (fun w h => List.mem_cons_of_mem _ (in_Md w h)) hown hK hP 0 rfl rfl 7 (by decide) (hts _ (List.mem_cons_of_mem _ wd_829)) (fun _ h9 => h9) rfl d_Md_locate_213 ?_
    refine lv_iload hx hb d_Md_locate_216 (lv_at hl 4 rfl) ?_
    obtain ⟨hi_3, hf⟩ := as_some hf
    refine va_iald hx hb hK hP 3 0 rfl rfl (inb_in hi_3) d_Md_locate_218 ?_
    refine lv_aload_n hx hb d_Md_locate_219 rfl (lv_at hl 1 rfl) ?_
    refine va_get (D := D) (ci := 7) (v := .ref (ob 4)) (C := R_Md) (T := F_Md) (N := 26) hx hb hts (fun w h => List.mem_cons_of_mem _ (in_Md w h)) hown hK hP 0 rfl rfl 8 (by decide) (hts _ (List.mem_cons_of_mem _ wd_830)) (fun _ h9 => h9) rfl d_Md_locate_220 ?_
    refine lv_iload hx hb d_Md_locate_223 (lv_at hl 4 rfl) ?_
    obtain ⟨hi_4, hf⟩ := as_some hf
    refine va_iald hx hb hK hP 4 0 rfl rfl (inb_in hi_4) d_Md_locate_225 ?_
    refine lv_aload_n hx hb d_Md_locate_226 rfl (lv_at hl 1 rfl) ?_
    refine va_get (D := D) (ci := 7) (v := .ref (ob 5)) (C := R_Md) (T := F_Md) (N := 26) hx hb hts (fun w h => List.mem_cons_of_mem _ (in_Md w h)) hown hK hP 0 rfl rfl 9 (by decide) (hts _ (List.mem_cons_of_mem _ wd_831)) (fun _ h9 => h9) rfl d_Md_locate_227 ?_
    refine lv_iload hx hb d_Md_locate_230 (lv_at hl 4 rfl) ?_
    obtain ⟨hi_5, hf⟩ := as_some hf
    refine va_iald hx hb hK hP 5 0 rfl rfl (inb_in hi_5) d_Md_locate_232 ?_
    obtain ⟨q_6, hq_6, hf⟩ := bd_some hf
    refine kc_i (va_runV (As := [.int 1, .int (ga S 3 (Int32.toNatClampNeg x4)), .int (ga S 4 (Int32.toNatClampNeg x4)), .int (ga S 5 (Int32.toNatClampNeg x4))]) (rest := []) ⟨hx, hb, hml, hown, hts⟩ (c_Md_found l D cA cP ob ad 1 (ga S 3 (Int32.toNatClampNeg x4)) (ga S 4 (Int32.toNatClampNeg x4)) (ga S 5 (Int32.toNatClampNeg x4))  S hq_6 H.size) ⟨callB_of 4 hts (gd_Md_found) rfl rfl rfl (hts _ (List.mem_cons_of_mem _ wd_72)) (hts _ (List.mem_cons_of_mem _ wd_1064)) dd_Md_found ⟨Nat.le_of_ble_eq_true rfl, Nat.le_of_ble_eq_true rfl⟩, (hts _ (List.mem_cons_of_mem _ wd_1066)), (hts _ (List.mem_cons_of_mem _ wd_62))⟩ (kpV hK hP hD hN hZ hS 7 0 rfl rfl) rfl rfl hl.1 rfl (lv_room (Nat.le_of_ble_eq_true rfl)) d_Md_locate_233 ⟨Nat.le_of_ble_eq_true rfl, Nat.le_of_ble_eq_true rfl⟩) hP hD hS hA (fun r w H locs hw hP hD hS => ?_)
    obtain ⟨rfl, rfl⟩ := hw
    cases hf
    exact hret _ _ _ _ _ _ ⟨rfl, rfl⟩ hP hD hS d_Md_locate_236
def f_Md_locate_202  (k120 : Int32 → Int32 → Int32 → St → Option (Int32 × St)) (x1 : Int32) (x2 : Int32) (x4 : Int32) (S : St) : Option (Int32 × St) :=
  f_Md_locate_203  k120 x1 x2 x4 0 S
set_option maxHeartbeats 4000000 in
set_option maxRecDepth 100000 in
theorem w_Md_locate_202 (C0 : CX p s m args c b_Md_locate 6 R_Md w_Md_locate D clC cA cP A) {res : (Int32 × St)} (hret : RTi p l e rm_Md_locate s m args below meth c Q D clC A b_Md_locate 0 0 (fun r w => r = res.1 ∧ w = mw cA cP ob ad res.2))   (k120 : Int32 → Int32 → Int32 → St → Option (Int32 × St)) (hk120 : ∀ (x1 : Int32) (x2 : Int32) (x4 : Int32) (S : St) (H : Heap) (locs : List Loc) (ls : Array Slot), va_P D clC (mw cA cP ob ad S) H → va_D A (mw cA cP ob ad S) → va_S A s.heap H locs → lv_has ls 6 [(0, .ref (ob 0)), (1, .int x1), (2, .int x2), (4, .int x4)] → k120 x1 x2 x4 S = some res → W p l e rm_Md_locate s m args below meth c H locs 0 0 Q (F0 m 120 ls [])) : ∀ (x1 : Int32) (x2 : Int32) (x4 : Int32) (S : St) (H : Heap) (locs : List Loc) (ls : Array Slot), va_P D clC (mw cA cP ob ad S) H → va_D A (mw cA cP ob ad S) → va_S A s.heap H locs → lv_has ls 6 [(0, .ref (ob 0)), (1, .int x1), (2, .int x2), (4, .int x4)] → f_Md_locate_202  k120 x1 x2 x4 S = some res → W p l e rm_Md_locate s m args below meth c H locs 0 0 Q (F0 m 202 ls []) := by
  obtain ⟨hx, hb, hml, hown, hts, hK, hA, hN, hZ⟩ := id C0
  intro x1 x2 x4 S H locs ls hP hD hS hl hf
  rw [f_Md_locate_202] at hf
  refine lv_iconst (v := 0) hx hb d_Md_locate_202 (by decide) ?_
  exact w_Md_locate_203 C0 hret   k120 hk120 x1 x2 x4 0 S H locs ls hP hD hS (lv_sub hl [0, 1, 2, 3] rfl) hf
def f_Md_locate_120   : Nat → Int32 → Int32 → Int32 → St → Option (Int32 × St)
  | 0 => fun _ _ _ _ => none
  | n + 1 => fun x1 x2 x4 S => (if (gi S 4) ≤ x4 then
      bd (f_Md_found 0 (-1) (-1) (-1) S) (fun q_2 => some (q_2.1, q_2.2))
      else
      as_ (inb x4 (gn S 3)) (as_ (inb x4 (gn S 4)) (bd (f_Md_side (ga S 3 (Int32.toNatClampNeg x4)) (ga S 4 (Int32.toNatClampNeg x4)) x1 x2 S) (fun q_5 => (if q_5.1 ≤ 0 then
        f_Md_locate_202  (f_Md_locate_120  n) x1 x2 x4 q_5.2
        else
        as_ (inb x4 (gn q_5.2 4)) (as_ (inb x4 (gn q_5.2 5)) (bd (f_Md_side (ga q_5.2 4 (Int32.toNatClampNeg x4)) (ga q_5.2 5 (Int32.toNatClampNeg x4)) x1 x2 q_5.2) (fun q_9 => (if q_9.1 ≤ 0 then
          f_Md_locate_202  (f_Md_locate_120  n) x1 x2 x4 q_9.2
          else
          as_ (inb x4 (gn q_9.2 5)) (as_ (inb x4 (gn q_9.2 3)) (bd (f_Md_side (ga q_9.2 5 (Int32.toNatClampNeg x4)) (ga q_9.2 3 (Int32.toNatClampNeg x4)) x1 x2 q_9.2) (fun q_13 => (if q_13.1 ≤ 0 then
            f_Md_locate_202  (f_Md_locate_120  n) x1 x2 x4 q_13.2
            else
            f_Md_locate_203  (f_Md_locate_120  n) x1 x2 x4 1 q_13.2)))))))))))))
set_option maxHeartbeats 4000000 in
set_option maxRecDepth 100000 in
theorem w_Md_locate_120 (C0 : CX p s m args c b_Md_locate 6 R_Md w_Md_locate D clC cA cP A) {res : (Int32 × St)} (hret : RTi p l e rm_Md_locate s m args below meth c Q D clC A b_Md_locate 0 0 (fun r w => r = res.1 ∧ w = mw cA cP ob ad res.2))    : ∀ (n : Nat) (x1 : Int32) (x2 : Int32) (x4 : Int32) (S : St) (H : Heap) (locs : List Loc) (ls : Array Slot), va_P D clC (mw cA cP ob ad S) H → va_D A (mw cA cP ob ad S) → va_S A s.heap H locs → lv_has ls 6 [(0, .ref (ob 0)), (1, .int x1), (2, .int x2), (4, .int x4)] → f_Md_locate_120   n x1 x2 x4 S = some res → W p l e rm_Md_locate s m args below meth c H locs 0 0 Q (F0 m 120 ls []) := by
  obtain ⟨hx, hb, hml, hown, hts, hK, hA, hN, hZ⟩ := id C0
  intro n
  induction n with
  | zero =>
    intro x1 x2 x4 S H locs ls hP hD hS hl hf
    cases hf
  | succ n ih =>
    intro x1 x2 x4 S H locs ls hP hD hS hl hf
    rw [f_Md_locate_120] at hf
    try dsimp only at hf
    refine lv_iload hx hb d_Md_locate_120 (lv_at hl 3 rfl) ?_
    refine lv_aload_n hx hb d_Md_locate_122 rfl (lv_at hl 0 rfl) ?_
    refine va_get (D := D) (ci := 7) (v := .int (gi S 4)) (C := R_Md) (T := F_Md) (N := 26) hx hb hts (fun w h => List.mem_cons_of_mem _ (in_Md w h)) hown hK hP 0 rfl rfl 6 (by decide) (hts _ (List.mem_cons_of_mem _ wd_828)) (fun _ h9 => h9) rfl d_Md_locate_123 ?_
    refine lv_icmp_ge (tgt := 243) hx hb d_Md_locate_126 (by decide) (fun c_1 => ?_) (fun c_1 => ?_)
    · rw [if_pos c_1] at hf
      refine lv_aload_n hx hb d_Md_locate_243 rfl (lv_at hl 0 rfl) ?_
      refine lv_iconst (v := 0) hx hb d_Md_locate_244 (by decide) ?_
      refine lv_iconst (v := (-1)) hx hb d_Md_locate_245 (by decide) ?_
      refine lv_iconst (v := (-1)) hx hb d_Md_locate_246 (by decide) ?_
      refine lv_iconst (v := (-1)) hx hb d_Md_locate_247 (by decide) ?_
      obtain ⟨q_2, hq_2, hf⟩ := bd_some hf
      refine kc_i (va_runV (As := [.int 0, .int (-1), .int (-1), .int (-1)]) (rest := []) ⟨hx, hb, hml, hown, hts⟩ (c_Md_found l D cA cP ob ad 0 (-1) (-1) (-1)  S hq_2 H.size) ⟨callB_of 4 hts (gd_Md_found) rfl rfl rfl (hts _ (List.mem_cons_of_mem _ wd_72)) (hts _ (List.mem_cons_of_mem _ wd_1064)) dd_Md_found ⟨Nat.le_of_ble_eq_true rfl, Nat.le_of_ble_eq_true rfl⟩, (hts _ (List.mem_cons_of_mem _ wd_1066)), (hts _ (List.mem_cons_of_mem _ wd_62))⟩ (kpV hK hP hD hN hZ hS 7 0 rfl rfl) rfl rfl hl.1 rfl (lv_room (Nat.le_of_ble_eq_true rfl)) d_Md_locate_248 ⟨Nat.le_of_ble_eq_true rfl, Nat.le_of_ble_eq_true rfl⟩) hP hD hS hA (fun r w H locs hw hP hD hS => ?_)
      obtain ⟨rfl, rfl⟩ := hw
      cases hf
      exact hret _ _ _ _ _ _ ⟨rfl, rfl⟩ hP hD hS d_Md_locate_251
    · rw [if_neg c_1] at hf
      refine lv_aload_n hx hb d_Md_locate_129 rfl (lv_at hl 0 rfl) ?_
      refine lv_aload_n hx hb d_Md_locate_130 rfl (lv_at hl 0 rfl) ?_
      refine va_get (D := D) (ci := 7) (v := .ref (ob 3)) (C := R_Md) (T := F_Md) (N := 26) hx hb hts (fun w h => List.mem_cons_of_mem _ (in_Md w h)) hown hK hP 0 rfl rfl 7 (by decide) (hts _ (List.mem_cons_of_mem _ wd_829)) (fun _ h9 => h9) rfl d_Md_locate_131 ?_
      refine lv_iload hx hb d_Md_locate_134 (lv_at hl 3 rfl) ?_
      obtain ⟨hi_3, hf⟩ := as_some hf
      refine va_iald hx hb hK hP 3 0 rfl rfl (inb_in hi_3) d_Md_locate_136 ?_
      refine lv_aload_n hx hb d_Md_locate_137 rfl (lv_at hl 0 rfl) ?_
      refine va_get (D := D) (ci := 7) (v := .ref (ob 4)) (C := R_Md) (T := F_Md) (N := 26) hx hb hts (fun w h => List.mem_cons_of_mem _ (in_Md w h)) hown hK hP 0 rfl rfl 8 (by decide) (hts _ (List.mem_cons_of_mem _ wd_830)) (fun _ h9 => h9) rfl d_Md_locate_138 ?_
      refine lv_iload hx hb d_Md_locate_141 (lv_at hl 3 rfl) ?_
      obtain ⟨hi_4, hf⟩ := as_some hf
      refine va_iald hx hb hK hP 4 0 rfl rfl (inb_in hi_4) d_Md_locate_143 ?_
      refine lv_iload_n hx hb d_Md_locate_144 rfl (lv_at hl 1 rfl) ?_
      refine lv_iload_n hx hb d_Md_locate_145 rfl (lv_at hl 2 rfl) ?_
      obtain ⟨q_5, hq_5, hf⟩ := bd_some hf
      refine kc_i (va_runV (As := [.int (ga S 3 (Int32.toNatClampNeg x4)), .int (ga S 4 (Int32.toNatClampNeg x4)), .int x1, .int x2]) (rest := []) ⟨hx, hb, hml, hown, hts⟩ (c_Md_side l D cA cP ob ad (ga S 3 (Int32.toNatClampNeg x4)) (ga S 4 (Int32.toNatClampNeg x4)) x1 x2  S hq_5 H.size) ⟨callB_of 4 hts (gd_Md_side) rfl rfl rfl (hts _ (List.mem_cons_of_mem _ wd_72)) (hts _ (List.mem_cons_of_mem _ wd_965)) dd_Md_side ⟨Nat.le_of_ble_eq_true rfl, Nat.le_of_ble_eq_true rfl⟩, (hts _ (List.mem_cons_of_mem _ wd_967)), (hts _ (List.mem_cons_of_mem _ wd_43))⟩ (kpV hK hP hD hN hZ hS 7 0 rfl rfl) rfl rfl hl.1 rfl (lv_room (Nat.le_of_ble_eq_true rfl)) d_Md_locate_146 ⟨Nat.le_of_ble_eq_true rfl, Nat.le_of_ble_eq_true rfl⟩) hP hD hS hA (fun r w H locs hw hP hD hS => ?_)
      obtain ⟨rfl, rfl⟩ := hw
      refine lv_if_le (tgt := 202) hx hb d_Md_locate_149 (by decide) (fun c_6 => ?_) (fun c_6 => ?_)
      · rw [if_pos c_6] at hf
        exact w_Md_locate_202 C0 hret   (f_Md_locate_120  n) ih x1 x2 x4 q_5.2 H locs ls hP hD hS (lv_sub hl [0, 1, 2, 3] rfl) hf
      · rw [if_neg c_6] at hf
        refine lv_aload_n hx hb d_Md_locate_152 rfl (lv_at hl 0 rfl) ?_
        refine lv_aload_n hx hb d_Md_locate_153 rfl (lv_at hl 0 rfl) ?_
        refine va_get (D := D) (ci := 7) (v := .ref (ob 4)) (C := R_Md) (T := F_Md) (N := 26) hx hb hts (fun w h => List.mem_cons_of_mem _ (in_Md w h)) hown hK hP 0 rfl rfl 8 (by decide) (hts _ (List.mem_cons_of_mem _ wd_830)) (fun _ h9 => h9) rfl d_Md_locate_154 ?_
        refine lv_iload hx hb d_Md_locate_157 (lv_at hl 3 rfl) ?_
        obtain ⟨hi_7, hf⟩ := as_some hf
        refine va_iald hx hb hK hP 4 0 rfl rfl (inb_in hi_7) d_Md_locate_159 ?_
        refine lv_aload_n hx hb d_Md_locate_160 rfl (lv_at hl 0 rfl) ?_
        refine va_get (D := D) (ci := 7) (v := .ref (ob 5)) (C := R_Md) (T := F_Md) (N := 26) hx hb hts (fun w h => List.mem_cons_of_mem _ (in_Md w h)) hown hK hP 0 rfl rfl 9 (by decide) (hts _ (List.mem_cons_of_mem _ wd_831)) (fun _ h9 => h9) rfl d_Md_locate_161 ?_
        refine lv_iload hx hb d_Md_locate_164 (lv_at hl 3 rfl) ?_
        obtain ⟨hi_8, hf⟩ := as_some hf
        refine va_iald hx hb hK hP 5 0 rfl rfl (inb_in hi_8) d_Md_locate_166 ?_
        refine lv_iload_n hx hb d_Md_locate_167 rfl (lv_at hl 1 rfl) ?_
        refine lv_iload_n hx hb d_Md_locate_168 rfl (lv_at hl 2 rfl) ?_
        obtain ⟨q_9, hq_9, hf⟩ := bd_some hf
        refine kc_i (va_runV (As := [.int (ga q_5.2 4 (Int32.toNatClampNeg x4)), .int (ga q_5.2 5 (Int32.toNatClampNeg x4)), .int x1, .int x2]) (rest := []) ⟨hx, hb, hml, hown, hts⟩ (c_Md_side l D cA cP ob ad (ga q_5.2 4 (Int32.toNatClampNeg x4)) (ga q_5.2 5 (Int32.toNatClampNeg x4)) x1 x2  q_5.2 hq_9 H.size) ⟨callB_of 4 hts (gd_Md_side) rfl rfl rfl (hts _ (List.mem_cons_of_mem _ wd_72)) (hts _ (List.mem_cons_of_mem _ wd_965)) dd_Md_side ⟨Nat.le_of_ble_eq_true rfl, Nat.le_of_ble_eq_true rfl⟩, (hts _ (List.mem_cons_of_mem _ wd_967)), (hts _ (List.mem_cons_of_mem _ wd_43))⟩ (kpV hK hP hD hN hZ hS 7 0 rfl rfl) rfl rfl hl.1 rfl (lv_room (Nat.le_of_ble_eq_true rfl)) d_Md_locate_169 ⟨Nat.le_of_ble_eq_true rfl, Nat.le_of_ble_eq_true rfl⟩) hP hD hS hA (fun r w H locs hw hP hD hS => ?_)
        obtain ⟨rfl, rfl⟩ := hw
        refine lv_if_le (tgt := 202) hx hb d_Md_locate_172 (by decide) (fun c_10 => ?_) (fun c_10 => ?_)
        · rw [if_pos c_10] at hf
          exact w_Md_locate_202 C0 hret   (f_Md_locate_120  n) ih x1 x2 x4 q_9.2 H locs ls hP hD hS (lv_sub hl [0, 1, 2, 3] rfl) hf
        · rw [if_neg c_10] at hf
          refine lv_aload_n hx hb d_Md_locate_175 rfl (lv_at hl 0 rfl) ?_
          refine lv_aload_n hx hb d_Md_locate_176 rfl (lv_at hl 0 rfl) ?_
          refine va_get (D := D) (ci := 7) (v := .ref (ob 5)) (C := R_Md) (T := F_Md) (N := 26) hx hb hts (fun w h => List.mem_cons_of_mem _ (in_Md w h)) hown hK hP 0 rfl rfl 9 (by decide) (hts _ (List.mem_cons_of_mem _ wd_831)) (fun _ h9 => h9) rfl d_Md_locate_177 ?_
          refine lv_iload hx hb d_Md_locate_180 (lv_at hl 3 rfl) ?_
          obtain ⟨hi_11, hf⟩ := as_some hf
          refine va_iald hx hb hK hP 5 0 rfl rfl (inb_in hi_11) d_Md_locate_182 ?_
          refine lv_aload_n hx hb d_Md_locate_183 rfl (lv_at hl 0 rfl) ?_
          refine va_get (D := D) (ci := 7) (v := .ref (ob 3)) (C := R_Md) (T := F_Md) (N := 26) hx hb hts (fun w h => List.mem_cons_of_mem _ (in_Md w h)) hown hK hP 0 rfl rfl 7 (by decide) (hts _ (List.mem_cons_of_mem _ wd_829)) (fun _ h9 => h9) rfl d_Md_locate_184 ?_
          refine lv_iload hx hb d_Md_locate_187 (lv_at hl 3 rfl) ?_
          obtain ⟨hi_12, hf⟩ := as_some hf
          refine va_iald hx hb hK hP 3 0 rfl rfl (inb_in hi_12) d_Md_locate_189 ?_
          refine lv_iload_n hx hb d_Md_locate_190 rfl (lv_at hl 1 rfl) ?_
          refine lv_iload_n hx hb d_Md_locate_191 rfl (lv_at hl 2 rfl) ?_
          obtain ⟨q_13, hq_13, hf⟩ := bd_some hf
          refine kc_i (va_runV (As := [.int (ga q_9.2 5 (Int32.toNatClampNeg x4)), .int (ga q_9.2 3 (Int32.toNatClampNeg x4)), .int x1, .int x2]) (rest := []) ⟨hx, hb, hml, hown, hts⟩ (c_Md_side l D cA cP ob ad (ga q_9.2 5 (Int32.toNatClampNeg x4)) (ga q_9.2 3 (Int32.toNatClampNeg x4)) x1 x2  q_9.2 hq_13 H.size) ⟨callB_of 4 hts (gd_Md_side) rfl rfl rfl (hts _ (List.mem_cons_of_mem _ wd_72)) (hts _ (List.mem_cons_of_mem _ wd_965)) dd_Md_side ⟨Nat.le_of_ble_eq_true rfl, Nat.le_of_ble_eq_true rfl⟩, (hts _ (List.mem_cons_of_mem _ wd_967)), (hts _ (List.mem_cons_of_mem _ wd_43))⟩ (kpV hK hP hD hN hZ hS 7 0 rfl rfl) rfl rfl hl.1 rfl (lv_room (Nat.le_of_ble_eq_true rfl)) d_Md_locate_192 ⟨Nat.le_of_ble_eq_true rfl, Nat.le_of_ble_eq_true rfl⟩) hP hD hS hA (fun r w H locs hw hP hD hS => ?_)
          obtain ⟨rfl, rfl⟩ := hw
          refine lv_if_le (tgt := 202) hx hb d_Md_locate_195 (by decide) (fun c_14 => ?_) (fun c_14 => ?_)
          · rw [if_pos c_14] at hf
            exact w_Md_locate_202 C0 hret   (f_Md_locate_120  n) ih x1 x2 x4 q_13.2 H locs ls hP hD hS (lv_sub hl [0, 1, 2, 3] rfl) hf
          · rw [if_neg c_14] at hf
            refine lv_iconst (v := 1) hx hb d_Md_locate_198 (by decide) ?_
            refine lv_goto (tgt := 203) hx hb d_Md_locate_199 (by decide) ?_
            exact w_Md_locate_203 C0 hret   (f_Md_locate_120  n) ih x1 x2 x4 1 q_13.2 H locs ls hP hD hS (lv_sub hl [0, 1, 2, 3] rfl) hf
def f_Md_locate_105  (k46 : Int32 → Int32 → Int32 → St → Option (Int32 × St)) (k61 : Int32 → Int32 → Int32 → Int32 → St → Option (Int32 × St)) (x1 : Int32) (x2 : Int32) (x4 : Int32) (x5 : Int32) (S : St) : Option (Int32 × St) :=
  bn (x5 + 1) (fun x5_1 => k61 x1 x2 x4 x5_1 S)
set_option maxHeartbeats 4000000 in
set_option maxRecDepth 100000 in
theorem w_Md_locate_105 (C0 : CX p s m args c b_Md_locate 6 R_Md w_Md_locate D clC cA cP A) {res : (Int32 × St)} (hret : RTi p l e rm_Md_locate s m args below meth c Q D clC A b_Md_locate 0 0 (fun r w => r = res.1 ∧ w = mw cA cP ob ad res.2))   (k46 : Int32 → Int32 → Int32 → St → Option (Int32 × St)) (hk46 : ∀ (x1 : Int32) (x2 : Int32) (x4 : Int32) (S : St) (H : Heap) (locs : List Loc) (ls : Array Slot), va_P D clC (mw cA cP ob ad S) H → va_D A (mw cA cP ob ad S) → va_S A s.heap H locs → lv_has ls 6 [(0, .ref (ob 0)), (1, .int x1), (2, .int x2), (4, .int x4)] → k46 x1 x2 x4 S = some res → W p l e rm_Md_locate s m args below meth c H locs 0 0 Q (F0 m 46 ls [])) (k61 : Int32 → Int32 → Int32 → Int32 → St → Option (Int32 × St)) (hk61 : ∀ (x1 : Int32) (x2 : Int32) (x4 : Int32) (x5 : Int32) (S : St) (H : Heap) (locs : List Loc) (ls : Array Slot), va_P D clC (mw cA cP ob ad S) H → va_D A (mw cA cP ob ad S) → va_S A s.heap H locs → lv_has ls 6 [(0, .ref (ob 0)), (1, .int x1), (2, .int x2), (4, .int x4), (5, .int x5)] → k61 x1 x2 x4 x5 S = some res → W p l e rm_Md_locate s m args below meth c H locs 0 0 Q (F0 m 61 ls [])) : ∀ (x1 : Int32) (x2 : Int32) (x4 : Int32) (x5 : Int32) (S : St) (H : Heap) (locs : List Loc) (ls : Array Slot), va_P D clC (mw cA cP ob ad S) H → va_D A (mw cA cP ob ad S) → va_S A s.heap H locs → lv_has ls 6 [(0, .ref (ob 0)), (1, .int x1), (2, .int x2), (4, .int x4), (5, .int x5)] → f_Md_locate_105  k46 k61 x1 x2 x4 x5 S = some res → W p l e rm_Md_locate s m args below meth c H locs 0 0 Q (F0 m 105 ls []) := by
  obtain ⟨hx, hb, hml, hown, hts, hK, hA, hN, hZ⟩ := id C0
  intro x1 x2 x4 x5 S H locs ls hP hD hS hl hf
  rw [f_Md_locate_105] at hf
  obtain ⟨x5_1, ex5_1, hf⟩ := bn_some hf
  refine lv_iinc (v := x5_1) (lv' := [(5, .int x5_1), (0, .ref (ob 0)), (1, .int x1), (2, .int x2), (4, .int x4)]) hx hb d_Md_locate_105 hl (k := 4) rfl (by rw [ex5_1]; rfl) (by decide) rfl (fun ls hl => ?_)
  refine lv_goto (tgt := 61) hx hb d_Md_locate_108 (by decide) ?_
  exact hk61 x1 x2 x4 x5_1 S H locs ls hP hD hS (lv_sub hl [1, 2, 3, 4, 0] rfl) hf
def f_Md_locate_61  (k46 : Int32 → Int32 → Int32 → St → Option (Int32 × St)) : Nat → Int32 → Int32 → Int32 → Int32 → St → Option (Int32 × St)
  | 0 => fun _ _ _ _ _ => none
  | n + 1 => fun x1 x2 x4 x5 S => (if (gi S 2) ≤ x5 then
      bn (x4 + 1) (fun x4_2 => k46 x1 x2 x4_2 S)
      else
      bd (f_Md_isOn x1 x2 x4 x5 S) (fun q_3 => (if q_3.1 = 0 then
        f_Md_locate_105  k46 (f_Md_locate_61 k46 n) x1 x2 x4 x5 q_3.2
        else
        bd (f_Md_areNeighbours x4 x5 q_3.2) (fun q_5 => (if q_5.1 = 0 then
          f_Md_locate_105  k46 (f_Md_locate_61 k46 n) x1 x2 x4 x5 q_5.2
          else
          bd (f_Md_found 2 x4 x5 (-1) q_5.2) (fun q_7 => some (q_7.1, q_7.2)))))))
set_option maxHeartbeats 4000000 in
set_option maxRecDepth 100000 in
theorem w_Md_locate_61 (C0 : CX p s m args c b_Md_locate 6 R_Md w_Md_locate D clC cA cP A) {res : (Int32 × St)} (hret : RTi p l e rm_Md_locate s m args below meth c Q D clC A b_Md_locate 0 0 (fun r w => r = res.1 ∧ w = mw cA cP ob ad res.2))   (k46 : Int32 → Int32 → Int32 → St → Option (Int32 × St)) (hk46 : ∀ (x1 : Int32) (x2 : Int32) (x4 : Int32) (S : St) (H : Heap) (locs : List Loc) (ls : Array Slot), va_P D clC (mw cA cP ob ad S) H → va_D A (mw cA cP ob ad S) → va_S A s.heap H locs → lv_has ls 6 [(0, .ref (ob 0)), (1, .int x1), (2, .int x2), (4, .int x4)] → k46 x1 x2 x4 S = some res → W p l e rm_Md_locate s m args below meth c H locs 0 0 Q (F0 m 46 ls [])) : ∀ (n : Nat) (x1 : Int32) (x2 : Int32) (x4 : Int32) (x5 : Int32) (S : St) (H : Heap) (locs : List Loc) (ls : Array Slot), va_P D clC (mw cA cP ob ad S) H → va_D A (mw cA cP ob ad S) → va_S A s.heap H locs → lv_has ls 6 [(0, .ref (ob 0)), (1, .int x1), (2, .int x2), (4, .int x4), (5, .int x5)] → f_Md_locate_61  k46 n x1 x2 x4 x5 S = some res → W p l e rm_Md_locate s m args below meth c H locs 0 0 Q (F0 m 61 ls []) := by
  obtain ⟨hx, hb, hml, hown, hts, hK, hA, hN, hZ⟩ := id C0
  intro n
  induction n with
  | zero =>
    intro x1 x2 x4 x5 S H locs ls hP hD hS hl hf
    cases hf
  | succ n ih =>
    intro x1 x2 x4 x5 S H locs ls hP hD hS hl hf
    rw [f_Md_locate_61] at hf
    try dsimp only at hf
    refine lv_iload hx hb d_Md_locate_61 (lv_at hl 4 rfl) ?_
    refine lv_aload_n hx hb d_Md_locate_63 rfl (lv_at hl 0 rfl) ?_
    refine va_get (D := D) (ci := 7) (v := .int (gi S 2)) (C := R_Md) (T := F_Md) (N := 26) hx hb hts (fun w h => List.mem_cons_of_mem _ (in_Md w h)) hown hK hP 0 rfl rfl 2 (by decide) (hts _ (List.mem_cons_of_mem _ wd_824)) (fun _ h9 => h9) rfl d_Md_locate_64 ?_
    refine lv_icmp_ge (tgt := 111) hx hb d_Md_locate_67 (by decide) (fun c_1 => ?_) (fun c_1 => ?_)
    · rw [if_pos c_1] at hf
      obtain ⟨x4_2, ex4_2, hf⟩ := bn_some hf
      refine lv_iinc (v := x4_2) (lv' := [(4, .int x4_2), (0, .ref (ob 0)), (1, .int x1), (2, .int x2), (5, .int x5)]) hx hb d_Md_locate_111 hl (k := 3) rfl (by rw [ex4_2]; rfl) (by decide) rfl (fun ls hl => ?_)
      refine lv_goto (tgt := 46) hx hb d_Md_locate_114 (by decide) ?_
      exact hk46 x1 x2 x4_2 S H locs ls hP hD hS (lv_sub hl [1, 2, 3, 0] rfl) hf
    · rw [if_neg c_1] at hf
      refine lv_aload_n hx hb d_Md_locate_70 rfl (lv_at hl 0 rfl) ?_
      refine lv_iload_n hx hb d_Md_locate_71 rfl (lv_at hl 1 rfl) ?_
      refine lv_iload_n hx hb d_Md_locate_72 rfl (lv_at hl 2 rfl) ?_
      refine lv_iload hx hb d_Md_locate_73 (lv_at hl 3 rfl) ?_
      refine lv_iload hx hb d_Md_locate_75 (lv_at hl 4 rfl) ?_
      obtain ⟨q_3, hq_3, hf⟩ := bd_some hf
      refine kc_i (va_runV (As := [.int x1, .int x2, .int x4, .int x5]) (rest := []) ⟨hx, hb, hml, hown, hts⟩ (c_Md_isOn l D cA cP ob ad x1 x2 x4 x5  S hq_3 H.size) ⟨callB_of 4 hts (gd_Md_isOn) rfl rfl rfl (hts _ (List.mem_cons_of_mem _ wd_72)) (hts _ (List.mem_cons_of_mem _ wd_1044)) dd_Md_isOn ⟨Nat.le_of_ble_eq_true rfl, Nat.le_of_ble_eq_true rfl⟩, (hts _ (List.mem_cons_of_mem _ wd_1046)), (hts _ (List.mem_cons_of_mem _ wd_59))⟩ (kpV hK hP hD hN hZ hS 7 0 rfl rfl) rfl rfl hl.1 rfl (lv_room (Nat.le_of_ble_eq_true rfl)) d_Md_locate_77 ⟨Nat.le_of_ble_eq_true rfl, Nat.le_of_ble_eq_true rfl⟩) hP hD hS hA (fun r w H locs hw hP hD hS => ?_)
      obtain ⟨rfl, rfl⟩ := hw
      refine lv_if_eq (tgt := 105) hx hb d_Md_locate_80 (by decide) (fun c_4 => ?_) (fun c_4 => ?_)
      · rw [if_pos c_4] at hf
        exact w_Md_locate_105 C0 hret   k46 hk46 (f_Md_locate_61 k46 n) ih x1 x2 x4 x5 q_3.2 H locs ls hP hD hS (lv_sub hl [0, 1, 2, 3, 4] rfl) hf
      · rw [if_neg c_4] at hf
        refine lv_aload_n hx hb d_Md_locate_83 rfl (lv_at hl 0 rfl) ?_
        refine lv_iload hx hb d_Md_locate_84 (lv_at hl 3 rfl) ?_
        refine lv_iload hx hb d_Md_locate_86 (lv_at hl 4 rfl) ?_
        obtain ⟨q_5, hq_5, hf⟩ := bd_some hf
        refine kc_i (va_runV (As := [.int x4, .int x5]) (rest := []) ⟨hx, hb, hml, hown, hts⟩ (c_Md_areNeighbours l D cA cP ob ad x4 x5  q_3.2 hq_5 H.size) ⟨callB_of 2 hts (gd_Md_areNeighbours) rfl rfl rfl (hts _ (List.mem_cons_of_mem _ wd_72)) (hts _ (List.mem_cons_of_mem _ wd_1040)) dd_Md_areNeighbours ⟨Nat.le_of_ble_eq_true rfl, Nat.le_of_ble_eq_true rfl⟩, (hts _ (List.mem_cons_of_mem _ wd_1042)), (hts _ (List.mem_cons_of_mem _ wd_58))⟩ (kpV hK hP hD hN hZ hS 7 0 rfl rfl) rfl rfl hl.1 rfl (lv_room (Nat.le_of_ble_eq_true rfl)) d_Md_locate_88 ⟨Nat.le_of_ble_eq_true rfl, Nat.le_of_ble_eq_true rfl⟩) hP hD hS hA (fun r w H locs hw hP hD hS => ?_)
        obtain ⟨rfl, rfl⟩ := hw
        refine lv_if_eq (tgt := 105) hx hb d_Md_locate_91 (by decide) (fun c_6 => ?_) (fun c_6 => ?_)
        · rw [if_pos c_6] at hf
          exact w_Md_locate_105 C0 hret   k46 hk46 (f_Md_locate_61 k46 n) ih x1 x2 x4 x5 q_5.2 H locs ls hP hD hS (lv_sub hl [0, 1, 2, 3, 4] rfl) hf
        · rw [if_neg c_6] at hf
          refine lv_aload_n hx hb d_Md_locate_94 rfl (lv_at hl 0 rfl) ?_
          refine lv_iconst (v := 2) hx hb d_Md_locate_95 (by decide) ?_
          refine lv_iload hx hb d_Md_locate_96 (lv_at hl 3 rfl) ?_
          refine lv_iload hx hb d_Md_locate_98 (lv_at hl 4 rfl) ?_
          refine lv_iconst (v := (-1)) hx hb d_Md_locate_100 (by decide) ?_
          obtain ⟨q_7, hq_7, hf⟩ := bd_some hf
          refine kc_i (va_runV (As := [.int 2, .int x4, .int x5, .int (-1)]) (rest := []) ⟨hx, hb, hml, hown, hts⟩ (c_Md_found l D cA cP ob ad 2 x4 x5 (-1)  q_5.2 hq_7 H.size) ⟨callB_of 4 hts (gd_Md_found) rfl rfl rfl (hts _ (List.mem_cons_of_mem _ wd_72)) (hts _ (List.mem_cons_of_mem _ wd_1064)) dd_Md_found ⟨Nat.le_of_ble_eq_true rfl, Nat.le_of_ble_eq_true rfl⟩, (hts _ (List.mem_cons_of_mem _ wd_1066)), (hts _ (List.mem_cons_of_mem _ wd_62))⟩ (kpV hK hP hD hN hZ hS 7 0 rfl rfl) rfl rfl hl.1 rfl (lv_room (Nat.le_of_ble_eq_true rfl)) d_Md_locate_101 ⟨Nat.le_of_ble_eq_true rfl, Nat.le_of_ble_eq_true rfl⟩) hP hD hS hA (fun r w H locs hw hP hD hS => ?_)
          obtain ⟨rfl, rfl⟩ := hw
          cases hf
          exact hret _ _ _ _ _ _ ⟨rfl, rfl⟩ hP hD hS d_Md_locate_104
def f_Md_locate_46   : Nat → Int32 → Int32 → Int32 → St → Option (Int32 × St)
  | 0 => fun _ _ _ _ => none
  | n + 1 => fun x1 x2 x4 S => (if (gi S 2) ≤ x4 then
      f_Md_locate_120   FU x1 x2 0 S
      else
      bn (x4 + 1) (fun x5_2 => f_Md_locate_61  (f_Md_locate_46  n) FU x1 x2 x4 x5_2 S))
set_option maxHeartbeats 4000000 in
set_option maxRecDepth 100000 in
theorem w_Md_locate_46 (C0 : CX p s m args c b_Md_locate 6 R_Md w_Md_locate D clC cA cP A) {res : (Int32 × St)} (hret : RTi p l e rm_Md_locate s m args below meth c Q D clC A b_Md_locate 0 0 (fun r w => r = res.1 ∧ w = mw cA cP ob ad res.2))    : ∀ (n : Nat) (x1 : Int32) (x2 : Int32) (x4 : Int32) (S : St) (H : Heap) (locs : List Loc) (ls : Array Slot), va_P D clC (mw cA cP ob ad S) H → va_D A (mw cA cP ob ad S) → va_S A s.heap H locs → lv_has ls 6 [(0, .ref (ob 0)), (1, .int x1), (2, .int x2), (4, .int x4)] → f_Md_locate_46   n x1 x2 x4 S = some res → W p l e rm_Md_locate s m args below meth c H locs 0 0 Q (F0 m 46 ls []) := by
  obtain ⟨hx, hb, hml, hown, hts, hK, hA, hN, hZ⟩ := id C0
  intro n
  induction n with
  | zero =>
    intro x1 x2 x4 S H locs ls hP hD hS hl hf
    cases hf
  | succ n ih =>
    intro x1 x2 x4 S H locs ls hP hD hS hl hf
    rw [f_Md_locate_46] at hf
    try dsimp only at hf
    refine lv_iload hx hb d_Md_locate_46 (lv_at hl 3 rfl) ?_
    refine lv_aload_n hx hb d_Md_locate_48 rfl (lv_at hl 0 rfl) ?_
    refine va_get (D := D) (ci := 7) (v := .int (gi S 2)) (C := R_Md) (T := F_Md) (N := 26) hx hb hts (fun w h => List.mem_cons_of_mem _ (in_Md w h)) hown hK hP 0 rfl rfl 2 (by decide) (hts _ (List.mem_cons_of_mem _ wd_824)) (fun _ h9 => h9) rfl d_Md_locate_49 ?_
    refine lv_icmp_ge (tgt := 117) hx hb d_Md_locate_52 (by decide) (fun c_1 => ?_) (fun c_1 => ?_)
    · rw [if_pos c_1] at hf
      refine lv_iconst (v := 0) hx hb d_Md_locate_117 (by decide) ?_
      refine lv_istore (lv' := [(4, .int 0), (0, .ref (ob 0)), (1, .int x1), (2, .int x2)]) hx hb d_Md_locate_118 hl (by decide) rfl (fun ls hl => ?_)
      exact w_Md_locate_120 C0 hret    FU x1 x2 0 S H locs ls hP hD hS (lv_sub hl [1, 2, 3, 0] rfl) hf
    · rw [if_neg c_1] at hf
      refine lv_iload hx hb d_Md_locate_55 (lv_at hl 3 rfl) ?_
      refine lv_iconst (v := 1) hx hb d_Md_locate_57 (by decide) ?_
      refine lv_iadd hx hb d_Md_locate_58 ?_
      obtain ⟨x5_2, ex5_2, hf⟩ := bn_some hf
      refine tpi ex5_2 ?_
      refine lv_istore (lv' := [(5, .int x5_2), (0, .ref (ob 0)), (1, .int x1), (2, .int x2), (4, .int x4)]) hx hb d_Md_locate_59 hl (by decide) rfl (fun ls hl => ?_)
      exact w_Md_locate_61 C0 hret   (f_Md_locate_46  n) ih FU x1 x2 x4 x5_2 S H locs ls hP hD hS (lv_sub hl [1, 2, 3, 4, 0] rfl) hf
def f_Md_locate_0   (x1 : Int32) (x2 : Int32) (S : St) : Option (Int32 × St) :=
  bn (seti S 0 0) (fun S_1 => bd (f_Md_isFar x1 x2 S_1) (fun q_2 => (if q_2.1 = 0 then
    bd (f_Md_know  q_2.2) (fun q_4 => bd (f_Md_findPoint x1 x2 q_4) (fun q_5 => (if q_5.1 < 0 then
      f_Md_locate_46   FU x1 x2 0 q_5.2
      else
      bd (f_Md_found 3 q_5.1 (-1) (-1) q_5.2) (fun q_7 => some (q_7.1, q_7.2)))))
    else
    bd (f_Md_fail 1 q_2.2) (fun q_8 => some (q_8.1, q_8.2)))))
set_option maxHeartbeats 4000000 in
set_option maxRecDepth 100000 in
theorem w_Md_locate_0 (C0 : CX p s m args c b_Md_locate 6 R_Md w_Md_locate D clC cA cP A) {res : (Int32 × St)} (hret : RTi p l e rm_Md_locate s m args below meth c Q D clC A b_Md_locate 0 0 (fun r w => r = res.1 ∧ w = mw cA cP ob ad res.2))    : ∀ (x1 : Int32) (x2 : Int32) (S : St) (H : Heap) (locs : List Loc) (ls : Array Slot), va_P D clC (mw cA cP ob ad S) H → va_D A (mw cA cP ob ad S) → va_S A s.heap H locs → lv_has ls 6 [(0, .ref (ob 0)), (1, .int x1), (2, .int x2)] → f_Md_locate_0   x1 x2 S = some res → W p l e rm_Md_locate s m args below meth c H locs 0 0 Q (F0 m 0 ls []) := by
  obtain ⟨hx, hb, hml, hown, hts, hK, hA, hN, hZ⟩ := id C0
  intro x1 x2 S H locs ls hP hD hS hl hf
  rw [f_Md_locate_0] at hf
  refine lv_aload_n hx hb d_Md_locate_0 rfl (lv_at hl 0 rfl) ?_
  refine lv_iconst (v := 0) hx hb d_Md_locate_1 (by decide) ?_
  obtain ⟨S_1, eS_1, hf⟩ := bn_some hf
  refine va_put (D := D) (ci := 7) (v := .int 0) (ty := .int) (C := R_Md) (T := F_Md) (N := 26) hx hb hts (fun w h => List.mem_cons_of_mem _ (in_Md w h)) t_Md tk_Md nk_Md hown hK hP hD hS 0 rfl rfl 0 (by decide) (hts _ (List.mem_cons_of_mem _ wd_822)) (fun _ h9 => h9) rfl (by decide +kernel) rfl rfl (Nat.le_of_ble_eq_true rfl) d_Md_locate_2 (fun H locs hP hD hS => ?_)
  have hP : va_P D clC (mw cA cP ob ad S_1) H := by rw [eS_1]; exact hP
  have hD : va_D A (mw cA cP ob ad S_1) := by rw [eS_1]; exact hD
  refine lv_iload_n hx hb d_Md_locate_5 rfl (lv_at hl 1 rfl) ?_
  refine lv_iload_n hx hb d_Md_locate_6 rfl (lv_at hl 2 rfl) ?_
  obtain ⟨q_2, hq_2, hf⟩ := bd_some hf
  refine kc_i (va_runS (As := [.int x1, .int x2]) (rest := []) ⟨hx, hb, hml, hown, hts⟩ (c_Md_isFar l D cA cP ob ad x1 x2  S_1 hq_2 H.size) ⟨callB_of 2 hts (gd_Md_isFar) rfl rfl rfl (hts _ (List.mem_cons_of_mem _ wd_72)) (hts _ (List.mem_cons_of_mem _ wd_909)) dd_Md_isFar ⟨Nat.le_of_ble_eq_true rfl, Nat.le_of_ble_eq_true rfl⟩, (hts _ (List.mem_cons_of_mem _ wd_910))⟩ (kpS hK hP hD hN hZ hS) rfl rfl hl.1 rfl (lv_room (Nat.le_of_ble_eq_true rfl)) d_Md_locate_7 ⟨Nat.le_of_ble_eq_true rfl, Nat.le_of_ble_eq_true rfl⟩) hP hD hS hA (fun r w H locs hw hP hD hS => ?_)
  obtain ⟨rfl, rfl⟩ := hw
  refine lv_if_eq (tgt := 19) hx hb d_Md_locate_10 (by decide) (fun c_3 => ?_) (fun c_3 => ?_)
  · rw [if_pos c_3] at hf
    refine lv_aload_n hx hb d_Md_locate_19 rfl (lv_at hl 0 rfl) ?_
    obtain ⟨q_4, hq_4, hf⟩ := bd_some hf
    refine kc_v (va_runV (As := []) (rest := []) ⟨hx, hb, hml, hown, hts⟩ (c_Md_know l D cA cP ob ad   q_2.2 hq_4 H.size) ⟨callB_of 0 hts (gd_Md_know) rfl rfl rfl (hts _ (List.mem_cons_of_mem _ wd_72)) (hts _ (List.mem_cons_of_mem _ wd_941)) dd_Md_know ⟨Nat.le_of_ble_eq_true rfl, Nat.le_of_ble_eq_true rfl⟩, (hts _ (List.mem_cons_of_mem _ wd_943)), (hts _ (List.mem_cons_of_mem _ wd_37))⟩ (kpV hK hP hD hN hZ hS 7 0 rfl rfl) rfl rfl hl.1 rfl (lv_room (Nat.le_of_ble_eq_true rfl)) d_Md_locate_20 ⟨Nat.le_of_ble_eq_true rfl, Nat.le_of_ble_eq_true rfl⟩) hP hD hS hA (fun w H locs hw hP hD hS => ?_)
    obtain rfl := hw
    refine lv_aload_n hx hb d_Md_locate_23 rfl (lv_at hl 0 rfl) ?_
    refine lv_iload_n hx hb d_Md_locate_24 rfl (lv_at hl 1 rfl) ?_
    refine lv_iload_n hx hb d_Md_locate_25 rfl (lv_at hl 2 rfl) ?_
    obtain ⟨q_5, hq_5, hf⟩ := bd_some hf
    refine kc_i (va_runV (As := [.int x1, .int x2]) (rest := []) ⟨hx, hb, hml, hown, hts⟩ (c_Md_findPoint l D cA cP ob ad x1 x2  q_4 hq_5 H.size) ⟨callB_of 2 hts (gd_Md_findPoint) rfl rfl rfl (hts _ (List.mem_cons_of_mem _ wd_72)) (hts _ (List.mem_cons_of_mem _ wd_921)) dd_Md_findPoint ⟨Nat.le_of_ble_eq_true rfl, Nat.le_of_ble_eq_true rfl⟩, (hts _ (List.mem_cons_of_mem _ wd_923)), (hts _ (List.mem_cons_of_mem _ wd_35))⟩ (kpV hK hP hD hN hZ hS 7 0 rfl rfl) rfl rfl hl.1 rfl (lv_room (Nat.le_of_ble_eq_true rfl)) d_Md_locate_26 ⟨Nat.le_of_ble_eq_true rfl, Nat.le_of_ble_eq_true rfl⟩) hP hD hS hA (fun r w H locs hw hP hD hS => ?_)
    obtain ⟨rfl, rfl⟩ := hw
    refine lv_istore_n (lv' := [(3, .int q_5.1), (0, .ref (ob 0)), (1, .int x1), (2, .int x2)]) hx hb d_Md_locate_29 rfl hl (by decide) rfl (fun ls hl => ?_)
    refine lv_iload_n hx hb d_Md_locate_30 rfl (lv_at hl 0 rfl) ?_
    refine lv_if_lt (tgt := 43) hx hb d_Md_locate_31 (by decide) (fun c_6 => ?_) (fun c_6 => ?_)
    · rw [if_pos c_6] at hf
      refine lv_iconst (v := 0) hx hb d_Md_locate_43 (by decide) ?_
      refine lv_istore (lv' := [(4, .int 0), (3, .int q_5.1), (0, .ref (ob 0)), (1, .int x1), (2, .int x2)]) hx hb d_Md_locate_44 hl (by decide) rfl (fun ls hl => ?_)
      exact w_Md_locate_46 C0 hret    FU x1 x2 0 q_5.2 H locs ls hP hD hS (lv_sub hl [2, 3, 4, 0] rfl) hf
    · rw [if_neg c_6] at hf
      refine lv_aload_n hx hb d_Md_locate_34 rfl (lv_at hl 1 rfl) ?_
      refine lv_iconst (v := 3) hx hb d_Md_locate_35 (by decide) ?_
      refine lv_iload_n hx hb d_Md_locate_36 rfl (lv_at hl 0 rfl) ?_
      refine lv_iconst (v := (-1)) hx hb d_Md_locate_37 (by decide) ?_
      refine lv_iconst (v := (-1)) hx hb d_Md_locate_38 (by decide) ?_
      obtain ⟨q_7, hq_7, hf⟩ := bd_some hf
      refine kc_i (va_runV (As := [.int 3, .int q_5.1, .int (-1), .int (-1)]) (rest := []) ⟨hx, hb, hml, hown, hts⟩ (c_Md_found l D cA cP ob ad 3 q_5.1 (-1) (-1)  q_5.2 hq_7 H.size) ⟨callB_of 4 hts (gd_Md_found) rfl rfl rfl (hts _ (List.mem_cons_of_mem _ wd_72)) (hts _ (List.mem_cons_of_mem _ wd_1064)) dd_Md_found ⟨Nat.le_of_ble_eq_true rfl, Nat.le_of_ble_eq_true rfl⟩, (hts _ (List.mem_cons_of_mem _ wd_1066)), (hts _ (List.mem_cons_of_mem _ wd_62))⟩ (kpV hK hP hD hN hZ hS 7 0 rfl rfl) rfl rfl hl.1 rfl (lv_room (Nat.le_of_ble_eq_true rfl)) d_Md_locate_39 ⟨Nat.le_of_ble_eq_true rfl, Nat.le_of_ble_eq_true rfl⟩) hP hD hS hA (fun r w H locs hw hP hD hS => ?_)
      obtain ⟨rfl, rfl⟩ := hw
      cases hf
      exact hret _ _ _ _ _ _ ⟨rfl, rfl⟩ hP hD hS d_Md_locate_42
  · rw [if_neg c_3] at hf
    refine lv_aload_n hx hb d_Md_locate_13 rfl (lv_at hl 0 rfl) ?_
    refine lv_iconst (v := 1) hx hb d_Md_locate_14 (by decide) ?_
    obtain ⟨q_8, hq_8, hf⟩ := bd_some hf
    refine kc_i (va_runV (As := [.int 1]) (rest := []) ⟨hx, hb, hml, hown, hts⟩ (c_Md_fail l D cA cP ob ad 1  q_2.2 hq_8 H.size) ⟨callB_of 1 hts (gd_Md_fail) rfl rfl rfl (hts _ (List.mem_cons_of_mem _ wd_72)) (hts _ (List.mem_cons_of_mem _ wd_917)) dd_Md_fail ⟨Nat.le_of_ble_eq_true rfl, Nat.le_of_ble_eq_true rfl⟩, (hts _ (List.mem_cons_of_mem _ wd_919)), (hts _ (List.mem_cons_of_mem _ wd_34))⟩ (kpV hK hP hD hN hZ hS 7 0 rfl rfl) rfl rfl hl.1 rfl (lv_room (Nat.le_of_ble_eq_true rfl)) d_Md_locate_15 ⟨Nat.le_of_ble_eq_true rfl, Nat.le_of_ble_eq_true rfl⟩) hP hD hS hA (fun r w H locs hw hP hD hS => ?_)
    obtain ⟨rfl, rfl⟩ := hw
    cases hf
    exact hret _ _ _ _ _ _ ⟨rfl, rfl⟩ hP hD hS d_Md_locate_18
def f_Md_locate (x1 : Int32) (x2 : Int32) (S : St) : Option (Int32 × St) := f_Md_locate_0  x1 x2 S
theorem c_Md_locate (l : Launch) (D : va_G) (cA cP : ClassId) (ob : Nat → Nat) (ad : Nat → Nat → Nat) (x1 : Int32) (x2 : Int32)  (S : St) {res : (Int32 × St)} (hf : f_Md_locate x1 x2 S = some res) : CTi l y_Md_locate w_Md_locate rm_Md_locate 0 0 D clC (TY cA cP) [.ref (ob 0), .int x1, .int x2] (mw cA cP ob ad S) (fun r w => r = res.1 ∧ w = mw cA cP ob ad res.2) :=
  mk_i (cc := b_Md_locate) (maxL := 6) (own := R_Md) (by decide) rfl rfl (Nat.le_of_ble_eq_true rfl) (fun p e s m below meth c A Q C0 hret ls hl hP hD hS => w_Md_locate_0 C0 hret   x1 x2 S _ _ ls hP hD hS (lv_sub hl [0, 1, 2] rfl) hf)
def f_Md_located_0   (x1 : Int32) (S : St) : Option (Int32 × St) :=
  bn (seti S 0 0) (fun S_1 => bd (f_Md_within x1 0 2 S_1) (fun q_2 => (if q_2.1 = 0 then
    some ((-1), q_2.2)
    else
    as_ (inb x1 (gn q_2.2 11)) (some ((ga q_2.2 11 (Int32.toNatClampNeg x1)), q_2.2)))))
set_option maxHeartbeats 4000000 in
set_option maxRecDepth 100000 in
theorem w_Md_located_0 (C0 : CX p s m args c b_Md_located 2 R_Md w_Md_located D clC cA cP A) {res : (Int32 × St)} (hret : RTi p l e rm_Md_located s m args below meth c Q D clC A b_Md_located 0 0 (fun r w => r = res.1 ∧ w = mw cA cP ob ad res.2))    : ∀ (x1 : Int32) (S : St) (H : Heap) (locs : List Loc) (ls : Array Slot), va_P D clC (mw cA cP ob ad S) H → va_D A (mw cA cP ob ad S) → va_S A s.heap H locs → lv_has ls 2 [(0, .ref (ob 0)), (1, .int x1)] → f_Md_located_0   x1 S = some res → W p l e rm_Md_located s m args below meth c H locs 0 0 Q (F0 m 0 ls []) := by
  obtain ⟨hx, hb, hml, hown, hts, hK, hA, hN, hZ⟩ := id C0
  intro x1 S H locs ls hP hD hS hl hf
  rw [f_Md_located_0] at hf
  refine lv_aload_n hx hb d_Md_located_0 rfl (lv_at hl 0 rfl) ?_
  refine lv_iconst (v := 0) hx hb d_Md_located_1 (by decide) ?_
  obtain ⟨S_1, eS_1, hf⟩ := bn_some hf
  refine va_put (D := D) (ci := 7) (v := .int 0) (ty := .int) (C := R_Md) (T := F_Md) (N := 26) hx hb hts (fun w h => List.mem_cons_of_mem _ (in_Md w h)) t_Md tk_Md nk_Md hown hK hP hD hS 0 rfl rfl 0 (by decide) (hts _ (List.mem_cons_of_mem _ wd_822)) (fun _ h9 => h9) rfl (by decide +kernel) rfl rfl (Nat.le_of_ble_eq_true rfl) d_Md_located_2 (fun H locs hP hD hS => ?_)
  have hP : va_P D clC (mw cA cP ob ad S_1) H := by rw [eS_1]; exact hP
  have hD : va_D A (mw cA cP ob ad S_1) := by rw [eS_1]; exact hD
  refine lv_iload_n hx hb d_Md_located_5 rfl (lv_at hl 1 rfl) ?_
  refine lv_iconst (v := 0) hx hb d_Md_located_6 (by decide) ?_
  refine lv_iconst (v := 2) hx hb d_Md_located_7 (by decide) ?_
  obtain ⟨q_2, hq_2, hf⟩ := bd_some hf
  refine kc_i (va_runS (As := [.int x1, .int 0, .int 2]) (rest := []) ⟨hx, hb, hml, hown, hts⟩ (c_Md_within l D cA cP ob ad x1 0 2  S_1 hq_2 H.size) ⟨callB_of 3 hts (gd_Md_within) rfl rfl rfl (hts _ (List.mem_cons_of_mem _ wd_72)) (hts _ (List.mem_cons_of_mem _ wd_914)) dd_Md_within ⟨Nat.le_of_ble_eq_true rfl, Nat.le_of_ble_eq_true rfl⟩, (hts _ (List.mem_cons_of_mem _ wd_915))⟩ (kpS hK hP hD hN hZ hS) rfl rfl hl.1 rfl (lv_room (Nat.le_of_ble_eq_true rfl)) d_Md_located_8 ⟨Nat.le_of_ble_eq_true rfl, Nat.le_of_ble_eq_true rfl⟩) hP hD hS hA (fun r w H locs hw hP hD hS => ?_)
  obtain ⟨rfl, rfl⟩ := hw
  refine lv_if_eq (tgt := 23) hx hb d_Md_located_11 (by decide) (fun c_3 => ?_) (fun c_3 => ?_)
  · rw [if_pos c_3] at hf
    refine lv_iconst (v := (-1)) hx hb d_Md_located_23 (by decide) ?_
    cases hf
    exact hret _ _ _ _ _ _ ⟨rfl, rfl⟩ hP hD hS d_Md_located_24
  · rw [if_neg c_3] at hf
    refine lv_aload_n hx hb d_Md_located_14 rfl (lv_at hl 0 rfl) ?_
    refine va_get (D := D) (ci := 7) (v := .ref (ob 11)) (C := R_Md) (T := F_Md) (N := 26) hx hb hts (fun w h => List.mem_cons_of_mem _ (in_Md w h)) hown hK hP 0 rfl rfl 25 (by decide) (hts _ (List.mem_cons_of_mem _ wd_847)) (fun _ h9 => h9) rfl d_Md_located_15 ?_
    refine lv_iload_n hx hb d_Md_located_18 rfl (lv_at hl 1 rfl) ?_
    obtain ⟨hi_4, hf⟩ := as_some hf
    refine va_iald hx hb hK hP 11 0 rfl rfl (inb_in hi_4) d_Md_located_19 ?_
    refine lv_goto (tgt := 24) hx hb d_Md_located_20 (by decide) ?_
    cases hf
    exact hret _ _ _ _ _ _ ⟨rfl, rfl⟩ hP hD hS d_Md_located_24
def f_Md_located (x1 : Int32) (S : St) : Option (Int32 × St) := f_Md_located_0  x1 S
theorem c_Md_located (l : Launch) (D : va_G) (cA cP : ClassId) (ob : Nat → Nat) (ad : Nat → Nat → Nat) (x1 : Int32)  (S : St) {res : (Int32 × St)} (hf : f_Md_located x1 S = some res) : CTi l y_Md_located w_Md_located rm_Md_located 0 0 D clC (TY cA cP) [.ref (ob 0), .int x1] (mw cA cP ob ad S) (fun r w => r = res.1 ∧ w = mw cA cP ob ad res.2) :=
  mk_i (cc := b_Md_located) (maxL := 2) (own := R_Md) (by decide) rfl rfl (Nat.le_of_ble_eq_true rfl) (fun p e s m below meth c A Q C0 hret ls hl hP hD hS => w_Md_located_0 C0 hret   x1 S _ _ ls hP hD hS (lv_sub hl [0, 1] rfl) hf)
def f_Md_nearest_71  (k37 : Int32 → Int32 → Int32 → Int32 → St → Option (Int32 × St)) (x1 : Int32) (x2 : Int32) (x4 : Int32) (t0 : Int32) (S : St) : Option (Int32 × St) :=
  bn (x4 + 1) (fun x4_1 => k37 x1 x2 t0 x4_1 S)
set_option maxHeartbeats 4000000 in
set_option maxRecDepth 100000 in
theorem w_Md_nearest_71 (C0 : CX p s m args c b_Md_nearest 5 R_Md w_Md_nearest D clC cA cP A) {res : (Int32 × St)} (hret : RTi p l e rm_Md_nearest s m args below meth c Q D clC A b_Md_nearest 0 0 (fun r w => r = res.1 ∧ w = mw cA cP ob ad res.2))   (k37 : Int32 → Int32 → Int32 → Int32 → St → Option (Int32 × St)) (hk37 : ∀ (x1 : Int32) (x2 : Int32) (x3 : Int32) (x4 : Int32) (S : St) (H : Heap) (locs : List Loc) (ls : Array Slot), va_P D clC (mw cA cP ob ad S) H → va_D A (mw cA cP ob ad S) → va_S A s.heap H locs → lv_has ls 5 [(0, .ref (ob 0)), (1, .int x1), (2, .int x2), (3, .int x3), (4, .int x4)] → k37 x1 x2 x3 x4 S = some res → W p l e rm_Md_nearest s m args below meth c H locs 0 0 Q (F0 m 37 ls [])) : ∀ (x1 : Int32) (x2 : Int32) (x4 : Int32) (t0 : Int32) (S : St) (H : Heap) (locs : List Loc) (ls : Array Slot), va_P D clC (mw cA cP ob ad S) H → va_D A (mw cA cP ob ad S) → va_S A s.heap H locs → lv_has ls 5 [(0, .ref (ob 0)), (1, .int x1), (2, .int x2), (4, .int x4)] → f_Md_nearest_71  k37 x1 x2 x4 t0 S = some res → W p l e rm_Md_nearest s m args below meth c H locs 0 0 Q (F0 m 71 ls [.int t0]) := by
  obtain ⟨hx, hb, hml, hown, hts, hK, hA, hN, hZ⟩ := id C0
  intro x1 x2 x4 t0 S H locs ls hP hD hS hl hf
  rw [f_Md_nearest_71] at hf
  refine lv_istore_n (lv' := [(3, .int t0), (0, .ref (ob 0)), (1, .int x1), (2, .int x2), (4, .int x4)]) hx hb d_Md_nearest_71 rfl hl (by decide) rfl (fun ls hl => ?_)
  obtain ⟨x4_1, ex4_1, hf⟩ := bn_some hf
  refine lv_iinc (v := x4_1) (lv' := [(4, .int x4_1), (3, .int t0), (0, .ref (ob 0)), (1, .int x1), (2, .int x2)]) hx hb d_Md_nearest_72 hl (k := 4) rfl (by rw [ex4_1]; rfl) (by decide) rfl (fun ls hl => ?_)
  refine lv_goto (tgt := 37) hx hb d_Md_nearest_75 (by decide) ?_
  exact hk37 x1 x2 t0 x4_1 S H locs ls hP hD hS (lv_sub hl [2, 3, 4, 1, 0] rfl) hf
def f_Md_nearest_37   : Nat → Int32 → Int32 → Int32 → Int32 → St → Option (Int32 × St)
  | 0 => fun _ _ _ _ _ => none
  | n + 1 => fun x1 x2 x3 x4 S => (if (gi S 2) ≤ x4 then
      some (x3, S)
      else
      bd (f_Md_apart x4 x1 x2 S) (fun q_2 => bd (f_Md_apart x3 x1 x2 q_2.2) (fun q_3 => (if 0 ≤ (lg_cmp q_2.1 q_3.1) then
        f_Md_nearest_71  (f_Md_nearest_37  n) x1 x2 x4 x3 q_3.2
        else
        f_Md_nearest_71  (f_Md_nearest_37  n) x1 x2 x4 x4 q_3.2))))
set_option maxHeartbeats 4000000 in
set_option maxRecDepth 100000 in
theorem w_Md_nearest_37 (C0 : CX p s m args c b_Md_nearest 5 R_Md w_Md_nearest D clC cA cP A) {res : (Int32 × St)} (hret : RTi p l e rm_Md_nearest s m args below meth c Q D clC A b_Md_nearest 0 0 (fun r w => r = res.1 ∧ w = mw cA cP ob ad res.2))    : ∀ (n : Nat) (x1 : Int32) (x2 : Int32) (x3 : Int32) (x4 : Int32) (S : St) (H : Heap) (locs : List Loc) (ls : Array Slot), va_P D clC (mw cA cP ob ad S) H → va_D A (mw cA cP ob ad S) → va_S A s.heap H locs → lv_has ls 5 [(0, .ref (ob 0)), (1, .int x1), (2, .int x2), (3, .int x3), (4, .int x4)] → f_Md_nearest_37   n x1 x2 x3 x4 S = some res → W p l e rm_Md_nearest s m args below meth c H locs 0 0 Q (F0 m 37 ls []) := by
  obtain ⟨hx, hb, hml, hown, hts, hK, hA, hN, hZ⟩ := id C0
  intro n
  induction n with
  | zero =>
    intro x1 x2 x3 x4 S H locs ls hP hD hS hl hf
    cases hf
  | succ n ih =>
    intro x1 x2 x3 x4 S H locs ls hP hD hS hl hf
    rw [f_Md_nearest_37] at hf
    try dsimp only at hf
    refine lv_iload hx hb d_Md_nearest_37 (lv_at hl 4 rfl) ?_
    refine lv_aload_n hx hb d_Md_nearest_39 rfl (lv_at hl 0 rfl) ?_
    refine va_get (D := D) (ci := 7) (v := .int (gi S 2)) (C := R_Md) (T := F_Md) (N := 26) hx hb hts (fun w h => List.mem_cons_of_mem _ (in_Md w h)) hown hK hP 0 rfl rfl 2 (by decide) (hts _ (List.mem_cons_of_mem _ wd_824)) (fun _ h9 => h9) rfl d_Md_nearest_40 ?_
    refine lv_icmp_ge (tgt := 78) hx hb d_Md_nearest_43 (by decide) (fun c_1 => ?_) (fun c_1 => ?_)
    · rw [if_pos c_1] at hf
      refine lv_iload_n hx hb d_Md_nearest_78 rfl (lv_at hl 3 rfl) ?_
      cases hf
      exact hret _ _ _ _ _ _ ⟨rfl, rfl⟩ hP hD hS d_Md_nearest_79
    · rw [if_neg c_1] at hf
      refine lv_aload_n hx hb d_Md_nearest_46 rfl (lv_at hl 0 rfl) ?_
      refine lv_iload hx hb d_Md_nearest_47 (lv_at hl 4 rfl) ?_
      refine lv_iload_n hx hb d_Md_nearest_49 rfl (lv_at hl 1 rfl) ?_
      refine lv_iload_n hx hb d_Md_nearest_50 rfl (lv_at hl 2 rfl) ?_
      obtain ⟨q_2, hq_2, hf⟩ := bd_some hf
      refine kc_l (va_runV (As := [.int x4, .int x1, .int x2]) (rest := []) ⟨hx, hb, hml, hown, hts⟩ (c_Md_apart l D cA cP ob ad x4 x1 x2  S hq_2 H.size) ⟨callB_of 3 hts (gd_Md_apart) rfl rfl rfl (hts _ (List.mem_cons_of_mem _ wd_72)) (hts _ (List.mem_cons_of_mem _ wd_975)) dd_Md_apart ⟨Nat.le_of_ble_eq_true rfl, Nat.le_of_ble_eq_true rfl⟩, (hts _ (List.mem_cons_of_mem _ wd_977)), (hts _ (List.mem_cons_of_mem _ wd_44))⟩ (kpV hK hP hD hN hZ hS 7 0 rfl rfl) rfl rfl hl.1 rfl (lv_room (Nat.le_of_ble_eq_true rfl)) d_Md_nearest_51 ⟨Nat.le_of_ble_eq_true rfl, Nat.le_of_ble_eq_true rfl⟩) hP hD hS hA (fun r w H locs hw hP hD hS => ?_)
      obtain ⟨rfl, rfl⟩ := hw
      refine lv_aload_n hx hb d_Md_nearest_54 rfl (lv_at hl 0 rfl) ?_
      refine lv_iload_n hx hb d_Md_nearest_55 rfl (lv_at hl 3 rfl) ?_
      refine lv_iload_n hx hb d_Md_nearest_56 rfl (lv_at hl 1 rfl) ?_
      refine lv_iload_n hx hb d_Md_nearest_57 rfl (lv_at hl 2 rfl) ?_
      obtain ⟨q_3, hq_3, hf⟩ := bd_some hf
      refine kc_l (va_runV (As := [.int x3, .int x1, .int x2]) (rest := [.long q_2.1]) ⟨hx, hb, hml, hown, hts⟩ (c_Md_apart l D cA cP ob ad x3 x1 x2  q_2.2 hq_3 H.size) ⟨callB_of 3 hts (gd_Md_apart) rfl rfl rfl (hts _ (List.mem_cons_of_mem _ wd_72)) (hts _ (List.mem_cons_of_mem _ wd_975)) dd_Md_apart ⟨Nat.le_of_ble_eq_true rfl, Nat.le_of_ble_eq_true rfl⟩, (hts _ (List.mem_cons_of_mem _ wd_977)), (hts _ (List.mem_cons_of_mem _ wd_44))⟩ (kpV hK hP hD hN hZ hS 7 0 rfl rfl) rfl rfl hl.1 rfl (lv_room (Nat.le_of_ble_eq_true rfl)) d_Md_nearest_58 ⟨Nat.le_of_ble_eq_true rfl, Nat.le_of_ble_eq_true rfl⟩) hP hD hS hA (fun r w H locs hw hP hD hS => ?_)
      obtain ⟨rfl, rfl⟩ := hw
      refine W.lcmp hx hb d_Md_nearest_61 ?_
      refine lv_if_ge (tgt := 70) hx hb d_Md_nearest_62 (by decide) (fun c_4 => ?_) (fun c_4 => ?_)
      · rw [if_pos c_4] at hf
        refine lv_iload_n hx hb d_Md_nearest_70 rfl (lv_at hl 3 rfl) ?_
        exact w_Md_nearest_71 C0 hret   (f_Md_nearest_37  n) ih x1 x2 x4 x3 q_3.2 H locs ls hP hD hS (lv_sub hl [0, 1, 2, 4] rfl) hf
      · rw [if_neg c_4] at hf
        refine lv_iload hx hb d_Md_nearest_65 (lv_at hl 4 rfl) ?_
        refine lv_goto (tgt := 71) hx hb d_Md_nearest_67 (by decide) ?_
        exact w_Md_nearest_71 C0 hret   (f_Md_nearest_37  n) ih x1 x2 x4 x4 q_3.2 H locs ls hP hD hS (lv_sub hl [0, 1, 2, 4] rfl) hf
def f_Md_nearest_0   (x1 : Int32) (x2 : Int32) (S : St) : Option (Int32 × St) :=
  bn (seti S 0 0) (fun S_1 => bd (f_Md_isFar x1 x2 S_1) (fun q_2 => (if q_2.1 = 0 then
    (if (gi q_2.2 2) = 0 then
      bd (f_Md_fail 2 q_2.2) (fun q_5 => some (q_5.1, q_5.2))
      else
      f_Md_nearest_37   FU x1 x2 0 1 q_2.2)
    else
    bd (f_Md_fail 1 q_2.2) (fun q_6 => some (q_6.1, q_6.2)))))
set_option maxHeartbeats 4000000 in
set_option maxRecDepth 100000 in
theorem w_Md_nearest_0 (C0 : CX p s m args c b_Md_nearest 5 R_Md w_Md_nearest D clC cA cP A) {res : (Int32 × St)} (hret : RTi p l e rm_Md_nearest s m args below meth c Q D clC A b_Md_nearest 0 0 (fun r w => r = res.1 ∧ w = mw cA cP ob ad res.2))    : ∀ (x1 : Int32) (x2 : Int32) (S : St) (H : Heap) (locs : List Loc) (ls : Array Slot), va_P D clC (mw cA cP ob ad S) H → va_D A (mw cA cP ob ad S) → va_S A s.heap H locs → lv_has ls 5 [(0, .ref (ob 0)), (1, .int x1), (2, .int x2)] → f_Md_nearest_0   x1 x2 S = some res → W p l e rm_Md_nearest s m args below meth c H locs 0 0 Q (F0 m 0 ls []) := by
  obtain ⟨hx, hb, hml, hown, hts, hK, hA, hN, hZ⟩ := id C0
  intro x1 x2 S H locs ls hP hD hS hl hf
  rw [f_Md_nearest_0] at hf
  refine lv_aload_n hx hb d_Md_nearest_0 rfl (lv_at hl 0 rfl) ?_
  refine lv_iconst (v := 0) hx hb d_Md_nearest_1 (by decide) ?_
  obtain ⟨S_1, eS_1, hf⟩ := bn_some hf
  refine va_put (D := D) (ci := 7) (v := .int 0) (ty := .int) (C := R_Md) (T := F_Md) (N := 26) hx hb hts (fun w h => List.mem_cons_of_mem _ (in_Md w h)) t_Md tk_Md nk_Md hown hK hP hD hS 0 rfl rfl 0 (by decide) (hts _ (List.mem_cons_of_mem _ wd_822)) (fun _ h9 => h9) rfl (by decide +kernel) rfl rfl (Nat.le_of_ble_eq_true rfl) d_Md_nearest_2 (fun H locs hP hD hS => ?_)
  have hP : va_P D clC (mw cA cP ob ad S_1) H := by rw [eS_1]; exact hP
  have hD : va_D A (mw cA cP ob ad S_1) := by rw [eS_1]; exact hD
  refine lv_iload_n hx hb d_Md_nearest_5 rfl (lv_at hl 1 rfl) ?_
  refine lv_iload_n hx hb d_Md_nearest_6 rfl (lv_at hl 2 rfl) ?_
  obtain ⟨q_2, hq_2, hf⟩ := bd_some hf
  refine kc_i (va_runS (As := [.int x1, .int x2]) (rest := []) ⟨hx, hb, hml, hown, hts⟩ (c_Md_isFar l D cA cP ob ad x1 x2  S_1 hq_2 H.size) ⟨callB_of 2 hts (gd_Md_isFar) rfl rfl rfl (hts _ (List.mem_cons_of_mem _ wd_72)) (hts _ (List.mem_cons_of_mem _ wd_909)) dd_Md_isFar ⟨Nat.le_of_ble_eq_true rfl, Nat.le_of_ble_eq_true rfl⟩, (hts _ (List.mem_cons_of_mem _ wd_910))⟩ (kpS hK hP hD hN hZ hS) rfl rfl hl.1 rfl (lv_room (Nat.le_of_ble_eq_true rfl)) d_Md_nearest_7 ⟨Nat.le_of_ble_eq_true rfl, Nat.le_of_ble_eq_true rfl⟩) hP hD hS hA (fun r w H locs hw hP hD hS => ?_)
  obtain ⟨rfl, rfl⟩ := hw
  refine lv_if_eq (tgt := 19) hx hb d_Md_nearest_10 (by decide) (fun c_3 => ?_) (fun c_3 => ?_)
  · rw [if_pos c_3] at hf
    refine lv_aload_n hx hb d_Md_nearest_19 rfl (lv_at hl 0 rfl) ?_
    refine va_get (D := D) (ci := 7) (v := .int (gi q_2.2 2)) (C := R_Md) (T := F_Md) (N := 26) hx hb hts (fun w h => List.mem_cons_of_mem _ (in_Md w h)) hown hK hP 0 rfl rfl 2 (by decide) (hts _ (List.mem_cons_of_mem _ wd_824)) (fun _ h9 => h9) rfl d_Md_nearest_20 ?_
    refine lv_if_ne (tgt := 32) hx hb d_Md_nearest_23 (by decide) (fun c_4 => ?_) (fun c_4 => ?_)
    · rw [if_neg c_4] at hf
      refine lv_iconst (v := 0) hx hb d_Md_nearest_32 (by decide) ?_
      refine lv_istore_n (lv' := [(3, .int 0), (0, .ref (ob 0)), (1, .int x1), (2, .int x2)]) hx hb d_Md_nearest_33 rfl hl (by decide) rfl (fun ls hl => ?_)
      refine lv_iconst (v := 1) hx hb d_Md_nearest_34 (by decide) ?_
      refine lv_istore (lv' := [(4, .int 1), (3, .int 0), (0, .ref (ob 0)), (1, .int x1), (2, .int x2)]) hx hb d_Md_nearest_35 hl (by decide) rfl (fun ls hl => ?_)
      exact w_Md_nearest_37 C0 hret    FU x1 x2 0 1 q_2.2 H locs ls hP hD hS (lv_sub hl [2, 3, 4, 1, 0] rfl) hf
    · rw [if_pos c_4] at hf
      refine lv_aload_n hx hb d_Md_nearest_26 rfl (lv_at hl 0 rfl) ?_
      refine lv_iconst (v := 2) hx hb d_Md_nearest_27 (by decide) ?_
      obtain ⟨q_5, hq_5, hf⟩ := bd_some hf
      refine kc_i (va_runV (As := [.int 2]) (rest := []) ⟨hx, hb, hml, hown, hts⟩ (c_Md_fail l D cA cP ob ad 2  q_2.2 hq_5 H.size) ⟨callB_of 1 hts (gd_Md_fail) rfl rfl rfl (hts _ (List.mem_cons_of_mem _ wd_72)) (hts _ (List.mem_cons_of_mem _ wd_917)) dd_Md_fail ⟨Nat.le_of_ble_eq_true rfl, Nat.le_of_ble_eq_true rfl⟩, (hts _ (List.mem_cons_of_mem _ wd_919)), (hts _ (List.mem_cons_of_mem _ wd_34))⟩ (kpV hK hP hD hN hZ hS 7 0 rfl rfl) rfl rfl hl.1 rfl (lv_room (Nat.le_of_ble_eq_true rfl)) d_Md_nearest_28 ⟨Nat.le_of_ble_eq_true rfl, Nat.le_of_ble_eq_true rfl⟩) hP hD hS hA (fun r w H locs hw hP hD hS => ?_)
      obtain ⟨rfl, rfl⟩ := hw
      cases hf
      exact hret _ _ _ _ _ _ ⟨rfl, rfl⟩ hP hD hS d_Md_nearest_31
  · rw [if_neg c_3] at hf
    refine lv_aload_n hx hb d_Md_nearest_13 rfl (lv_at hl 0 rfl) ?_
    refine lv_iconst (v := 1) hx hb d_Md_nearest_14 (by decide) ?_
    obtain ⟨q_6, hq_6, hf⟩ := bd_some hf
    refine kc_i (va_runV (As := [.int 1]) (rest := []) ⟨hx, hb, hml, hown, hts⟩ (c_Md_fail l D cA cP ob ad 1  q_2.2 hq_6 H.size) ⟨callB_of 1 hts (gd_Md_fail) rfl rfl rfl (hts _ (List.mem_cons_of_mem _ wd_72)) (hts _ (List.mem_cons_of_mem _ wd_917)) dd_Md_fail ⟨Nat.le_of_ble_eq_true rfl, Nat.le_of_ble_eq_true rfl⟩, (hts _ (List.mem_cons_of_mem _ wd_919)), (hts _ (List.mem_cons_of_mem _ wd_34))⟩ (kpV hK hP hD hN hZ hS 7 0 rfl rfl) rfl rfl hl.1 rfl (lv_room (Nat.le_of_ble_eq_true rfl)) d_Md_nearest_15 ⟨Nat.le_of_ble_eq_true rfl, Nat.le_of_ble_eq_true rfl⟩) hP hD hS hA (fun r w H locs hw hP hD hS => ?_)
    obtain ⟨rfl, rfl⟩ := hw
    cases hf
    exact hret _ _ _ _ _ _ ⟨rfl, rfl⟩ hP hD hS d_Md_nearest_18
def f_Md_nearest (x1 : Int32) (x2 : Int32) (S : St) : Option (Int32 × St) := f_Md_nearest_0  x1 x2 S
theorem c_Md_nearest (l : Launch) (D : va_G) (cA cP : ClassId) (ob : Nat → Nat) (ad : Nat → Nat → Nat) (x1 : Int32) (x2 : Int32)  (S : St) {res : (Int32 × St)} (hf : f_Md_nearest x1 x2 S = some res) : CTi l y_Md_nearest w_Md_nearest rm_Md_nearest 0 0 D clC (TY cA cP) [.ref (ob 0), .int x1, .int x2] (mw cA cP ob ad S) (fun r w => r = res.1 ∧ w = mw cA cP ob ad res.2) :=
  mk_i (cc := b_Md_nearest) (maxL := 5) (own := R_Md) (by decide) rfl rfl (Nat.le_of_ble_eq_true rfl) (fun p e s m below meth c A Q C0 hret ls hl hP hD hS => w_Md_nearest_0 C0 hret   x1 x2 S _ _ ls hP hD hS (lv_sub hl [0, 1, 2] rfl) hf)
end
