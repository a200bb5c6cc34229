section
variable {p : Program} {l : Launch} {e : Env} {s : State} {m : MethodId} {args : Array Value} {below : List Frame} {meth : Method} {c : Code} {Q : State → Prop} {D : va_G} {cA cP : ClassId} {ob : Nat → Nat} {ad : Nat → Nat → Nat} {A : Nat → Prop}
def f_Md_findCell_181  (k104 : Int32 → St → Option St) (k119 : Int32 → Int32 → Int32 → St → Option St) (x5 : Int32) (x6 : Int32) (x7 : Int32) (S : St) : Option St :=
  bn (x7 + 1) (fun x7_1 => k119 x5 x6 x7_1 S)
set_option maxHeartbeats 4000000 in
set_option maxRecDepth 100000 in
theorem w_Md_findCell_181 (C0 : CX p s m args c b_Md_findCell 8 R_Md w_Md_findCell D clC cA cP A) {res : St} (hret : RTv p l e rm_Md_findCell s m args below meth c Q D clC A b_Md_findCell 0 0 (fun w => w = mw cA cP ob ad res))   (k104 : Int32 → St → Option St) (hk104 : ∀ (x5 : Int32) (S : St) (H : Heap) (locs : List Loc) (ls : Array Slot), va_P D clC (mw cA cP ob ad S) H → va_D A (mw cA cP ob ad S) → va_S A s.heap H locs → lv_has ls 8 [(0, .ref (ob 0)), (5, .int x5)] → k104 x5 S = some res → W p l e rm_Md_findCell s m args below meth c H locs 0 0 Q (F0 m 104 ls [])) (k119 : Int32 → Int32 → Int32 → St → Option St) (hk119 : ∀ (x5 : Int32) (x6 : Int32) (x7 : Int32) (S : St) (H : Heap) (locs : List Loc) (ls : Array Slot), va_P D clC (mw cA cP ob ad S) H → va_D A (mw cA cP ob ad S) → va_S A s.heap H locs → lv_has ls 8 [(0, .ref (ob 0)), (5, .int x5), (6, .int x6), (7, .int x7)] → k119 x5 x6 x7 S = some res → W p l e rm_Md_findCell s m args below meth c H locs 0 0 Q (F0 m 119 ls [])) : ∀ (x5 : Int32) (x6 : Int32) (x7 : Int32) (S : St) (H : Heap) (locs : List Loc) (ls : Array Slot), va_P D clC (mw cA cP ob ad S) H → va_D A (mw cA cP ob ad S) → va_S A s.heap H locs → lv_has ls 8 [(0, .ref (ob 0)), (5, .int x5), (6, .int x6), (7, .int x7)] → f_Md_findCell_181  k104 k119 x5 x6 x7 S = some res → W p l e rm_Md_findCell s m args below meth c H locs 0 0 Q (F0 m 181 ls []) := by
  obtain ⟨hx, hb, hml, hown, hts, hK, hA, hN, hZ⟩ := id C0
  intro x5 x6 x7 S H locs ls hP hD hS hl hf
  rw [f_Md_findCell_181] at hf
  obtain ⟨x7_1, ex7_1, hf⟩ := bn_some hf
  refine lv_iinc (v := x7_1) (lv' := [(7, .int x7_1), (0, .ref (ob 0)), (5, .int x5), (6, .int x6)]) hx hb d_Md_findCell_181 hl (k := 3) rfl (by rw [ex7_1]; rfl) (by decide) rfl (fun ls hl => ?_)
  refine lv_goto (tgt := 119) hx hb d_Md_findCell_184 (by decide) ?_
  exact hk119 x5 x6 x7_1 S H locs ls hP hD hS (lv_sub hl [1, 2, 3, 0] rfl) hf
def f_Md_findCell_172  (k104 : Int32 → St → Option St) (k119 : Int32 → Int32 → Int32 → St → Option St) (x5 : Int32) (x7 : Int32) (S : St) : Option St :=
  as_ (inb x7 (gn S 10)) (bn (ga S 10 (Int32.toNatClampNeg x7)) (fun x6_2 => f_Md_findCell_181  k104 k119 x5 x6_2 x7 S))
set_option maxHeartbeats 4000000 in
set_option maxRecDepth 100000 in
theorem w_Md_findCell_172 (C0 : CX p s m args c b_Md_findCell 8 R_Md w_Md_findCell D clC cA cP A) {res : St} (hret : RTv p l e rm_Md_findCell s m args below meth c Q D clC A b_Md_findCell 0 0 (fun w => w = mw cA cP ob ad res))   (k104 : Int32 → St → Option St) (hk104 : ∀ (x5 : Int32) (S : St) (H : Heap) (locs : List Loc) (ls : Array Slot), va_P D clC (mw cA cP ob ad S) H → va_D A (mw cA cP ob ad S) → va_S A s.heap H locs → lv_has ls 8 [(0, .ref (ob 0)), (5, .int x5)] → k104 x5 S = some res → W p l e rm_Md_findCell s m args below meth c H locs 0 0 Q (F0 m 104 ls [])) (k119 : Int32 → Int32 → Int32 → St → Option St) (hk119 : ∀ (x5 : Int32) (x6 : Int32) (x7 : Int32) (S : St) (H : Heap) (locs : List Loc) (ls : Array Slot), va_P D clC (mw cA cP ob ad S) H → va_D A (mw cA cP ob ad S) → va_S A s.heap H locs → lv_has ls 8 [(0, .ref (ob 0)), (5, .int x5), (6, .int x6), (7, .int x7)] → k119 x5 x6 x7 S = some res → W p l e rm_Md_findCell s m args below meth c H locs 0 0 Q (F0 m 119 ls [])) : ∀ (x5 : Int32) (x7 : Int32) (S : St) (H : Heap) (locs : List Loc) (ls : Array Slot), va_P D clC (mw cA cP ob ad S) H → va_D A (mw cA cP ob ad S) → va_S A s.heap H locs → lv_has ls 8 [(0, .ref (ob 0)), (5, .int x5), (7, .int x7)] → f_Md_findCell_172  k104 k119 x5 x7 S = some res → W p l e rm_Md_findCell s m args below meth c H locs 0 0 Q (F0 m 172 ls []) := by
  obtain ⟨hx, hb, hml, hown, hts, hK, hA, hN, hZ⟩ := id C0
  intro x5 x7 S H locs ls hP hD hS hl hf
  rw [f_Md_findCell_172] at hf
  refine lv_aload_n hx hb d_Md_findCell_172 rfl (lv_at hl 0 rfl) ?_
  refine va_get (D := D) (ci := 7) (v := .ref (ob 10)) (C := R_Md) (T := F_Md) (N := 26) hx hb hts (fun w h => List.mem_cons_of_mem _ (in_Md w h)) hown hK hP 0 rfl rfl 24 (by decide) (hts _ (List.mem_cons_of_mem _ wd_846)) (fun _ h9 => h9) rfl d_Md_findCell_173 ?_
  refine lv_iload hx hb d_Md_findCell_176 (lv_at hl 2 rfl) ?_
  obtain ⟨hi_1, hf⟩ := as_some hf
  refine va_iald hx hb hK hP 10 0 rfl rfl (inb_in hi_1) d_Md_findCell_178 ?_
  obtain ⟨x6_2, ex6_2, hf⟩ := bn_some hf
  refine tpi ex6_2 ?_
  refine lv_istore (lv' := [(6, .int x6_2), (0, .ref (ob 0)), (5, .int x5), (7, .int x7)]) hx hb d_Md_findCell_179 hl (by decide) rfl (fun ls hl => ?_)
  exact w_Md_findCell_181 C0 hret   k104 hk104 k119 hk119 x5 x6_2 x7 S H locs ls hP hD hS (lv_sub hl [1, 2, 0, 3] rfl) hf
def f_Md_findCell_119  (k104 : Int32 → St → Option St) : Nat → Int32 → Int32 → Int32 → St → Option St
  | 0 => fun _ _ _ _ => none
  | n + 1 => fun x5 x6 x7 S => (if x5 ≤ x7 then
      as_ (inb (gi S 8) (gn S 9)) (bn (seta S 9 (upd (ga S 9) (Int32.toNatClampNeg (gi S 8)) x6)) (fun S_3 => bn (seti S_3 8 ((gi S_3 8) + 1)) (fun S_4 => k104 x5 S_4)))
      else
      as_ (inb x7 (gn S 10)) (bd (f_Md_isCelled (ga S 10 (Int32.toNatClampNeg x7)) S) (fun q_6 => (if q_6.1 = 0 then
        (if x6 < 0 then
          f_Md_findCell_172  k104 (f_Md_findCell_119 k104 n) x5 x7 q_6.2
          else
          as_ (inb ((gi q_6.2 8) - 1) (gn q_6.2 9)) (as_ (inb x7 (gn q_6.2 10)) (bd (f_Md_sideOf (ga q_6.2 9 (Int32.toNatClampNeg ((gi q_6.2 8) - 1))) x6 (ga q_6.2 10 (Int32.toNatClampNeg x7)) q_6.2) (fun q_11 => (if 0 ≤ q_11.1 then
            f_Md_findCell_181  k104 (f_Md_findCell_119 k104 n) x5 x6 x7 q_11.2
            else
            f_Md_findCell_172  k104 (f_Md_findCell_119 k104 n) x5 x7 q_11.2)))))
        else
        f_Md_findCell_181  k104 (f_Md_findCell_119 k104 n) x5 x6 x7 q_6.2))))
set_option maxHeartbeats 4000000 in
set_option maxRecDepth 100000 in
theorem w_Md_findCell_119 (C0 : CX p s m args c b_Md_findCell 8 R_Md w_Md_findCell D clC cA cP A) {res : St} (hret : RTv p l e rm_Md_findCell s m args below meth c Q D clC A b_Md_findCell 0 0 (fun w => w = mw cA cP ob ad res))   (k104 : Int32 → St → Option St) (hk104 : ∀ (x5 : Int32) (S : St) (H : Heap) (locs : List Loc) (ls : Array Slot), va_P D clC (mw cA cP ob ad S) H → va_D A (mw cA cP ob ad S) → va_S A s.heap H locs → lv_has ls 8 [(0, .ref (ob 0)), (5, .int x5)] → k104 x5 S = some res → W p l e rm_Md_findCell s m args below meth c H locs 0 0 Q (F0 m 104 ls [])) : ∀ (n : Nat) (x5 : Int32) (x6 : Int32) (x7 : Int32) (S : St) (H : Heap) (locs : List Loc) (ls : Array Slot), va_P D clC (mw cA cP ob ad S) H → va_D A (mw cA cP ob ad S) → va_S A s.heap H locs → lv_has ls 8 [(0, .ref (ob 0)), (5, .int x5), (6, .int x6), (7, .int x7)] → f_Md_findCell_119  k104 n x5 x6 x7 S = some res → W p l e rm_Md_findCell s m args below meth c H locs 0 0 Q (F0 m 119 ls []) := by
  obtain ⟨hx, hb, hml, hown, hts, hK, hA, hN, hZ⟩ := id C0
  intro n
  induction n with
  | zero =>
    intro x5 x6 x7 S H locs ls hP hD hS hl hf
    cases hf
  | succ n ih =>
    intro x5 x6 x7 S H locs ls hP hD hS hl hf
    rw [f_Md_findCell_119] at hf
    try dsimp only at hf
    refine lv_iload hx hb d_Md_findCell_119 (lv_at hl 3 rfl) ?_
    refine lv_iload hx hb d_Md_findCell_121 (lv_at hl 1 rfl) ?_
    refine lv_icmp_ge (tgt := 187) hx hb d_Md_findCell_123 (by decide) (fun c_1 => ?_) (fun c_1 => ?_)
    · rw [if_pos c_1] at hf
      refine lv_aload_n hx hb d_Md_findCell_187 rfl (lv_at hl 0 rfl) ?_
      refine va_get (D := D) (ci := 7) (v := .ref (ob 9)) (C := R_Md) (T := F_Md) (N := 26) hx hb hts (fun w h => List.mem_cons_of_mem _ (in_Md w h)) hown hK hP 0 rfl rfl 17 (by decide) (hts _ (List.mem_cons_of_mem _ wd_839)) (fun _ h9 => h9) rfl d_Md_findCell_188 ?_
      refine lv_aload_n hx hb d_Md_findCell_191 rfl (lv_at hl 0 rfl) ?_
      refine va_get (D := D) (ci := 7) (v := .int (gi S 8)) (C := R_Md) (T := F_Md) (N := 26) hx hb hts (fun w h => List.mem_cons_of_mem _ (in_Md w h)) hown hK hP 0 rfl rfl 16 (by decide) (hts _ (List.mem_cons_of_mem _ wd_838)) (fun _ h9 => h9) rfl d_Md_findCell_192 ?_
      refine lv_iload hx hb d_Md_findCell_195 (lv_at hl 2 rfl) ?_
      obtain ⟨hi_2, hf⟩ := as_some hf
      obtain ⟨S_3, eS_3, hf⟩ := bn_some hf
      refine va_iast hx hb hK hP hD hS 9 0 rfl rfl (inb_in hi_2) d_Md_findCell_197 (fun H locs hP hD hS => ?_)
      have hP : va_P D clC (mw cA cP ob ad S_3) H := by rw [eS_3]; exact hP
      have hD : va_D A (mw cA cP ob ad S_3) := by rw [eS_3]; exact hD
      refine lv_aload_n hx hb d_Md_findCell_198 rfl (lv_at hl 0 rfl) ?_
      refine lv_dup hx hb d_Md_findCell_199 rfl ?_
      refine va_get (D := D) (ci := 7) (v := .int (gi S_3 8)) (C := R_Md) (T := F_Md) (N := 26) hx hb hts (fun w h => List.mem_cons_of_mem _ (in_Md w h)) hown hK hP 0 rfl rfl 16 (by decide) (hts _ (List.mem_cons_of_mem _ wd_838)) (fun _ h9 => h9) rfl d_Md_findCell_200 ?_
      refine lv_iconst (v := 1) hx hb d_Md_findCell_203 (by decide) ?_
      refine lv_iadd hx hb d_Md_findCell_204 ?_
      obtain ⟨S_4, eS_4, hf⟩ := bn_some hf
      refine va_put (D := D) (ci := 7) (v := .int ((gi S_3 8) + 1)) (ty := .int) (C := R_Md) (T := F_Md) (N := 26) hx hb hts (fun w h => List.mem_cons_of_mem _ (in_Md w h)) t_Md tk_Md nk_Md hown hK hP hD hS 0 rfl rfl 16 (by decide) (hts _ (List.mem_cons_of_mem _ wd_838)) (fun _ h9 => h9) rfl (by decide +kernel) rfl rfl (Nat.le_of_ble_eq_true rfl) d_Md_findCell_205 (fun H locs hP hD hS => ?_)
      have hP : va_P D clC (mw cA cP ob ad S_4) H := by rw [eS_4]; exact hP
      have hD : va_D A (mw cA cP ob ad S_4) := by rw [eS_4]; exact hD
      refine lv_goto (tgt := 104) hx hb d_Md_findCell_208 (by decide) ?_
      exact hk104 x5 S_4 H locs ls hP hD hS (lv_sub hl [0, 1] rfl) hf
    · rw [if_neg c_1] at hf
      refine lv_aload_n hx hb d_Md_findCell_126 rfl (lv_at hl 0 rfl) ?_
      refine lv_aload_n hx hb d_Md_findCell_127 rfl (lv_at hl 0 rfl) ?_
      refine va_get (D := D) (ci := 7) (v := .ref (ob 10)) (C := R_Md) (T := F_Md) (N := 26) hx hb hts (fun w h => List.mem_cons_of_mem _ (in_Md w h)) hown hK hP 0 rfl rfl 24 (by decide) (hts _ (List.mem_cons_of_mem _ wd_846)) (fun _ h9 => h9) rfl d_Md_findCell_128 ?_
      refine lv_iload hx hb d_Md_findCell_131 (lv_at hl 3 rfl) ?_
      obtain ⟨hi_5, hf⟩ := as_some hf
      refine va_iald hx hb hK hP 10 0 rfl rfl (inb_in hi_5) d_Md_findCell_133 ?_
      obtain ⟨q_6, hq_6, hf⟩ := bd_some hf
      refine kc_i (va_runV (As := [.int (ga S 10 (Int32.toNatClampNeg x7))]) (rest := []) ⟨hx, hb, hml, hown, hts⟩ (c_Md_isCelled l D cA cP ob ad (ga S 10 (Int32.toNatClampNeg x7))  S hq_6 H.size) ⟨callB_of 1 hts (gd_Md_isCelled) rfl rfl rfl (hts _ (List.mem_cons_of_mem _ wd_72)) (hts _ (List.mem_cons_of_mem _ wd_1008)) dd_Md_isCelled ⟨Nat.le_of_ble_eq_true rfl, Nat.le_of_ble_eq_true rfl⟩, (hts _ (List.mem_cons_of_mem _ wd_1010)), (hts _ (List.mem_cons_of_mem _ wd_52))⟩ (kpV hK hP hD hN hZ hS 7 0 rfl rfl) rfl rfl hl.1 rfl (lv_room (Nat.le_of_ble_eq_true rfl)) d_Md_findCell_134 ⟨Nat.le_of_ble_eq_true rfl, Nat.le_of_ble_eq_true rfl⟩) hP hD hS hA (fun r w H locs hw hP hD hS => ?_)
      obtain ⟨rfl, rfl⟩ := hw
      refine lv_if_ne (tgt := 181) hx hb d_Md_findCell_137 (by decide) (fun c_7 => ?_) (fun c_7 => ?_)
      · rw [if_neg c_7] at hf
        exact w_Md_findCell_181 C0 hret   k104 hk104 (f_Md_findCell_119 k104 n) ih x5 x6 x7 q_6.2 H locs ls hP hD hS (lv_sub hl [0, 1, 2, 3] rfl) hf
      · rw [if_pos c_7] at hf
        refine lv_iload hx hb d_Md_findCell_140 (lv_at hl 2 rfl) ?_
        refine lv_if_lt (tgt := 172) hx hb d_Md_findCell_142 (by decide) (fun c_8 => ?_) (fun c_8 => ?_)
        · rw [if_pos c_8] at hf
          exact w_Md_findCell_172 C0 hret   k104 hk104 (f_Md_findCell_119 k104 n) ih x5 x7 q_6.2 H locs ls hP hD hS (lv_sub hl [0, 1, 3] rfl) hf
        · rw [if_neg c_8] at hf
          refine lv_aload_n hx hb d_Md_findCell_145 rfl (lv_at hl 0 rfl) ?_
          refine lv_aload_n hx hb d_Md_findCell_146 rfl (lv_at hl 0 rfl) ?_
          refine va_get (D := D) (ci := 7) (v := .ref (ob 9)) (C := R_Md) (T := F_Md) (N := 26) hx hb hts (fun w h => List.mem_cons_of_mem _ (in_Md w h)) hown hK hP 0 rfl rfl 17 (by decide) (hts _ (List.mem_cons_of_mem _ wd_839)) (fun _ h9 => h9) rfl d_Md_findCell_147 ?_
          refine lv_aload_n hx hb d_Md_findCell_150 rfl (lv_at hl 0 rfl) ?_
          refine va_get (D := D) (ci := 7) (v := .int (gi q_6.2 8)) (C := R_Md) (T := F_Md) (N := 26) hx hb hts (fun w h => List.mem_cons_of_mem _ (in_Md w h)) hown hK hP 0 rfl rfl 16 (by decide) (hts _ (List.mem_cons_of_mem _ wd_838)) (fun _ h9 => h9) rfl d_Md_findCell_151 ?_
          refine lv_iconst (v := 1) hx hb d_Md_findCell_154 (by decide) ?_
          refine lv_isub hx hb d_Md_findCell_155 ?_
          obtain ⟨hi_9, hf⟩ := as_some hf
          refine va_iald hx hb hK hP 9 0 rfl rfl (inb_in hi_9) d_Md_findCell_156 ?_
          refine lv_iload hx hb d_Md_findCell_157 (lv_at hl 2 rfl) ?_
          refine lv_aload_n hx hb d_Md_findCell_159 rfl (lv_at hl 0 rfl) ?_
          refine va_get (D := D) (ci := 7) (v := .ref (ob 10)) (C := R_Md) (T := F_Md) (N := 26) hx hb hts (fun w h => List.mem_cons_of_mem _ (in_Md w h)) hown hK hP 0 rfl rfl 24 (by decide) (hts _ (List.mem_cons_of_mem _ wd_846)) (fun _ h9 => h9) rfl d_Md_findCell_160 ?_
          refine lv_iload hx hb d_Md_findCell_163 (lv_at hl 3 rfl) ?_
          obtain ⟨hi_10, hf⟩ := as_some hf
          refine va_iald hx hb hK hP 10 0 rfl rfl (inb_in hi_10) d_Md_findCell_165 ?_
          obtain ⟨q_11, hq_11, hf⟩ := bd_some hf
          refine kc_i (va_runV (As := [.int (ga q_6.2 9 (Int32.toNatClampNeg ((gi q_6.2 8) - 1))), .int x6, .int (ga q_6.2 10 (Int32.toNatClampNeg x7))]) (rest := []) ⟨hx, hb, hml, hown, hts⟩ (c_Md_sideOf l D cA cP ob ad (ga q_6.2 9 (Int32.toNatClampNeg ((gi q_6.2 8) - 1))) x6 (ga q_6.2 10 (Int32.toNatClampNeg x7))  q_6.2 hq_11 H.size) ⟨callB_of 3 hts (gd_Md_sideOf) rfl rfl rfl (hts _ (List.mem_cons_of_mem _ wd_72)) (hts _ (List.mem_cons_of_mem _ wd_961)) dd_Md_sideOf ⟨Nat.le_of_ble_eq_true rfl, Nat.le_of_ble_eq_true rfl⟩, (hts _ (List.mem_cons_of_mem _ wd_963)), (hts _ (List.mem_cons_of_mem _ wd_42))⟩ (kpV hK hP hD hN hZ hS 7 0 rfl rfl) rfl rfl hl.1 rfl (lv_room (Nat.le_of_ble_eq_true rfl)) d_Md_findCell_166 ⟨Nat.le_of_ble_eq_true rfl, Nat.le_of_ble_eq_true rfl⟩) hP hD hS hA (fun r w H locs hw hP hD hS => ?_)
          obtain ⟨rfl, rfl⟩ := hw
          refine lv_if_ge (tgt := 181) hx hb d_Md_findCell_169 (by decide) (fun c_12 => ?_) (fun c_12 => ?_)
          · rw [if_pos c_12] at hf
            exact w_Md_findCell_181 C0 hret   k104 hk104 (f_Md_findCell_119 k104 n) ih x5 x6 x7 q_11.2 H locs ls hP hD hS (lv_sub hl [0, 1, 2, 3] rfl) hf
          · rw [if_neg c_12] at hf
            exact w_Md_findCell_172 C0 hret   k104 hk104 (f_Md_findCell_119 k104 n) ih x5 x7 q_11.2 H locs ls hP hD hS (lv_sub hl [0, 1, 3] rfl) hf
def f_Md_findCell_104   : Nat → Int32 → St → Option St
  | 0 => fun _ _ => none
  | n + 1 => fun x5 S => (if x5 ≤ (gi S 8) then
      some S
      else
      f_Md_findCell_119  (f_Md_findCell_104  n) FU x5 (-1) 0 S)
set_option maxHeartbeats 4000000 in
set_option maxRecDepth 100000 in
theorem w_Md_findCell_104 (C0 : CX p s m args c b_Md_findCell 8 R_Md w_Md_findCell D clC cA cP A) {res : St} (hret : RTv p l e rm_Md_findCell s m args below meth c Q D clC A b_Md_findCell 0 0 (fun w => w = mw cA cP ob ad res))    : ∀ (n : Nat) (x5 : Int32) (S : St) (H : Heap) (locs : List Loc) (ls : Array Slot), va_P D clC (mw cA cP ob ad S) H → va_D A (mw cA cP ob ad S) → va_S A s.heap H locs → lv_has ls 8 [(0, .ref (ob 0)), (5, .int x5)] → f_Md_findCell_104   n x5 S = some res → W p l e rm_Md_findCell s m args below meth c H locs 0 0 Q (F0 m 104 ls []) := by
  obtain ⟨hx, hb, hml, hown, hts, hK, hA, hN, hZ⟩ := id C0
  intro n
  induction n with
  | zero =>
    intro x5 S H locs ls hP hD hS hl hf
    cases hf
  | succ n ih =>
    intro x5 S H locs ls hP hD hS hl hf
    rw [f_Md_findCell_104] at hf
    try dsimp only at hf
    refine lv_aload_n hx hb d_Md_findCell_104 rfl (lv_at hl 0 rfl) ?_
    refine va_get (D := D) (ci := 7) (v := .int (gi S 8)) (C := R_Md) (T := F_Md) (N := 26) hx hb hts (fun w h => List.mem_cons_of_mem _ (in_Md w h)) hown hK hP 0 rfl rfl 16 (by decide) (hts _ (List.mem_cons_of_mem _ wd_838)) (fun _ h9 => h9) rfl d_Md_findCell_105 ?_
    refine lv_iload hx hb d_Md_findCell_108 (lv_at hl 1 rfl) ?_
    refine lv_icmp_ge (tgt := 211) hx hb d_Md_findCell_110 (by decide) (fun c_1 => ?_) (fun c_1 => ?_)
    · rw [if_pos c_1] at hf
      cases hf
      exact hret _ _ _ _ _ rfl hP hD hS d_Md_findCell_211
    · rw [if_neg c_1] at hf
      refine lv_iconst (v := (-1)) hx hb d_Md_findCell_113 (by decide) ?_
      refine lv_istore (lv' := [(6, .int (-1)), (0, .ref (ob 0)), (5, .int x5)]) hx hb d_Md_findCell_114 hl (by decide) rfl (fun ls hl => ?_)
      refine lv_iconst (v := 0) hx hb d_Md_findCell_116 (by decide) ?_
      refine lv_istore (lv' := [(7, .int 0), (6, .int (-1)), (0, .ref (ob 0)), (5, .int x5)]) hx hb d_Md_findCell_117 hl (by decide) rfl (fun ls hl => ?_)
      exact w_Md_findCell_119 C0 hret   (f_Md_findCell_104  n) ih FU x5 (-1) 0 S H locs ls hP hD hS (lv_sub hl [2, 3, 1, 0] rfl) hf
def f_Md_findCell_85  (k14 : Int32 → Int32 → Int32 → Int32 → Int32 → Int32 → St → Option St) (x1 : Int32) (x2 : Int32) (x3 : Int32) (x4 : Int32) (x5 : Int32) (x6 : Int32) (S : St) : Option St :=
  bn (x6 + 1) (fun x6_1 => k14 x1 x2 x3 x4 x5 x6_1 S)
set_option maxHeartbeats 4000000 in
set_option maxRecDepth 100000 in
theorem w_Md_findCell_85 (C0 : CX p s m args c b_Md_findCell 8 R_Md w_Md_findCell D clC cA cP A) {res : St} (hret : RTv p l e rm_Md_findCell s m args below meth c Q D clC A b_Md_findCell 0 0 (fun w => w = mw cA cP ob ad res))   (k14 : Int32 → Int32 → Int32 → Int32 → Int32 → Int32 → St → Option St) (hk14 : ∀ (x1 : Int32) (x2 : Int32) (x3 : Int32) (x4 : Int32) (x5 : Int32) (x6 : Int32) (S : St) (H : Heap) (locs : List Loc) (ls : Array Slot), va_P D clC (mw cA cP ob ad S) H → va_D A (mw cA cP ob ad S) → va_S A s.heap H locs → lv_has ls 8 [(0, .ref (ob 0)), (1, .int x1), (2, .int x2), (3, .int x3), (4, .int x4), (5, .int x5), (6, .int x6)] → k14 x1 x2 x3 x4 x5 x6 S = some res → W p l e rm_Md_findCell s m args below meth c H locs 0 0 Q (F0 m 14 ls [])) : ∀ (x1 : Int32) (x2 : Int32) (x3 : Int32) (x4 : Int32) (x5 : Int32) (x6 : Int32) (S : St) (H : Heap) (locs : List Loc) (ls : Array Slot), va_P D clC (mw cA cP ob ad S) H → va_D A (mw cA cP ob ad S) → va_S A s.heap H locs → lv_has ls 8 [(0, .ref (ob 0)), (1, .int x1), (2, .int x2), (3, .int x3), (4, .int x4), (5, .int x5), (6, .int x6)] → f_Md_findCell_85  k14 x1 x2 x3 x4 x5 x6 S = some res → W p l e rm_Md_findCell s m args below meth c H locs 0 0 Q (F0 m 85 ls []) := by
  obtain ⟨hx, hb, hml, hown, hts, hK, hA, hN, hZ⟩ := id C0
  intro x1 x2 x3 x4 x5 x6 S H locs ls hP hD hS hl hf
  rw [f_Md_findCell_85] at hf
  obtain ⟨x6_1, ex6_1, hf⟩ := bn_some hf
  refine lv_iinc (v := x6_1) (lv' := [(6, .int x6_1), (0, .ref (ob 0)), (1, .int x1), (2, .int x2), (3, .int x3), (4, .int x4), (5, .int x5)]) hx hb d_Md_findCell_85 hl (k := 6) rfl (by rw [ex6_1]; rfl) (by decide) rfl (fun ls hl => ?_)
  refine lv_goto (tgt := 14) hx hb d_Md_findCell_88 (by decide) ?_
  exact hk14 x1 x2 x3 x4 x5 x6_1 S H locs ls hP hD hS (lv_sub hl [1, 2, 3, 4, 5, 6, 0] rfl) hf
def f_Md_findCell_81  (k14 : Int32 → Int32 → Int32 → Int32 → Int32 → Int32 → St → Option St) (x1 : Int32) (x2 : Int32) (x3 : Int32) (x5 : Int32) (x6 : Int32) (S : St) : Option St :=
  f_Md_findCell_85  k14 x1 x2 x3 x6 x5 x6 S
set_option maxHeartbeats 4000000 in
set_option maxRecDepth 100000 in
theorem w_Md_findCell_81 (C0 : CX p s m args c b_Md_findCell 8 R_Md w_Md_findCell D clC cA cP A) {res : St} (hret : RTv p l e rm_Md_findCell s m args below meth c Q D clC A b_Md_findCell 0 0 (fun w => w = mw cA cP ob ad res))   (k14 : Int32 → Int32 → Int32 → Int32 → Int32 → Int32 → St → Option St) (hk14 : ∀ (x1 : Int32) (x2 : Int32) (x3 : Int32) (x4 : Int32) (x5 : Int32) (x6 : Int32) (S : St) (H : Heap) (locs : List Loc) (ls : Array Slot), va_P D clC (mw cA cP ob ad S) H → va_D A (mw cA cP ob ad S) → va_S A s.heap H locs → lv_has ls 8 [(0, .ref (ob 0)), (1, .int x1), (2, .int x2), (3, .int x3), (4, .int x4), (5, .int x5), (6, .int x6)] → k14 x1 x2 x3 x4 x5 x6 S = some res → W p l e rm_Md_findCell s m args below meth c H locs 0 0 Q (F0 m 14 ls [])) : ∀ (x1 : Int32) (x2 : Int32) (x3 : Int32) (x5 : Int32) (x6 : Int32) (S : St) (H : Heap) (locs : List Loc) (ls : Array Slot), va_P D clC (mw cA cP ob ad S) H → va_D A (mw cA cP ob ad S) → va_S A s.heap H locs → lv_has ls 8 [(0, .ref (ob 0)), (1, .int x1), (2, .int x2), (3, .int x3), (5, .int x5), (6, .int x6)] → f_Md_findCell_81  k14 x1 x2 x3 x5 x6 S = some res → W p l e rm_Md_findCell s m args below meth c H locs 0 0 Q (F0 m 81 ls []) := by
  obtain ⟨hx, hb, hml, hown, hts, hK, hA, hN, hZ⟩ := id C0
  intro x1 x2 x3 x5 x6 S H locs ls hP hD hS hl hf
  rw [f_Md_findCell_81] at hf
  refine lv_iload hx hb d_Md_findCell_81 (lv_at hl 5 rfl) ?_
  refine lv_istore (lv' := [(4, .int x6), (0, .ref (ob 0)), (1, .int x1), (2, .int x2), (3, .int x3), (5, .int x5), (6, .int x6)]) hx hb d_Md_findCell_83 hl (by decide) rfl (fun ls hl => ?_)
  exact w_Md_findCell_85 C0 hret   k14 hk14 x1 x2 x3 x6 x5 x6 S H locs ls hP hD hS (lv_sub hl [1, 2, 3, 4, 0, 5, 6] rfl) hf
def f_Md_findCell_53  (k14 : Int32 → Int32 → Int32 → Int32 → Int32 → Int32 → St → Option St) (x1 : Int32) (x2 : Int32) (x3 : Int32) (x4 : Int32) (x5 : Int32) (x6 : Int32) (S : St) : Option St :=
  as_ (inb x5 (gn S 10)) (bn (seta S 10 (upd (ga S 10) (Int32.toNatClampNeg x5) x6)) (fun S_2 => bn (x5 + 1) (fun x5_3 => (if x4 < 0 then
    f_Md_findCell_81  k14 x1 x2 x3 x5_3 x6 S_2
    else
    bd (f_Md_isLess x6 x4 S_2) (fun q_5 => (if q_5.1 = 0 then
      f_Md_findCell_85  k14 x1 x2 x3 x4 x5_3 x6 q_5.2
      else
      f_Md_findCell_81  k14 x1 x2 x3 x5_3 x6 q_5.2))))))
set_option maxHeartbeats 4000000 in
set_option maxRecDepth 100000 in
theorem w_Md_findCell_53 (C0 : CX p s m args c b_Md_findCell 8 R_Md w_Md_findCell D clC cA cP A) {res : St} (hret : RTv p l e rm_Md_findCell s m args below meth c Q D clC A b_Md_findCell 0 0 (fun w => w = mw cA cP ob ad res))   (k14 : Int32 → Int32 → Int32 → Int32 → Int32 → Int32 → St → Option St) (hk14 : ∀ (x1 : Int32) (x2 : Int32) (x3 : Int32) (x4 : Int32) (x5 : Int32) (x6 : Int32) (S : St) (H : Heap) (locs : List Loc) (ls : Array Slot), va_P D clC (mw cA cP ob ad S) H → va_D A (mw cA cP ob ad S) → va_S A s.heap H locs → lv_has ls 8 [(0, .ref (ob 0)), (1, .int x1), (2, .int x2), (3, .int x3), (4, .int x4), (5, .int x5), (6, .int x6)] → k14 x1 x2 x3 x4 x5 x6 S = some res → W p l e rm_Md_findCell s m args below meth c H locs 0 0 Q (F0 m 14 ls [])) : ∀ (x1 : Int32) (x2 : Int32) (x3 : Int32) (x4 : Int32) (x5 : Int32) (x6 : Int32) (S : St) (H : Heap) (locs : List Loc) (ls : Array Slot), va_P D clC (mw cA cP ob ad S) H → va_D A (mw cA cP ob ad S) → va_S A s.heap H locs → lv_has ls 8 [(0, .ref (ob 0)), (1, .int x1), (2, .int x2), (3, .int x3), (4, .int x4), (5, .int x5), (6, .int x6)] → f_Md_findCell_53  k14 x1 x2 x3 x4 x5 x6 S = some res → W p l e rm_Md_findCell s m args below meth c H locs 0 0 Q (F0 m 53 ls []) := by
  obtain ⟨hx, hb, hml, hown, hts, hK, hA, hN, hZ⟩ := id C0
  intro x1 x2 x3 x4 x5 x6 S H locs ls hP hD hS hl hf
  rw [f_Md_findCell_53] at hf
  refine lv_aload_n hx hb d_Md_findCell_53 rfl (lv_at hl 0 rfl) ?_
  refine va_get (D := D) (ci := 7) (v := .ref (ob 10)) (C := R_Md) (T := F_Md) (N := 26) hx hb hts (fun w h => List.mem_cons_of_mem _ (in_Md w h)) hown hK hP 0 rfl rfl 24 (by decide) (hts _ (List.mem_cons_of_mem _ wd_846)) (fun _ h9 => h9) rfl d_Md_findCell_54 ?_
  refine lv_iload hx hb d_Md_findCell_57 (lv_at hl 5 rfl) ?_
  refine lv_iload hx hb d_Md_findCell_59 (lv_at hl 6 rfl) ?_
  obtain ⟨hi_1, hf⟩ := as_some hf
  obtain ⟨S_2, eS_2, hf⟩ := bn_some hf
  refine va_iast hx hb hK hP hD hS 10 0 rfl rfl (inb_in hi_1) d_Md_findCell_61 (fun H locs hP hD hS => ?_)
  have hP : va_P D clC (mw cA cP ob ad S_2) H := by rw [eS_2]; exact hP
  have hD : va_D A (mw cA cP ob ad S_2) := by rw [eS_2]; exact hD
  obtain ⟨x5_3, ex5_3, hf⟩ := bn_some hf
  refine lv_iinc (v := x5_3) (lv' := [(5, .int x5_3), (0, .ref (ob 0)), (1, .int x1), (2, .int x2), (3, .int x3), (4, .int x4), (6, .int x6)]) hx hb d_Md_findCell_62 hl (k := 5) rfl (by rw [ex5_3]; rfl) (by decide) rfl (fun ls hl => ?_)
  refine lv_iload hx hb d_Md_findCell_65 (lv_at hl 5 rfl) ?_
  refine lv_if_lt (tgt := 81) hx hb d_Md_findCell_67 (by decide) (fun c_4 => ?_) (fun c_4 => ?_)
  · rw [if_pos c_4] at hf
    exact w_Md_findCell_81 C0 hret   k14 hk14 x1 x2 x3 x5_3 x6 S_2 H locs ls hP hD hS (lv_sub hl [1, 2, 3, 4, 0, 6] rfl) hf
  · rw [if_neg c_4] at hf
    refine lv_aload_n hx hb d_Md_findCell_70 rfl (lv_at hl 1 rfl) ?_
    refine lv_iload hx hb d_Md_findCell_71 (lv_at hl 6 rfl) ?_
    refine lv_iload hx hb d_Md_findCell_73 (lv_at hl 5 rfl) ?_
    obtain ⟨q_5, hq_5, hf⟩ := bd_some hf
    refine kc_i (va_runV (As := [.int x6, .int x4]) (rest := []) ⟨hx, hb, hml, hown, hts⟩ (c_Md_isLess l D cA cP ob ad x6 x4  S_2 hq_5 H.size) ⟨callB_of 2 hts (gd_Md_isLess) rfl rfl rfl (hts _ (List.mem_cons_of_mem _ wd_72)) (hts _ (List.mem_cons_of_mem _ wd_953)) dd_Md_isLess ⟨Nat.le_of_ble_eq_true rfl, Nat.le_of_ble_eq_true rfl⟩, (hts _ (List.mem_cons_of_mem _ wd_955)), (hts _ (List.mem_cons_of_mem _ wd_40))⟩ (kpV hK hP hD hN hZ hS 7 0 rfl rfl) rfl rfl hl.1 rfl (lv_room (Nat.le_of_ble_eq_true rfl)) d_Md_findCell_75 ⟨Nat.le_of_ble_eq_true rfl, Nat.le_of_ble_eq_true rfl⟩) hP hD hS hA (fun r w H locs hw hP hD hS => ?_)
    obtain ⟨rfl, rfl⟩ := hw
    refine lv_if_eq (tgt := 85) hx hb d_Md_findCell_78 (by decide) (fun c_6 => ?_) (fun c_6 => ?_)
    · rw [if_pos c_6] at hf
      exact w_Md_findCell_85 C0 hret   k14 hk14 x1 x2 x3 x4 x5_3 x6 q_5.2 H locs ls hP hD hS (lv_sub hl [1, 2, 3, 4, 5, 0, 6] rfl) hf
    · rw [if_neg c_6] at hf
      exact w_Md_findCell_81 C0 hret   k14 hk14 x1 x2 x3 x5_3 x6 q_5.2 H locs ls hP hD hS (lv_sub hl [1, 2, 3, 4, 0, 6] rfl) hf
def f_Md_findCell_14   : Nat → Int32 → Int32 → Int32 → Int32 → Int32 → Int32 → St → Option St
  | 0 => fun _ _ _ _ _ _ _ => none
  | n + 1 => fun x1 x2 x3 x4 x5 x6 S => (if (gi S 2) ≤ x6 then
      as_ (inb 0 (gn S 9)) (bn (seta S 9 (upd (ga S 9) (Int32.toNatClampNeg 0) x4)) (fun S_3 => bn (seti S_3 8 1) (fun S_4 => f_Md_findCell_104   FU x5 S_4)))
      else
      (if x6 = x1 then
        f_Md_findCell_53  (f_Md_findCell_14  n) x1 x2 x3 x4 x5 x6 S
        else
        (if x6 = x2 then
          f_Md_findCell_53  (f_Md_findCell_14  n) x1 x2 x3 x4 x5 x6 S
          else
          (if x6 = x3 then
            f_Md_findCell_53  (f_Md_findCell_14  n) x1 x2 x3 x4 x5 x6 S
            else
            bd (f_Md_inCircle x1 x2 x3 x6 S) (fun q_8 => (if q_8.1 = 0 then
              f_Md_findCell_53  (f_Md_findCell_14  n) x1 x2 x3 x4 x5 x6 q_8.2
              else
              f_Md_findCell_85  (f_Md_findCell_14  n) x1 x2 x3 x4 x5 x6 q_8.2))))))
set_option maxHeartbeats 4000000 in
set_option maxRecDepth 100000 in
theorem w_Md_findCell_14 (C0 : CX p s m args c b_Md_findCell 8 R_Md w_Md_findCell D clC cA cP A) {res : St} (hret : RTv p l e rm_Md_findCell s m args below meth c Q D clC A b_Md_findCell 0 0 (fun w => w = mw cA cP ob ad res))    : ∀ (n : Nat) (x1 : Int32) (x2 : Int32) (x3 : Int32) (x4 : Int32) (x5 : Int32) (x6 : Int32) (S : St) (H : Heap) (locs : List Loc) (ls : Array Slot), va_P D clC (mw cA cP ob ad S) H → va_D A (mw cA cP ob ad S) → va_S A s.heap H locs → lv_has ls 8 [(0, .ref (ob 0)), (1, .int x1), (2, .int x2), (3, .int x3), (4, .int x4), (5, .int x5), (6, .int x6)] → f_Md_findCell_14   n x1 x2 x3 x4 x5 x6 S = some res → W p l e rm_Md_findCell s m args below meth c H locs 0 0 Q (F0 m 14 ls []) := by
  obtain ⟨hx, hb, hml, hown, hts, hK, hA, hN, hZ⟩ := id C0
  intro n
  induction n with
  | zero =>
    intro x1 x2 x3 x4 x5 x6 S H locs ls hP hD hS hl hf
    cases hf
  | succ n ih =>
    intro x1 x2 x3 x4 x5 x6 S H locs ls hP hD hS hl hf
    rw [f_Md_findCell_14] at hf
    try dsimp only at hf
    refine lv_iload hx hb d_Md_findCell_14 (lv_at hl 6 rfl) ?_
    refine lv_aload_n hx hb d_Md_findCell_16 rfl (lv_at hl 0 rfl) ?_
    refine va_get (D := D) (ci := 7) (v := .int (gi S 2)) (C := R_Md) (T := F_Md) (N := 26) hx hb hts (fun w h => List.mem_cons_of_mem _ (in_Md w h)) hown hK hP 0 rfl rfl 2 (by decide) (hts _ (List.mem_cons_of_mem _ wd_824)) (fun _ h9 => h9) rfl d_Md_findCell_17 ?_
    refine lv_icmp_ge (tgt := 91) hx hb d_Md_findCell_20 (by decide) (fun c_1 => ?_) (fun c_1 => ?_)
    · rw [if_pos c_1] at hf
      refine lv_aload_n hx hb d_Md_findCell_91 rfl (lv_at hl 0 rfl) ?_
      refine va_get (D := D) (ci := 7) (v := .ref (ob 9)) (C := R_Md) (T := F_Md) (N := 26) hx hb hts (fun w h => List.mem_cons_of_mem _ (in_Md w h)) hown hK hP 0 rfl rfl 17 (by decide) (hts _ (List.mem_cons_of_mem _ wd_839)) (fun _ h9 => h9) rfl d_Md_findCell_92 ?_
      refine lv_iconst (v := 0) hx hb d_Md_findCell_95 (by decide) ?_
      refine lv_iload hx hb d_Md_findCell_96 (lv_at hl 4 rfl) ?_
      obtain ⟨hi_2, hf⟩ := as_some hf
      obtain ⟨S_3, eS_3, hf⟩ := bn_some hf
      refine va_iast hx hb hK hP hD hS 9 0 rfl rfl (inb_in hi_2) d_Md_findCell_98 (fun H locs hP hD hS => ?_)
      have hP : va_P D clC (mw cA cP ob ad S_3) H := by rw [eS_3]; exact hP
      have hD : va_D A (mw cA cP ob ad S_3) := by rw [eS_3]; exact hD
      refine lv_aload_n hx hb d_Md_findCell_99 rfl (lv_at hl 0 rfl) ?_
      refine lv_iconst (v := 1) hx hb d_Md_findCell_100 (by decide) ?_
      obtain ⟨S_4, eS_4, hf⟩ := bn_some hf
      refine va_put (D := D) (ci := 7) (v := .int 1) (ty := .int) (C := R_Md) (T := F_Md) (N := 26) hx hb hts (fun w h => List.mem_cons_of_mem _ (in_Md w h)) t_Md tk_Md nk_Md hown hK hP hD hS 0 rfl rfl 16 (by decide) (hts _ (List.mem_cons_of_mem _ wd_838)) (fun _ h9 => h9) rfl (by decide +kernel) rfl rfl (Nat.le_of_ble_eq_true rfl) d_Md_findCell_101 (fun H locs hP hD hS => ?_)
      have hP : va_P D clC (mw cA cP ob ad S_4) H := by rw [eS_4]; exact hP
      have hD : va_D A (mw cA cP ob ad S_4) := by rw [eS_4]; exact hD
      exact w_Md_findCell_104 C0 hret    FU x5 S_4 H locs ls hP hD hS (lv_sub hl [0, 5] rfl) hf
    · rw [if_neg c_1] at hf
      refine lv_iload hx hb d_Md_findCell_23 (lv_at hl 6 rfl) ?_
      refine lv_iload_n hx hb d_Md_findCell_25 rfl (lv_at hl 1 rfl) ?_
      refine lv_icmp_eq (tgt := 53) hx hb d_Md_findCell_26 (by decide) (fun c_5 => ?_) (fun c_5 => ?_)
      · rw [if_pos c_5] at hf
        exact w_Md_findCell_53 C0 hret   (f_Md_findCell_14  n) ih x1 x2 x3 x4 x5 x6 S H locs ls hP hD hS (lv_sub hl [0, 1, 2, 3, 4, 5, 6] rfl) hf
      · rw [if_neg c_5] at hf
        refine lv_iload hx hb d_Md_findCell_29 (lv_at hl 6 rfl) ?_
        refine lv_iload_n hx hb d_Md_findCell_31 rfl (lv_at hl 2 rfl) ?_
        refine lv_icmp_eq (tgt := 53) hx hb d_Md_findCell_32 (by decide) (fun c_6 => ?_) (fun c_6 => ?_)
        · rw [if_pos c_6] at hf
          exact w_Md_findCell_53 C0 hret   (f_Md_findCell_14  n) ih x1 x2 x3 x4 x5 x6 S H locs ls hP hD hS (lv_sub hl [0, 1, 2, 3, 4, 5, 6] rfl) hf
        · rw [if_neg c_6] at hf
          refine lv_iload hx hb d_Md_findCell_35 (lv_at hl 6 rfl) ?_
          refine lv_iload_n hx hb d_Md_findCell_37 rfl (lv_at hl 3 rfl) ?_
          refine lv_icmp_eq (tgt := 53) hx hb d_Md_findCell_38 (by decide) (fun c_7 => ?_) (fun c_7 => ?_)
          · rw [if_pos c_7] at hf
            exact w_Md_findCell_53 C0 hret   (f_Md_findCell_14  n) ih x1 x2 x3 x4 x5 x6 S H locs ls hP hD hS (lv_sub hl [0, 1, 2, 3, 4, 5, 6] rfl) hf
          · rw [if_neg c_7] at hf
            refine lv_aload_n hx hb d_Md_findCell_41 rfl (lv_at hl 0 rfl) ?_
            refine lv_iload_n hx hb d_Md_findCell_42 rfl (lv_at hl 1 rfl) ?_
            refine lv_iload_n hx hb d_Md_findCell_43 rfl (lv_at hl 2 rfl) ?_
            refine lv_iload_n hx hb d_Md_findCell_44 rfl (lv_at hl 3 rfl) ?_
            refine lv_iload hx hb d_Md_findCell_45 (lv_at hl 6 rfl) ?_
            obtain ⟨q_8, hq_8, hf⟩ := bd_some hf
            refine kc_i (va_runV (As := [.int x1, .int x2, .int x3, .int x6]) (rest := []) ⟨hx, hb, hml, hown, hts⟩ (c_Md_inCircle l D cA cP ob ad x1 x2 x3 x6  S hq_8 H.size) ⟨callB_of 4 hts (gd_Md_inCircle) rfl rfl rfl (hts _ (List.mem_cons_of_mem _ wd_72)) (hts _ (List.mem_cons_of_mem _ wd_987)) dd_Md_inCircle ⟨Nat.le_of_ble_eq_true rfl, Nat.le_of_ble_eq_true rfl⟩, (hts _ (List.mem_cons_of_mem _ wd_989)), (hts _ (List.mem_cons_of_mem _ wd_47))⟩ (kpV hK hP hD hN hZ hS 7 0 rfl rfl) rfl rfl hl.1 rfl (lv_room (Nat.le_of_ble_eq_true rfl)) d_Md_findCell_47 ⟨Nat.le_of_ble_eq_true rfl, Nat.le_of_ble_eq_true rfl⟩) hP hD hS hA (fun r w H locs hw hP hD hS => ?_)
            obtain ⟨rfl, rfl⟩ := hw
            refine lv_if_ne (tgt := 85) hx hb d_Md_findCell_50 (by decide) (fun c_9 => ?_) (fun c_9 => ?_)
            · rw [if_neg c_9] at hf
              exact w_Md_findCell_85 C0 hret   (f_Md_findCell_14  n) ih x1 x2 x3 x4 x5 x6 q_8.2 H locs ls hP hD hS (lv_sub hl [0, 1, 2, 3, 4, 5, 6] rfl) hf
            · rw [if_pos c_9] at hf
              exact w_Md_findCell_53 C0 hret   (f_Md_findCell_14  n) ih x1 x2 x3 x4 x5 x6 q_8.2 H locs ls hP hD hS (lv_sub hl [0, 1, 2, 3, 4, 5, 6] rfl) hf
def f_Md_findCell_0   (x1 : Int32) (x2 : Int32) (x3 : Int32) (S : St) : Option St :=
  bn (seti S 8 0) (fun S_1 => f_Md_findCell_14   FU x1 x2 x3 (-1) 0 0 S_1)
set_option maxHeartbeats 4000000 in
set_option maxRecDepth 100000 in
theorem w_Md_findCell_0 (C0 : CX p s m args c b_Md_findCell 8 R_Md w_Md_findCell D clC cA cP A) {res : St} (hret : RTv p l e rm_Md_findCell s m args below meth c Q D clC A b_Md_findCell 0 0 (fun w => w = mw cA cP ob ad res))    : ∀ (x1 : Int32) (x2 : Int32) (x3 : Int32) (S : St) (H : Heap) (locs : List Loc) (ls : Array Slot), va_P D clC (mw cA cP ob ad S) H → va_D A (mw cA cP ob ad S) → va_S A s.heap H locs → lv_has ls 8 [(0, .ref (ob 0)), (1, .int x1), (2, .int x2), (3, .int x3)] → f_Md_findCell_0   x1 x2 x3 S = some res → W p l e rm_Md_findCell s m args below meth c H locs 0 0 Q (F0 m 0 ls []) := by
  obtain ⟨hx, hb, hml, hown, hts, hK, hA, hN, hZ⟩ := id C0
  intro x1 x2 x3 S H locs ls hP hD hS hl hf
  rw [f_Md_findCell_0] at hf
  refine lv_aload_n hx hb d_Md_findCell_0 rfl (lv_at hl 0 rfl) ?_
  refine lv_iconst (v := 0) hx hb d_Md_findCell_1 (by decide) ?_
  obtain ⟨S_1, eS_1, hf⟩ := bn_some hf
  refine va_put (D := D) (ci := 7) (v := .int 0) (ty := .int) (C := R_Md) (T := F_Md) (N := 26) hx hb hts (fun w h => List.mem_cons_of_mem _ (in_Md w h)) t_Md tk_Md nk_Md hown hK hP hD hS 0 rfl rfl 16 (by decide) (hts _ (List.mem_cons_of_mem _ wd_838)) (fun _ h9 => h9) rfl (by decide +kernel) rfl rfl (Nat.le_of_ble_eq_true rfl) d_Md_findCell_2 (fun H locs hP hD hS => ?_)
  have hP : va_P D clC (mw cA cP ob ad S_1) H := by rw [eS_1]; exact hP
  have hD : va_D A (mw cA cP ob ad S_1) := by rw [eS_1]; exact hD
  refine lv_iconst (v := (-1)) hx hb d_Md_findCell_5 (by decide) ?_
  refine lv_istore (lv' := [(4, .int (-1)), (0, .ref (ob 0)), (1, .int x1), (2, .int x2), (3, .int x3)]) hx hb d_Md_findCell_6 hl (by decide) rfl (fun ls hl => ?_)
  refine lv_iconst (v := 0) hx hb d_Md_findCell_8 (by decide) ?_
  refine lv_istore (lv' := [(5, .int 0), (4, .int (-1)), (0, .ref (ob 0)), (1, .int x1), (2, .int x2), (3, .int x3)]) hx hb d_Md_findCell_9 hl (by decide) rfl (fun ls hl => ?_)
  refine lv_iconst (v := 0) hx hb d_Md_findCell_11 (by decide) ?_
  refine lv_istore (lv' := [(6, .int 0), (5, .int 0), (4, .int (-1)), (0, .ref (ob 0)), (1, .int x1), (2, .int x2), (3, .int x3)]) hx hb d_Md_findCell_12 hl (by decide) rfl (fun ls hl => ?_)
  exact w_Md_findCell_14 C0 hret    FU x1 x2 x3 (-1) 0 0 S_1 H locs ls hP hD hS (lv_sub hl [3, 4, 5, 6, 2, 1, 0] rfl) hf
def f_Md_findCell (x1 : Int32) (x2 : Int32) (x3 : Int32) (S : St) : Option St := f_Md_findCell_0  x1 x2 x3 S
theorem c_Md_findCell (l : Launch) (D : va_G) (cA cP : ClassId) (ob : Nat → Nat) (ad : Nat → Nat → Nat) (x1 : Int32) (x2 : Int32) (x3 : Int32)  (S : St) {res : St} (hf : f_Md_findCell x1 x2 x3 S = some res) : CTv l y_Md_findCell w_Md_findCell rm_Md_findCell 0 0 D clC (TY cA cP) [.ref (ob 0), .int x1, .int x2, .int x3] (mw cA cP ob ad S) (fun w => w = mw cA cP ob ad res) :=
  mk_v (cc := b_Md_findCell) (maxL := 8) (own := R_Md) (by decide) rfl rfl (Nat.le_of_ble_eq_true rfl) (fun p e s m below meth c A Q C0 hret ls hl hP hD hS => w_Md_findCell_0 C0 hret   x1 x2 x3 S _ _ ls hP hD hS (lv_sub hl [0, 1, 2, 3] rfl) hf)
def f_Md_isSide_45  (k5 : Int32 → Int32 → Int32 → Int32 → St → Option (Int32 × St)) (x1 : Int32) (x2 : Int32) (x4 : Int32) (t0 : Int32) (S : St) : Option (Int32 × St) :=
  bn (x4 + 1) (fun x4_1 => k5 x1 x2 t0 x4_1 S)
set_option maxHeartbeats 4000000 in
set_option maxRecDepth 100000 in
theorem w_Md_isSide_45 (C0 : CX p s m args c b_Md_isSide 5 R_Md w_Md_isSide D clC cA cP A) {res : (Int32 × St)} (hret : RTz p l e rm_Md_isSide s m args below meth c Q D clC A b_Md_isSide 0 0 (fun r w => r = res.1 ∧ w = mw cA cP ob ad res.2))   (k5 : Int32 → Int32 → Int32 → Int32 → St → Option (Int32 × St)) (hk5 : ∀ (x1 : Int32) (x2 : Int32) (x3 : Int32) (x4 : Int32) (S : St) (H : Heap) (locs : List Loc) (ls : Array Slot), va_P D clC (mw cA cP ob ad S) H → va_D A (mw cA cP ob ad S) → va_S A s.heap H locs → lv_has ls 5 [(0, .ref (ob 0)), (1, .int x1), (2, .int x2), (3, .int x3), (4, .int x4)] → k5 x1 x2 x3 x4 S = some res → W p l e rm_Md_isSide s m args below meth c H locs 0 0 Q (F0 m 5 ls [])) : ∀ (x1 : Int32) (x2 : Int32) (x4 : Int32) (t0 : Int32) (S : St) (H : Heap) (locs : List Loc) (ls : Array Slot), va_P D clC (mw cA cP ob ad S) H → va_D A (mw cA cP ob ad S) → va_S A s.heap H locs → lv_has ls 5 [(0, .ref (ob 0)), (1, .int x1), (2, .int x2), (4, .int x4)] → f_Md_isSide_45  k5 x1 x2 x4 t0 S = some res → W p l e rm_Md_isSide s m args below meth c H locs 0 0 Q (F0 m 45 ls [.int t0]) := by
  obtain ⟨hx, hb, hml, hown, hts, hK, hA, hN, hZ⟩ := id C0
  intro x1 x2 x4 t0 S H locs ls hP hD hS hl hf
  rw [f_Md_isSide_45] at hf
  refine lv_istore_n (lv' := [(3, .int t0), (0, .ref (ob 0)), (1, .int x1), (2, .int x2), (4, .int x4)]) hx hb d_Md_isSide_45 rfl hl (by decide) rfl (fun ls hl => ?_)
  obtain ⟨x4_1, ex4_1, hf⟩ := bn_some hf
  refine lv_iinc (v := x4_1) (lv' := [(4, .int x4_1), (3, .int t0), (0, .ref (ob 0)), (1, .int x1), (2, .int x2)]) hx hb d_Md_isSide_46 hl (k := 4) rfl (by rw [ex4_1]; rfl) (by decide) rfl (fun ls hl => ?_)
  refine lv_goto (tgt := 5) hx hb d_Md_isSide_49 (by decide) ?_
  exact hk5 x1 x2 t0 x4_1 S H locs ls hP hD hS (lv_sub hl [2, 3, 4, 1, 0] rfl) hf
def f_Md_isSide_44  (k5 : Int32 → Int32 → Int32 → Int32 → St → Option (Int32 × St)) (x1 : Int32) (x2 : Int32) (x4 : Int32) (S : St) : Option (Int32 × St) :=
  f_Md_isSide_45  k5 x1 x2 x4 0 S
set_option maxHeartbeats 4000000 in
set_option maxRecDepth 100000 in
theorem w_Md_isSide_44 (C0 : CX p s m args c b_Md_isSide 5 R_Md w_Md_isSide D clC cA cP A) {res : (Int32 × St)} (hret : RTz p l e rm_Md_isSide s m args below meth c Q D clC A b_Md_isSide 0 0 (fun r w => r = res.1 ∧ w = mw cA cP ob ad res.2))   (k5 : Int32 → Int32 → Int32 → Int32 → St → Option (Int32 × St)) (hk5 : ∀ (x1 : Int32) (x2 : Int32) (x3 : Int32) (x4 : Int32) (S : St) (H : Heap) (locs : List Loc) (ls : Array Slot), va_P D clC (mw cA cP ob ad S) H → va_D A (mw cA cP ob ad S) → va_S A s.heap H locs → lv_has ls 5 [(0, .ref (ob 0)), (1, .int x1), (2, .int x2), (3, .int x3), (4, .int x4)] → k5 x1 x2 x3 x4 S = some res → W p l e rm_Md_isSide s m args below meth c H locs 0 0 Q (F0 m 5 ls [])) : ∀ (x1 : Int32) (x2 : Int32) (x4 : Int32) (S : St) (H : Heap) (locs : List Loc) (ls : Array Slot), va_P D clC (mw cA cP ob ad S) H → va_D A (mw cA cP ob ad S) → va_S A s.heap H locs → lv_has ls 5 [(0, .ref (ob 0)), (1, .int x1), (2, .int x2), (4, .int x4)] → f_Md_isSide_44  k5 x1 x2 x4 S = some res → W p l e rm_Md_isSide s m args below meth c H locs 0 0 Q (F0 m 44 ls []) := by
  obtain ⟨hx, hb, hml, hown, hts, hK, hA, hN, hZ⟩ := id C0
  intro x1 x2 x4 S H locs ls hP hD hS hl hf
  rw [f_Md_isSide_44] at hf
  refine lv_iconst (v := 0) hx hb d_Md_isSide_44 (by decide) ?_
  exact w_Md_isSide_45 C0 hret   k5 hk5 x1 x2 x4 0 S H locs ls hP hD hS (lv_sub hl [0, 1, 2, 3] rfl) hf
def f_Md_isSide_5   : Nat → Int32 → Int32 → Int32 → Int32 → St → Option (Int32 × St)
  | 0 => fun _ _ _ _ _ => none
  | n + 1 => fun x1 x2 x3 x4 S => (if (gi S 6) ≤ x4 then
      as_ (isb x3) (some (x3, S))
      else
      (if x3 = 0 then
        as_ (inb x4 (gn S 7)) ((if (ga S 7 (Int32.toNatClampNeg x4)) = x1 then
          as_ (inb x4 (gn S 8)) ((if (ga S 8 (Int32.toNatClampNeg x4)) = x2 then
            f_Md_isSide_45  (f_Md_isSide_5  n) x1 x2 x4 1 S
            else
            f_Md_isSide_44  (f_Md_isSide_5  n) x1 x2 x4 S))
          else
          f_Md_isSide_44  (f_Md_isSide_5  n) x1 x2 x4 S))
        else
        as_ (isb x3) (some (x3, S))))
set_option maxHeartbeats 4000000 in
set_option maxRecDepth 100000 in
theorem w_Md_isSide_5 (C0 : CX p s m args c b_Md_isSide 5 R_Md w_Md_isSide D clC cA cP A) {res : (Int32 × St)} (hret : RTz p l e rm_Md_isSide s m args below meth c Q D clC A b_Md_isSide 0 0 (fun r w => r = res.1 ∧ w = mw cA cP ob ad res.2))    : ∀ (n : Nat) (x1 : Int32) (x2 : Int32) (x3 : Int32) (x4 : Int32) (S : St) (H : Heap) (locs : List Loc) (ls : Array Slot), va_P D clC (mw cA cP ob ad S) H → va_D A (mw cA cP ob ad S) → va_S A s.heap H locs → lv_has ls 5 [(0, .ref (ob 0)), (1, .int x1), (2, .int x2), (3, .int x3), (4, .int x4)] → f_Md_isSide_5   n x1 x2 x3 x4 S = some res → W p l e rm_Md_isSide s m args below meth c H locs 0 0 Q (F0 m 5 ls []) := by
  obtain ⟨hx, hb, hml, hown, hts, hK, hA, hN, hZ⟩ := id C0
  intro n
  induction n with
  | zero =>
    intro x1 x2 x3 x4 S H locs ls hP hD hS hl hf
    cases hf
  | succ n ih =>
    intro x1 x2 x3 x4 S H locs ls hP hD hS hl hf
    rw [f_Md_isSide_5] at hf
    try dsimp only at hf
    refine lv_iload hx hb d_Md_isSide_5 (lv_at hl 4 rfl) ?_
    refine lv_aload_n hx hb d_Md_isSide_7 rfl (lv_at hl 0 rfl) ?_
    refine va_get (D := D) (ci := 7) (v := .int (gi S 6)) (C := R_Md) (T := F_Md) (N := 26) hx hb hts (fun w h => List.mem_cons_of_mem _ (in_Md w h)) hown hK hP 0 rfl rfl 12 (by decide) (hts _ (List.mem_cons_of_mem _ wd_834)) (fun _ h9 => h9) rfl d_Md_isSide_8 ?_
    refine lv_icmp_ge (tgt := 52) hx hb d_Md_isSide_11 (by decide) (fun c_1 => ?_) (fun c_1 => ?_)
    · rw [if_pos c_1] at hf
      refine lv_iload_n hx hb d_Md_isSide_52 rfl (lv_at hl 3 rfl) ?_
      obtain ⟨hb_2, hf⟩ := as_some hf
      cases hf
      exact hret _ _ _ _ _ _ ⟨rfl, rfl⟩ (nb_of hb_2) hP hD hS d_Md_isSide_53
    · rw [if_neg c_1] at hf
      refine lv_iload_n hx hb d_Md_isSide_14 rfl (lv_at hl 3 rfl) ?_
      refine lv_if_ne (tgt := 52) hx hb d_Md_isSide_15 (by decide) (fun c_3 => ?_) (fun c_3 => ?_)
      · rw [if_neg c_3] at hf
        refine lv_iload_n hx hb d_Md_isSide_52 rfl (lv_at hl 3 rfl) ?_
        obtain ⟨hb_4, hf⟩ := as_some hf
        cases hf
        exact hret _ _ _ _ _ _ ⟨rfl, rfl⟩ (nb_of hb_4) hP hD hS d_Md_isSide_53
      · rw [if_pos c_3] at hf
        refine lv_aload_n hx hb d_Md_isSide_18 rfl (lv_at hl 0 rfl) ?_
        refine va_get (D := D) (ci := 7) (v := .ref (ob 7)) (C := R_Md) (T := F_Md) (N := 26) hx hb hts (fun w h => List.mem_cons_of_mem _ (in_Md w h)) hown hK hP 0 rfl rfl 14 (by decide) (hts _ (List.mem_cons_of_mem _ wd_836)) (fun _ h9 => h9) rfl d_Md_isSide_19 ?_
        refine lv_iload hx hb d_Md_isSide_22 (lv_at hl 4 rfl) ?_
        obtain ⟨hi_5, hf⟩ := as_some hf
        refine va_iald hx hb hK hP 7 0 rfl rfl (inb_in hi_5) d_Md_isSide_24 ?_
        refine lv_iload_n hx hb d_Md_isSide_25 rfl (lv_at hl 1 rfl) ?_
        refine lv_icmp_ne (tgt := 44) hx hb d_Md_isSide_26 (by decide) (fun c_6 => ?_) (fun c_6 => ?_)
        · rw [if_neg c_6] at hf
          exact w_Md_isSide_44 C0 hret   (f_Md_isSide_5  n) ih x1 x2 x4 S H locs ls hP hD hS (lv_sub hl [0, 1, 2, 4] rfl) hf
        · rw [if_pos c_6] at hf
          refine lv_aload_n hx hb d_Md_isSide_29 rfl (lv_at hl 0 rfl) ?_
          refine va_get (D := D) (ci := 7) (v := .ref (ob 8)) (C := R_Md) (T := F_Md) (N := 26) hx hb hts (fun w h => List.mem_cons_of_mem _ (in_Md w h)) hown hK hP 0 rfl rfl 15 (by decide) (hts _ (List.mem_cons_of_mem _ wd_837)) (fun _ h9 => h9) rfl d_Md_isSide_30 ?_
          refine lv_iload hx hb d_Md_isSide_33 (lv_at hl 4 rfl) ?_
          obtain ⟨hi_7, hf⟩ := as_some hf
          refine va_iald hx hb hK hP 8 0 rfl rfl (inb_in hi_7) d_Md_isSide_35 ?_
          refine lv_iload_n hx hb d_Md_isSide_36 rfl (lv_at hl 2 rfl) ?_
          refine lv_icmp_ne (tgt := 44) hx hb d_Md_isSide_37 (by decide) (fun c_8 => ?_) (fun c_8 => ?_)
          · rw [if_neg c_8] at hf
            exact w_Md_isSide_44 C0 hret   (f_Md_isSide_5  n) ih x1 x2 x4 S H locs ls hP hD hS (lv_sub hl [0, 1, 2, 4] rfl) hf
          · rw [if_pos c_8] at hf
            refine lv_iconst (v := 1) hx hb d_Md_isSide_40 (by decide) ?_
            refine lv_goto (tgt := 45) hx hb d_Md_isSide_41 (by decide) ?_
            exact w_Md_isSide_45 C0 hret   (f_Md_isSide_5  n) ih x1 x2 x4 1 S H locs ls hP hD hS (lv_sub hl [0, 1, 2, 4] rfl) hf
def f_Md_isSide_0   (x1 : Int32) (x2 : Int32) (S : St) : Option (Int32 × St) :=
  f_Md_isSide_5   FU x1 x2 0 0 S
set_option maxHeartbeats 4000000 in
set_option maxRecDepth 100000 in
theorem w_Md_isSide_0 (C0 : CX p s m args c b_Md_isSide 5 R_Md w_Md_isSide D clC cA cP A) {res : (Int32 × St)} (hret : RTz p l e rm_Md_isSide s m args below meth c Q D clC A b_Md_isSide 0 0 (fun r w => r = res.1 ∧ w = mw cA cP ob ad res.2))    : ∀ (x1 : Int32) (x2 : Int32) (S : St) (H : Heap) (locs : List Loc) (ls : Array Slot), va_P D clC (mw cA cP ob ad S) H → va_D A (mw cA cP ob ad S) → va_S A s.heap H locs → lv_has ls 5 [(0, .ref (ob 0)), (1, .int x1), (2, .int x2)] → f_Md_isSide_0   x1 x2 S = some res → W p l e rm_Md_isSide s m args below meth c H locs 0 0 Q (F0 m 0 ls []) := by
  obtain ⟨hx, hb, hml, hown, hts, hK, hA, hN, hZ⟩ := id C0
  intro x1 x2 S H locs ls hP hD hS hl hf
  rw [f_Md_isSide_0] at hf
  refine lv_iconst (v := 0) hx hb d_Md_isSide_0 (by decide) ?_
  refine lv_istore_n (lv' := [(3, .int 0), (0, .ref (ob 0)), (1, .int x1), (2, .int x2)]) hx hb d_Md_isSide_1 rfl hl (by decide) rfl (fun ls hl => ?_)
  refine lv_iconst (v := 0) hx hb d_Md_isSide_2 (by decide) ?_
  refine lv_istore (lv' := [(4, .int 0), (3, .int 0), (0, .ref (ob 0)), (1, .int x1), (2, .int x2)]) hx hb d_Md_isSide_3 hl (by decide) rfl (fun ls hl => ?_)
  exact w_Md_isSide_5 C0 hret    FU x1 x2 0 0 S H locs ls hP hD hS (lv_sub hl [2, 3, 4, 1, 0] rfl) hf
def f_Md_isSide (x1 : Int32) (x2 : Int32) (S : St) : Option (Int32 × St) := f_Md_isSide_0  x1 x2 S
theorem c_Md_isSide (l : Launch) (D : va_G) (cA cP : ClassId) (ob : Nat → Nat) (ad : Nat → Nat → Nat) (x1 : Int32) (x2 : Int32)  (S : St) {res : (Int32 × St)} (hf : f_Md_isSide x1 x2 S = some res) : CTi l y_Md_isSide w_Md_isSide rm_Md_isSide 0 0 D clC (TY cA cP) [.ref (ob 0), .int x1, .int x2] (mw cA cP ob ad S) (fun r w => r = res.1 ∧ w = mw cA cP ob ad res.2) :=
  mk_z (cc := b_Md_isSide) (maxL := 5) (own := R_Md) (by decide) rfl rfl (Nat.le_of_ble_eq_true rfl) (fun p e s m below meth c A Q C0 hret ls hl hP hD hS => w_Md_isSide_0 C0 hret   x1 x2 S _ _ ls hP hD hS (lv_sub hl [0, 1, 2] rfl) hf)
end
