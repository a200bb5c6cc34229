section
variable {p : Program} {l : Launch} {e : Env} {s : State} {m : MethodId} {args : Array Value} {below : List Frame} {meth : Method} {c : Code} {Q : State → Prop} {D : va_G} {cA cP : ClassId} {ob : Nat → Nat} {ad : Nat → Nat → Nat} {A : Nat → Prop}
def f_Md_swap_0   (x1 : Int32) (S : St) : Option St :=
  as_ (inb x1 (gn S 3)) (bn (ga S 3 (Int32.toNatClampNeg x1)) (fun x2_2 => as_ (inb x1 (gn S 4)) (bn (ga S 4 (Int32.toNatClampNeg x1)) (fun x3_4 => as_ (inb x1 (gn S 5)) (bn (ga S 5 (Int32.toNatClampNeg x1)) (fun x4_6 => as_ (inb (x1 - 1) (gn S 3)) (as_ (inb x1 (gn S 3)) (bn (seta S 3 (upd (ga S 3) (Int32.toNatClampNeg x1) (ga S 3 (Int32.toNatClampNeg (x1 - 1))))) (fun S_9 => as_ (inb (x1 - 1) (gn S_9 4)) (as_ (inb x1 (gn S_9 4)) (bn (seta S_9 4 (upd (ga S_9 4) (Int32.toNatClampNeg x1) (ga S_9 4 (Int32.toNatClampNeg (x1 - 1))))) (fun S_12 => as_ (inb (x1 - 1) (gn S_12 5)) (as_ (inb x1 (gn S_12 5)) (bn (seta S_12 5 (upd (ga S_12 5) (Int32.toNatClampNeg x1) (ga S_12 5 (Int32.toNatClampNeg (x1 - 1))))) (fun S_15 => as_ (inb (x1 - 1) (gn S_15 3)) (bn (seta S_15 3 (upd (ga S_15 3) (Int32.toNatClampNeg (x1 - 1)) x2_2)) (fun S_17 => as_ (inb (x1 - 1) (gn S_17 4)) (bn (seta S_17 4 (upd (ga S_17 4) (Int32.toNatClampNeg (x1 - 1)) x3_4)) (fun S_19 => as_ (inb (x1 - 1) (gn S_19 5)) (bn (seta S_19 5 (upd (ga S_19 5) (Int32.toNatClampNeg (x1 - 1)) x4_6)) (fun S_21 => some S_21)))))))))))))))))))))
set_option maxHeartbeats 4000000 in
set_option maxRecDepth 100000 in
theorem w_Md_swap_0 (C0 : CX p s m args c b_Md_swap 5 R_Md w_Md_swap D clC cA cP A) {res : St} (hret : RTv p l e rm_Md_swap s m args below meth c Q D clC A b_Md_swap 0 0 (fun w => w = mw cA cP ob ad res))    : ∀ (x1 : Int32) (S : St) (H : Heap) (locs : List Loc) (ls : Array Slot), va_P D clC (mw cA cP ob ad S) H → va_D A (mw cA cP ob ad S) → va_S A s.heap H locs → lv_has ls 5 [(0, .ref (ob 0)), (1, .int x1)] → f_Md_swap_0   x1 S = some res → W p l e rm_Md_swap s m args below meth c H locs 0 0 Q (F0 m 0 ls []) := by
  obtain ⟨hx, hb, hml, hown, hts, hK, hA, hN, hZ⟩ := id C0
  intro x1 S H locs ls hP hD hS hl hf
  rw [f_Md_swap_0] at hf
  refine lv_aload_n hx hb d_Md_swap_0 rfl (lv_at hl 0 rfl) ?_
  refine va_get (D := D) (ci := 7) (v := .ref (ob 3)) (C := R_Md) (T := F_Md) (N := 26) hx hb hts (fun w h => List.mem_cons_of_mem _ (in_Md w h)) hown hK hP 0 rfl rfl 7 (by decide) (hts _ (List.mem_cons_of_mem _ wd_829)) (fun _ h9 => h9) rfl d_Md_swap_1 ?_
  refine lv_iload_n hx hb d_Md_swap_4 rfl (lv_at hl 1 rfl) ?_
  obtain ⟨hi_1, hf⟩ := as_some hf
  refine va_iald hx hb hK hP 3 0 rfl rfl (inb_in hi_1) d_Md_swap_5 ?_
  obtain ⟨x2_2, ex2_2, hf⟩ := bn_some hf
  refine tpi ex2_2 ?_
  refine lv_istore_n (lv' := [(2, .int x2_2), (0, .ref (ob 0)), (1, .int x1)]) hx hb d_Md_swap_6 rfl hl (by decide) rfl (fun ls hl => ?_)
  refine lv_aload_n hx hb d_Md_swap_7 rfl (lv_at hl 1 rfl) ?_
  refine va_get (D := D) (ci := 7) (v := .ref (ob 4)) (C := R_Md) (T := F_Md) (N := 26) hx hb hts (fun w h => List.mem_cons_of_mem _ (in_Md w h)) hown hK hP 0 rfl rfl 8 (by decide) (hts _ (List.mem_cons_of_mem _ wd_830)) (fun _ h9 => h9) rfl d_Md_swap_8 ?_
  refine lv_iload_n hx hb d_Md_swap_11 rfl (lv_at hl 2 rfl) ?_
  obtain ⟨hi_3, hf⟩ := as_some hf
  refine va_iald hx hb hK hP 4 0 rfl rfl (inb_in hi_3) d_Md_swap_12 ?_
  obtain ⟨x3_4, ex3_4, hf⟩ := bn_some hf
  refine tpi ex3_4 ?_
  refine lv_istore_n (lv' := [(3, .int x3_4), (2, .int x2_2), (0, .ref (ob 0)), (1, .int x1)]) hx hb d_Md_swap_13 rfl hl (by decide) rfl (fun ls hl => ?_)
  refine lv_aload_n hx hb d_Md_swap_14 rfl (lv_at hl 2 rfl) ?_
  refine va_get (D := D) (ci := 7) (v := .ref (ob 5)) (C := R_Md) (T := F_Md) (N := 26) hx hb hts (fun w h => List.mem_cons_of_mem _ (in_Md w h)) hown hK hP 0 rfl rfl 9 (by decide) (hts _ (List.mem_cons_of_mem _ wd_831)) (fun _ h9 => h9) rfl d_Md_swap_15 ?_
  refine lv_iload_n hx hb d_Md_swap_18 rfl (lv_at hl 3 rfl) ?_
  obtain ⟨hi_5, hf⟩ := as_some hf
  refine va_iald hx hb hK hP 5 0 rfl rfl (inb_in hi_5) d_Md_swap_19 ?_
  obtain ⟨x4_6, ex4_6, hf⟩ := bn_some hf
  refine tpi ex4_6 ?_
  refine lv_istore (lv' := [(4, .int x4_6), (3, .int x3_4), (2, .int x2_2), (0, .ref (ob 0)), (1, .int x1)]) hx hb d_Md_swap_20 hl (by decide) rfl (fun ls hl => ?_)
  refine lv_aload_n hx hb d_Md_swap_22 rfl (lv_at hl 3 rfl) ?_
  refine va_get (D := D) (ci := 7) (v := .ref (ob 3)) (C := R_Md) (T := F_Md) (N := 26) hx hb hts (fun w h => List.mem_cons_of_mem _ (in_Md w h)) hown hK hP 0 rfl rfl 7 (by decide) (hts _ (List.mem_cons_of_mem _ wd_829)) (fun _ h9 => h9) rfl d_Md_swap_23 ?_
  refine lv_iload_n hx hb d_Md_swap_26 rfl (lv_at hl 4 rfl) ?_
  refine lv_aload_n hx hb d_Md_swap_27 rfl (lv_at hl 3 rfl) ?_
  refine va_get (D := D) (ci := 7) (v := .ref (ob 3)) (C := R_Md) (T := F_Md) (N := 26) hx hb hts (fun w h => List.mem_cons_of_mem _ (in_Md w h)) hown hK hP 0 rfl rfl 7 (by decide) (hts _ (List.mem_cons_of_mem _ wd_829)) (fun _ h9 => h9) rfl d_Md_swap_28 ?_
  refine lv_iload_n hx hb d_Md_swap_31 rfl (lv_at hl 4 rfl) ?_
  refine lv_iconst (v := 1) hx hb d_Md_swap_32 (by decide) ?_
  refine lv_isub hx hb d_Md_swap_33 ?_
  obtain ⟨hi_7, hf⟩ := as_some hf
  refine va_iald hx hb hK hP 3 0 rfl rfl (inb_in hi_7) d_Md_swap_34 ?_
  obtain ⟨hi_8, hf⟩ := as_some hf
  obtain ⟨S_9, eS_9, hf⟩ := bn_some hf
  refine va_iast hx hb hK hP hD hS 3 0 rfl rfl (inb_in hi_8) d_Md_swap_35 (fun H locs hP hD hS => ?_)
  have hP : va_P D clC (mw cA cP ob ad S_9) H := by rw [eS_9]; exact hP
  have hD : va_D A (mw cA cP ob ad S_9) := by rw [eS_9]; exact hD
  refine lv_aload_n hx hb d_Md_swap_36 rfl (lv_at hl 3 rfl) ?_
  refine va_get (D := D) (ci := 7) (v := .ref (ob 4)) (C := R_Md) (T := F_Md) (N := 26) hx hb hts (fun w h => List.mem_cons_of_mem _ (in_Md w h)) hown hK hP 0 rfl rfl 8 (by decide) (hts _ (List.mem_cons_of_mem _ wd_830)) (fun _ h9 => h9) rfl d_Md_swap_37 ?_
  refine lv_iload_n hx hb d_Md_swap_40 rfl (lv_at hl 4 rfl) ?_
  refine lv_aload_n hx hb d_Md_swap_41 rfl (lv_at hl 3 rfl) ?_
  refine va_get (D := D) (ci := 7) (v := .ref (ob 4)) (C := R_Md) (T := F_Md) (N := 26) hx hb hts (fun w h => List.mem_cons_of_mem _ (in_Md w h)) hown hK hP 0 rfl rfl 8 (by decide) (hts _ (List.mem_cons_of_mem _ wd_830)) (fun _ h9 => h9) rfl d_Md_swap_42 ?_
  refine lv_iload_n hx hb d_Md_swap_45 rfl (lv_at hl 4 rfl) ?_
  refine lv_iconst (v := 1) hx hb d_Md_swap_46 (by decide) ?_
  refine lv_isub hx hb d_Md_swap_47 ?_
  obtain ⟨hi_10, hf⟩ := as_some hf
  refine va_iald hx hb hK hP 4 0 rfl rfl (inb_in hi_10) d_Md_swap_48 ?_
  obtain ⟨hi_11, hf⟩ := as_some hf
  obtain ⟨S_12, eS_12, hf⟩ := bn_some hf
  refine va_iast hx hb hK hP hD hS 4 0 rfl rfl (inb_in hi_11) d_Md_swap_49 (fun H locs hP hD hS => ?_)
  have hP : va_P D clC (mw cA cP ob ad S_12) H := by rw [eS_12]; exact hP
  have hD : va_D A (mw cA cP ob ad S_12) := by rw [eS_12]; exact hD
  refine lv_aload_n hx hb d_Md_swap_50 rfl (lv_at hl 3 rfl) ?_
  refine va_get (D := D) (ci := 7) (v := .ref (ob 5)) (C := R_Md) (T := F_Md) (N := 26) hx hb hts (fun w h => List.mem_cons_of_mem _ (in_Md w h)) hown hK hP 0 rfl rfl 9 (by decide) (hts _ (List.mem_cons_of_mem _ wd_831)) (fun _ h9 => h9) rfl d_Md_swap_51 ?_
  refine lv_iload_n hx hb d_Md_swap_54 rfl (lv_at hl 4 rfl) ?_
  refine lv_aload_n hx hb d_Md_swap_55 rfl (lv_at hl 3 rfl) ?_
  refine va_get (D := D) (ci := 7) (v := .ref (ob 5)) (C := R_Md) (T := F_Md) (N := 26) hx hb hts (fun w h => List.mem_cons_of_mem _ (in_Md w h)) hown hK hP 0 rfl rfl 9 (by decide) (hts _ (List.mem_cons_of_mem _ wd_831)) (fun _ h9 => h9) rfl d_Md_swap_56 ?_
  refine lv_iload_n hx hb d_Md_swap_59 rfl (lv_at hl 4 rfl) ?_
  refine lv_iconst (v := 1) hx hb d_Md_swap_60 (by decide) ?_
  refine lv_isub hx hb d_Md_swap_61 ?_
  obtain ⟨hi_13, hf⟩ := as_some hf
  refine va_iald hx hb hK hP 5 0 rfl rfl (inb_in hi_13) d_Md_swap_62 ?_
  obtain ⟨hi_14, hf⟩ := as_some hf
  obtain ⟨S_15, eS_15, hf⟩ := bn_some hf
  refine va_iast hx hb hK hP hD hS 5 0 rfl rfl (inb_in hi_14) d_Md_swap_63 (fun H locs hP hD hS => ?_)
  have hP : va_P D clC (mw cA cP ob ad S_15) H := by rw [eS_15]; exact hP
  have hD : va_D A (mw cA cP ob ad S_15) := by rw [eS_15]; exact hD
  refine lv_aload_n hx hb d_Md_swap_64 rfl (lv_at hl 3 rfl) ?_
  refine va_get (D := D) (ci := 7) (v := .ref (ob 3)) (C := R_Md) (T := F_Md) (N := 26) hx hb hts (fun w h => List.mem_cons_of_mem _ (in_Md w h)) hown hK hP 0 rfl rfl 7 (by decide) (hts _ (List.mem_cons_of_mem _ wd_829)) (fun _ h9 => h9) rfl d_Md_swap_65 ?_
  refine lv_iload_n hx hb d_Md_swap_68 rfl (lv_at hl 4 rfl) ?_
  refine lv_iconst (v := 1) hx hb d_Md_swap_69 (by decide) ?_
  refine lv_isub hx hb d_Md_swap_70 ?_
  refine lv_iload_n hx hb d_Md_swap_71 rfl (lv_at hl 2 rfl) ?_
  obtain ⟨hi_16, hf⟩ := as_some hf
  obtain ⟨S_17, eS_17, hf⟩ := bn_some hf
  refine va_iast hx hb hK hP hD hS 3 0 rfl rfl (inb_in hi_16) d_Md_swap_72 (fun H locs hP hD hS => ?_)
  have hP : va_P D clC (mw cA cP ob ad S_17) H := by rw [eS_17]; exact hP
  have hD : va_D A (mw cA cP ob ad S_17) := by rw [eS_17]; exact hD
  refine lv_aload_n hx hb d_Md_swap_73 rfl (lv_at hl 3 rfl) ?_
  refine va_get (D := D) (ci := 7) (v := .ref (ob 4)) (C := R_Md) (T := F_Md) (N := 26) hx hb hts (fun w h => List.mem_cons_of_mem _ (in_Md w h)) hown hK hP 0 rfl rfl 8 (by decide) (hts _ (List.mem_cons_of_mem _ wd_830)) (fun _ h9 => h9) rfl d_Md_swap_74 ?_
  refine lv_iload_n hx hb d_Md_swap_77 rfl (lv_at hl 4 rfl) ?_
  refine lv_iconst (v := 1) hx hb d_Md_swap_78 (by decide) ?_
  refine lv_isub hx hb d_Md_swap_79 ?_
  refine lv_iload_n hx hb d_Md_swap_80 rfl (lv_at hl 1 rfl) ?_
  obtain ⟨hi_18, hf⟩ := as_some hf
  obtain ⟨S_19, eS_19, hf⟩ := bn_some hf
  refine va_iast hx hb hK hP hD hS 4 0 rfl rfl (inb_in hi_18) d_Md_swap_81 (fun H locs hP hD hS => ?_)
  have hP : va_P D clC (mw cA cP ob ad S_19) H := by rw [eS_19]; exact hP
  have hD : va_D A (mw cA cP ob ad S_19) := by rw [eS_19]; exact hD
  refine lv_aload_n hx hb d_Md_swap_82 rfl (lv_at hl 3 rfl) ?_
  refine va_get (D := D) (ci := 7) (v := .ref (ob 5)) (C := R_Md) (T := F_Md) (N := 26) hx hb hts (fun w h => List.mem_cons_of_mem _ (in_Md w h)) hown hK hP 0 rfl rfl 9 (by decide) (hts _ (List.mem_cons_of_mem _ wd_831)) (fun _ h9 => h9) rfl d_Md_swap_83 ?_
  refine lv_iload_n hx hb d_Md_swap_86 rfl (lv_at hl 4 rfl) ?_
  refine lv_iconst (v := 1) hx hb d_Md_swap_87 (by decide) ?_
  refine lv_isub hx hb d_Md_swap_88 ?_
  refine lv_iload hx hb d_Md_swap_89 (lv_at hl 0 rfl) ?_
  obtain ⟨hi_20, hf⟩ := as_some hf
  obtain ⟨S_21, eS_21, hf⟩ := bn_some hf
  refine va_iast hx hb hK hP hD hS 5 0 rfl rfl (inb_in hi_20) d_Md_swap_91 (fun H locs hP hD hS => ?_)
  have hP : va_P D clC (mw cA cP ob ad S_21) H := by rw [eS_21]; exact hP
  have hD : va_D A (mw cA cP ob ad S_21) := by rw [eS_21]; exact hD
  cases hf
  exact hret _ _ _ _ _ rfl hP hD hS d_Md_swap_92
def f_Md_swap (x1 : Int32) (S : St) : Option St := f_Md_swap_0  x1 S
theorem c_Md_swap (l : Launch) (D : va_G) (cA cP : ClassId) (ob : Nat → Nat) (ad : Nat → Nat → Nat) (x1 : Int32)  (S : St) {res : St} (hf : f_Md_swap x1 S = some res) : CTv l y_Md_swap w_Md_swap rm_Md_swap 0 0 D clC (TY cA cP) [.ref (ob 0), .int x1] (mw cA cP ob ad S) (fun w => w = mw cA cP ob ad res) :=
  mk_v (cc := b_Md_swap) (maxL := 5) (own := R_Md) (by decide) rfl rfl (Nat.le_of_ble_eq_true rfl) (fun p e s m below meth c A Q C0 hret ls hl hP hD hS => w_Md_swap_0 C0 hret   x1 S _ _ ls hP hD hS (lv_sub hl [0, 1] rfl) hf)
def f_Md_sort_38  (k2 : Int32 → St → Option St) (x1 : Int32) (S : St) : Option St :=
  bn (x1 + 1) (fun x1_1 => k2 x1_1 S)
set_option maxHeartbeats 4000000 in
set_option maxRecDepth 100000 in
theorem w_Md_sort_38 (C0 : CX p s m args c b_Md_sort 3 R_Md w_Md_sort D clC cA cP A) {res : St} (hret : RTv p l e rm_Md_sort s m args below meth c Q D clC A b_Md_sort 0 0 (fun w => w = mw cA cP ob ad res))   (k2 : Int32 → St → Option St) (hk2 : ∀ (x1 : Int32) (S : St) (H : Heap) (locs : List Loc) (ls : Array Slot), va_P D clC (mw cA cP ob ad S) H → va_D A (mw cA cP ob ad S) → va_S A s.heap H locs → lv_has ls 3 [(0, .ref (ob 0)), (1, .int x1)] → k2 x1 S = some res → W p l e rm_Md_sort s m args below meth c H locs 0 0 Q (F0 m 2 ls [])) : ∀ (x1 : Int32) (S : St) (H : Heap) (locs : List Loc) (ls : Array Slot), va_P D clC (mw cA cP ob ad S) H → va_D A (mw cA cP ob ad S) → va_S A s.heap H locs → lv_has ls 3 [(0, .ref (ob 0)), (1, .int x1)] → f_Md_sort_38  k2 x1 S = some res → W p l e rm_Md_sort s m args below meth c H locs 0 0 Q (F0 m 38 ls []) := by
  obtain ⟨hx, hb, hml, hown, hts, hK, hA, hN, hZ⟩ := id C0
  intro x1 S H locs ls hP hD hS hl hf
  rw [f_Md_sort_38] at hf
  obtain ⟨x1_1, ex1_1, hf⟩ := bn_some hf
  refine lv_iinc (v := x1_1) (lv' := [(1, .int x1_1), (0, .ref (ob 0))]) hx hb d_Md_sort_38 hl (k := 1) rfl (by rw [ex1_1]; rfl) (by decide) rfl (fun ls hl => ?_)
  refine lv_goto (tgt := 2) hx hb d_Md_sort_41 (by decide) ?_
  exact hk2 x1_1 S H locs ls hP hD hS (lv_sub hl [1, 0] rfl) hf
def f_Md_sort_12  (k2 : Int32 → St → Option St) : Nat → Int32 → Int32 → St → Option St
  | 0 => fun _ _ _ => none
  | n + 1 => fun x1 x2 S => (if x2 ≤ 0 then
      f_Md_sort_38  k2 x1 S
      else
      bd (f_Md_isBefore x2 (x2 - 1) S) (fun q_2 => (if q_2.1 = 0 then
        f_Md_sort_38  k2 x1 q_2.2
        else
        bd (f_Md_swap x2 q_2.2) (fun q_4 => bn (x2 + (-1)) (fun x2_5 => f_Md_sort_12 k2 n x1 x2_5 q_4)))))
set_option maxHeartbeats 4000000 in
set_option maxRecDepth 100000 in
theorem w_Md_sort_12 (C0 : CX p s m args c b_Md_sort 3 R_Md w_Md_sort D clC cA cP A) {res : St} (hret : RTv p l e rm_Md_sort s m args below meth c Q D clC A b_Md_sort 0 0 (fun w => w = mw cA cP ob ad res))   (k2 : Int32 → St → Option St) (hk2 : ∀ (x1 : Int32) (S : St) (H : Heap) (locs : List Loc) (ls : Array Slot), va_P D clC (mw cA cP ob ad S) H → va_D A (mw cA cP ob ad S) → va_S A s.heap H locs → lv_has ls 3 [(0, .ref (ob 0)), (1, .int x1)] → k2 x1 S = some res → W p l e rm_Md_sort s m args below meth c H locs 0 0 Q (F0 m 2 ls [])) : ∀ (n : Nat) (x1 : Int32) (x2 : Int32) (S : St) (H : Heap) (locs : List Loc) (ls : Array Slot), va_P D clC (mw cA cP ob ad S) H → va_D A (mw cA cP ob ad S) → va_S A s.heap H locs → lv_has ls 3 [(0, .ref (ob 0)), (1, .int x1), (2, .int x2)] → f_Md_sort_12  k2 n x1 x2 S = some res → W p l e rm_Md_sort s m args below meth c H locs 0 0 Q (F0 m 12 ls []) := by
  obtain ⟨hx, hb, hml, hown, hts, hK, hA, hN, hZ⟩ := id C0
  intro n
  induction n with
  | zero =>
    intro x1 x2 S H locs ls hP hD hS hl hf
    cases hf
  | succ n ih =>
    intro x1 x2 S H locs ls hP hD hS hl hf
    rw [f_Md_sort_12] at hf
    try dsimp only at hf
    refine lv_iload_n hx hb d_Md_sort_12 rfl (lv_at hl 2 rfl) ?_
    refine lv_if_le (tgt := 38) hx hb d_Md_sort_13 (by decide) (fun c_1 => ?_) (fun c_1 => ?_)
    · rw [if_pos c_1] at hf
      exact w_Md_sort_38 C0 hret   k2 hk2 x1 S H locs ls hP hD hS (lv_sub hl [0, 1] rfl) hf
    · rw [if_neg c_1] at hf
      refine lv_aload_n hx hb d_Md_sort_16 rfl (lv_at hl 0 rfl) ?_
      refine lv_iload_n hx hb d_Md_sort_17 rfl (lv_at hl 2 rfl) ?_
      refine lv_iload_n hx hb d_Md_sort_18 rfl (lv_at hl 2 rfl) ?_
      refine lv_iconst (v := 1) hx hb d_Md_sort_19 (by decide) ?_
      refine lv_isub hx hb d_Md_sort_20 ?_
      obtain ⟨q_2, hq_2, hf⟩ := bd_some hf
      refine kc_i (va_runV (As := [.int x2, .int (x2 - 1)]) (rest := []) ⟨hx, hb, hml, hown, hts⟩ (c_Md_isBefore l D cA cP ob ad x2 (x2 - 1)  S hq_2 H.size) ⟨callB_of 2 hts (gd_Md_isBefore) rfl rfl rfl (hts _ (List.mem_cons_of_mem _ wd_72)) (hts _ (List.mem_cons_of_mem _ wd_1020)) dd_Md_isBefore ⟨Nat.le_of_ble_eq_true rfl, Nat.le_of_ble_eq_true rfl⟩, (hts _ (List.mem_cons_of_mem _ wd_1022)), (hts _ (List.mem_cons_of_mem _ wd_55))⟩ (kpV hK hP hD hN hZ hS 7 0 rfl rfl) rfl rfl hl.1 rfl (lv_room (Nat.le_of_ble_eq_true rfl)) d_Md_sort_21 ⟨Nat.le_of_ble_eq_true rfl, Nat.le_of_ble_eq_true rfl⟩) hP hD hS hA (fun r w H locs hw hP hD hS => ?_)
      obtain ⟨rfl, rfl⟩ := hw
      refine lv_if_eq (tgt := 38) hx hb d_Md_sort_24 (by decide) (fun c_3 => ?_) (fun c_3 => ?_)
      · rw [if_pos c_3] at hf
        exact w_Md_sort_38 C0 hret   k2 hk2 x1 q_2.2 H locs ls hP hD hS (lv_sub hl [0, 1] rfl) hf
      · rw [if_neg c_3] at hf
        refine lv_aload_n hx hb d_Md_sort_27 rfl (lv_at hl 0 rfl) ?_
        refine lv_iload_n hx hb d_Md_sort_28 rfl (lv_at hl 2 rfl) ?_
        obtain ⟨q_4, hq_4, hf⟩ := bd_some hf
        refine kc_v (va_runV (As := [.int x2]) (rest := []) ⟨hx, hb, hml, hown, hts⟩ (c_Md_swap l D cA cP ob ad x2  q_2.2 hq_4 H.size) ⟨callB_of 1 hts (gd_Md_swap) rfl rfl rfl (hts _ (List.mem_cons_of_mem _ wd_72)) (hts _ (List.mem_cons_of_mem _ wd_1024)) dd_Md_swap ⟨Nat.le_of_ble_eq_true rfl, Nat.le_of_ble_eq_true rfl⟩, (hts _ (List.mem_cons_of_mem _ wd_1026)), (hts _ (List.mem_cons_of_mem _ wd_56))⟩ (kpV hK hP hD hN hZ hS 7 0 rfl rfl) rfl rfl hl.1 rfl (lv_room (Nat.le_of_ble_eq_true rfl)) d_Md_sort_29 ⟨Nat.le_of_ble_eq_true rfl, Nat.le_of_ble_eq_true rfl⟩) hP hD hS hA (fun w H locs hw hP hD hS => ?_)
        obtain rfl := hw
        obtain ⟨x2_5, ex2_5, hf⟩ := bn_some hf
        refine lv_iinc (v := x2_5) (lv' := [(2, .int x2_5), (0, .ref (ob 0)), (1, .int x1)]) hx hb d_Md_sort_32 hl (k := 2) rfl (by rw [ex2_5]; rfl) (by decide) rfl (fun ls hl => ?_)
        refine lv_goto (tgt := 12) hx hb d_Md_sort_35 (by decide) ?_
        exact ih x1 x2_5 q_4 H locs ls hP hD hS (lv_sub hl [1, 2, 0] rfl) hf
def f_Md_sort_2   : Nat → Int32 → St → Option St
  | 0 => fun _ _ => none
  | n + 1 => fun x1 S => (if (gi S 4) ≤ x1 then
      some S
      else
      f_Md_sort_12  (f_Md_sort_2  n) FU x1 x1 S)
set_option maxHeartbeats 4000000 in
set_option maxRecDepth 100000 in
theorem w_Md_sort_2 (C0 : CX p s m args c b_Md_sort 3 R_Md w_Md_sort D clC cA cP A) {res : St} (hret : RTv p l e rm_Md_sort s m args below meth c Q D clC A b_Md_sort 0 0 (fun w => w = mw cA cP ob ad res))    : ∀ (n : Nat) (x1 : Int32) (S : St) (H : Heap) (locs : List Loc) (ls : Array Slot), va_P D clC (mw cA cP ob ad S) H → va_D A (mw cA cP ob ad S) → va_S A s.heap H locs → lv_has ls 3 [(0, .ref (ob 0)), (1, .int x1)] → f_Md_sort_2   n x1 S = some res → W p l e rm_Md_sort s m args below meth c H locs 0 0 Q (F0 m 2 ls []) := by
  obtain ⟨hx, hb, hml, hown, hts, hK, hA, hN, hZ⟩ := id C0
  intro n
  induction n with
  | zero =>
    intro x1 S H locs ls hP hD hS hl hf
    cases hf
  | succ n ih =>
    intro x1 S H locs ls hP hD hS hl hf
    rw [f_Md_sort_2] at hf
    try dsimp only at hf
    refine lv_iload_n hx hb d_Md_sort_2 rfl (lv_at hl 1 rfl) ?_
    refine lv_aload_n hx hb d_Md_sort_3 rfl (lv_at hl 0 rfl) ?_
    refine va_get (D := D) (ci := 7) (v := .int (gi S 4)) (C := R_Md) (T := F_Md) (N := 26) hx hb hts (fun w h => List.mem_cons_of_mem _ (in_Md w h)) hown hK hP 0 rfl rfl 6 (by decide) (hts _ (List.mem_cons_of_mem _ wd_828)) (fun _ h9 => h9) rfl d_Md_sort_4 ?_
    refine lv_icmp_ge (tgt := 44) hx hb d_Md_sort_7 (by decide) (fun c_1 => ?_) (fun c_1 => ?_)
    · rw [if_pos c_1] at hf
      cases hf
      exact hret _ _ _ _ _ rfl hP hD hS d_Md_sort_44
    · rw [if_neg c_1] at hf
      refine lv_iload_n hx hb d_Md_sort_10 rfl (lv_at hl 1 rfl) ?_
      refine lv_istore_n (lv' := [(2, .int x1), (0, .ref (ob 0)), (1, .int x1)]) hx hb d_Md_sort_11 rfl hl (by decide) rfl (fun ls hl => ?_)
      exact w_Md_sort_12 C0 hret   (f_Md_sort_2  n) ih FU x1 x1 S H locs ls hP hD hS (lv_sub hl [1, 2, 0] rfl) hf
def f_Md_sort_0    (S : St) : Option St :=
  f_Md_sort_2   FU 1 S
set_option maxHeartbeats 4000000 in
set_option maxRecDepth 100000 in
theorem w_Md_sort_0 (C0 : CX p s m args c b_Md_sort 3 R_Md w_Md_sort D clC cA cP A) {res : St} (hret : RTv p l e rm_Md_sort s m args below meth c Q D clC A b_Md_sort 0 0 (fun w => w = mw cA cP ob ad res))    : ∀  (S : St) (H : Heap) (locs : List Loc) (ls : Array Slot), va_P D clC (mw cA cP ob ad S) H → va_D A (mw cA cP ob ad S) → va_S A s.heap H locs → lv_has ls 3 [(0, .ref (ob 0))] → f_Md_sort_0    S = some res → W p l e rm_Md_sort s m args below meth c H locs 0 0 Q (F0 m 0 ls []) := by
  obtain ⟨hx, hb, hml, hown, hts, hK, hA, hN, hZ⟩ := id C0
  intro  S H locs ls hP hD hS hl hf
  rw [f_Md_sort_0] at hf
  refine lv_iconst (v := 1) hx hb d_Md_sort_0 (by decide) ?_
  refine lv_istore_n (lv' := [(1, .int 1), (0, .ref (ob 0))]) hx hb d_Md_sort_1 rfl hl (by decide) rfl (fun ls hl => ?_)
  exact w_Md_sort_2 C0 hret    FU 1 S H locs ls hP hD hS (lv_sub hl [1, 0] rfl) hf
def f_Md_sort  (S : St) : Option St := f_Md_sort_0   S
theorem c_Md_sort (l : Launch) (D : va_G) (cA cP : ClassId) (ob : Nat → Nat) (ad : Nat → Nat → Nat)   (S : St) {res : St} (hf : f_Md_sort  S = some res) : CTv l y_Md_sort w_Md_sort rm_Md_sort 0 0 D clC (TY cA cP) [.ref (ob 0)] (mw cA cP ob ad S) (fun w => w = mw cA cP ob ad res) :=
  mk_v (cc := b_Md_sort) (maxL := 3) (own := R_Md) (by decide) rfl rfl (Nat.le_of_ble_eq_true rfl) (fun p e s m below meth c A Q C0 hret ls hl hP hD hS => w_Md_sort_0 C0 hret    S _ _ ls hP hD hS (lv_sub hl [0] rfl) hf)
def f_Md_know_137   : Nat → St → Option St
  | 0 => fun  _ => none
  | n + 1 => fun  S => (if (gi S 6) ≤ (gi S 7) then
      bd (f_Md_sort  S) (fun q_2 => some q_2)
      else
      as_ (inb (gi S 7) (gn S 8)) (as_ (inb (gi S 7) (gn S 7)) (bd (f_Md_look (ga S 8 (Int32.toNatClampNeg (gi S 7))) (ga S 7 (Int32.toNatClampNeg (gi S 7))) S) (fun q_5 => bn (seti q_5 7 ((gi q_5 7) + 1)) (fun S_6 => f_Md_know_137  n  S_6)))))
set_option maxHeartbeats 4000000 in
set_option maxRecDepth 100000 in
theorem w_Md_know_137 (C0 : CX p s m args c b_Md_know 4 R_Md w_Md_know D clC cA cP A) {res : St} (hret : RTv p l e rm_Md_know s m args below meth c Q D clC A b_Md_know 0 0 (fun w => w = mw cA cP ob ad res))    : ∀ (n : Nat)  (S : St) (H : Heap) (locs : List Loc) (ls : Array Slot), va_P D clC (mw cA cP ob ad S) H → va_D A (mw cA cP ob ad S) → va_S A s.heap H locs → lv_has ls 4 [(0, .ref (ob 0))] → f_Md_know_137   n  S = some res → W p l e rm_Md_know s m args below meth c H locs 0 0 Q (F0 m 137 ls []) := by
  obtain ⟨hx, hb, hml, hown, hts, hK, hA, hN, hZ⟩ := id C0
  intro n
  induction n with
  | zero =>
    intro  S H locs ls hP hD hS hl hf
    cases hf
  | succ n ih =>
    intro  S H locs ls hP hD hS hl hf
    rw [f_Md_know_137] at hf
    try dsimp only at hf
    refine lv_aload_n hx hb d_Md_know_137 rfl (lv_at hl 0 rfl) ?_
    refine va_get (D := D) (ci := 7) (v := .int (gi S 7)) (C := R_Md) (T := F_Md) (N := 26) hx hb hts (fun w h => List.mem_cons_of_mem _ (in_Md w h)) hown hK hP 0 rfl rfl 13 (by decide) (hts _ (List.mem_cons_of_mem _ wd_835)) (fun _ h9 => h9) rfl d_Md_know_138 ?_
    refine lv_aload_n hx hb d_Md_know_141 rfl (lv_at hl 0 rfl) ?_
    refine va_get (D := D) (ci := 7) (v := .int (gi S 6)) (C := R_Md) (T := F_Md) (N := 26) hx hb hts (fun w h => List.mem_cons_of_mem _ (in_Md w h)) hown hK hP 0 rfl rfl 12 (by decide) (hts _ (List.mem_cons_of_mem _ wd_834)) (fun _ h9 => h9) rfl d_Md_know_142 ?_
    refine lv_icmp_ge (tgt := 183) hx hb d_Md_know_145 (by decide) (fun c_1 => ?_) (fun c_1 => ?_)
    · rw [if_pos c_1] at hf
      refine lv_aload_n hx hb d_Md_know_183 rfl (lv_at hl 0 rfl) ?_
      obtain ⟨q_2, hq_2, hf⟩ := bd_some hf
      refine kc_v (va_runV (As := []) (rest := []) ⟨hx, hb, hml, hown, hts⟩ (c_Md_sort l D cA cP ob ad   S hq_2 H.size) ⟨callB_of 0 hts (gd_Md_sort) rfl rfl rfl (hts _ (List.mem_cons_of_mem _ wd_72)) (hts _ (List.mem_cons_of_mem _ wd_1016)) dd_Md_sort ⟨Nat.le_of_ble_eq_true rfl, Nat.le_of_ble_eq_true rfl⟩, (hts _ (List.mem_cons_of_mem _ wd_1018)), (hts _ (List.mem_cons_of_mem _ wd_54))⟩ (kpV hK hP hD hN hZ hS 7 0 rfl rfl) rfl rfl hl.1 rfl (lv_room (Nat.le_of_ble_eq_true rfl)) d_Md_know_184 ⟨Nat.le_of_ble_eq_true rfl, Nat.le_of_ble_eq_true rfl⟩) hP hD hS hA (fun w H locs hw hP hD hS => ?_)
      obtain rfl := hw
      cases hf
      exact hret _ _ _ _ _ rfl hP hD hS d_Md_know_187
    · rw [if_neg c_1] at hf
      refine lv_aload_n hx hb d_Md_know_148 rfl (lv_at hl 0 rfl) ?_
      refine lv_aload_n hx hb d_Md_know_149 rfl (lv_at hl 0 rfl) ?_
      refine va_get (D := D) (ci := 7) (v := .ref (ob 8)) (C := R_Md) (T := F_Md) (N := 26) hx hb hts (fun w h => List.mem_cons_of_mem _ (in_Md w h)) hown hK hP 0 rfl rfl 15 (by decide) (hts _ (List.mem_cons_of_mem _ wd_837)) (fun _ h9 => h9) rfl d_Md_know_150 ?_
      refine lv_aload_n hx hb d_Md_know_153 rfl (lv_at hl 0 rfl) ?_
      refine va_get (D := D) (ci := 7) (v := .int (gi S 7)) (C := R_Md) (T := F_Md) (N := 26) hx hb hts (fun w h => List.mem_cons_of_mem _ (in_Md w h)) hown hK hP 0 rfl rfl 13 (by decide) (hts _ (List.mem_cons_of_mem _ wd_835)) (fun _ h9 => h9) rfl d_Md_know_154 ?_
      obtain ⟨hi_3, hf⟩ := as_some hf
      refine va_iald hx hb hK hP 8 0 rfl rfl (inb_in hi_3) d_Md_know_157 ?_
      refine lv_aload_n hx hb d_Md_know_158 rfl (lv_at hl 0 rfl) ?_
      refine va_get (D := D) (ci := 7) (v := .ref (ob 7)) (C := R_Md) (T := F_Md) (N := 26) hx hb hts (fun w h => List.mem_cons_of_mem _ (in_Md w h)) hown hK hP 0 rfl rfl 14 (by decide) (hts _ (List.mem_cons_of_mem _ wd_836)) (fun _ h9 => h9) rfl d_Md_know_159 ?_
      refine lv_aload_n hx hb d_Md_know_162 rfl (lv_at hl 0 rfl) ?_
      refine va_get (D := D) (ci := 7) (v := .int (gi S 7)) (C := R_Md) (T := F_Md) (N := 26) hx hb hts (fun w h => List.mem_cons_of_mem _ (in_Md w h)) hown hK hP 0 rfl rfl 13 (by decide) (hts _ (List.mem_cons_of_mem _ wd_835)) (fun _ h9 => h9) rfl d_Md_know_163 ?_
      obtain ⟨hi_4, hf⟩ := as_some hf
      refine va_iald hx hb hK hP 7 0 rfl rfl (inb_in hi_4) d_Md_know_166 ?_
      obtain ⟨q_5, hq_5, hf⟩ := bd_some hf
      refine kc_v (va_runV (As := [.int (ga S 8 (Int32.toNatClampNeg (gi S 7))), .int (ga S 7 (Int32.toNatClampNeg (gi S 7)))]) (rest := []) ⟨hx, hb, hml, hown, hts⟩ (c_Md_look l D cA cP ob ad (ga S 8 (Int32.toNatClampNeg (gi S 7))) (ga S 7 (Int32.toNatClampNeg (gi S 7)))  S hq_5 H.size) ⟨callB_of 2 hts (gd_Md_look) rfl rfl rfl (hts _ (List.mem_cons_of_mem _ wd_72)) (hts _ (List.mem_cons_of_mem _ wd_979)) dd_Md_look ⟨Nat.le_of_ble_eq_true rfl, Nat.le_of_ble_eq_true rfl⟩, (hts _ (List.mem_cons_of_mem _ wd_981)), (hts _ (List.mem_cons_of_mem _ wd_45))⟩ (kpV hK hP hD hN hZ hS 7 0 rfl rfl) rfl rfl hl.1 rfl (lv_room (Nat.le_of_ble_eq_true rfl)) d_Md_know_167 ⟨Nat.le_of_ble_eq_true rfl, Nat.le_of_ble_eq_true rfl⟩) hP hD hS hA (fun w H locs hw hP hD hS => ?_)
      obtain rfl := hw
      refine lv_aload_n hx hb d_Md_know_170 rfl (lv_at hl 0 rfl) ?_
      refine lv_dup hx hb d_Md_know_171 rfl ?_
      refine va_get (D := D) (ci := 7) (v := .int (gi q_5 7)) (C := R_Md) (T := F_Md) (N := 26) hx hb hts (fun w h => List.mem_cons_of_mem _ (in_Md w h)) hown hK hP 0 rfl rfl 13 (by decide) (hts _ (List.mem_cons_of_mem _ wd_835)) (fun _ h9 => h9) rfl d_Md_know_172 ?_
      refine lv_iconst (v := 1) hx hb d_Md_know_175 (by decide) ?_
      refine lv_iadd hx hb d_Md_know_176 ?_
      obtain ⟨S_6, eS_6, hf⟩ := bn_some hf
      refine va_put (D := D) (ci := 7) (v := .int ((gi q_5 7) + 1)) (ty := .int) (C := R_Md) (T := F_Md) (N := 26) hx hb hts (fun w h => List.mem_cons_of_mem _ (in_Md w h)) t_Md tk_Md nk_Md hown hK hP hD hS 0 rfl rfl 13 (by decide) (hts _ (List.mem_cons_of_mem _ wd_835)) (fun _ h9 => h9) rfl (by decide +kernel) rfl rfl (Nat.le_of_ble_eq_true rfl) d_Md_know_177 (fun H locs hP hD hS => ?_)
      have hP : va_P D clC (mw cA cP ob ad S_6) H := by rw [eS_6]; exact hP
      have hD : va_D A (mw cA cP ob ad S_6) := by rw [eS_6]; exact hD
      refine lv_goto (tgt := 137) hx hb d_Md_know_180 (by decide) ?_
      exact ih S_6 H locs ls hP hD hS (lv_sub hl [0] rfl) hf
def f_Md_know_125  (k57 : Int32 → Int32 → Int32 → St → Option St) (x1 : Int32) (x2 : Int32) (x3 : Int32) (S : St) : Option St :=
  bn (x3 + 1) (fun x3_1 => k57 x1 x2 x3_1 S)
set_option maxHeartbeats 4000000 in
set_option maxRecDepth 100000 in
theorem w_Md_know_125 (C0 : CX p s m args c b_Md_know 4 R_Md w_Md_know D clC cA cP A) {res : St} (hret : RTv p l e rm_Md_know s m args below meth c Q D clC A b_Md_know 0 0 (fun w => w = mw cA cP ob ad res))   (k57 : Int32 → Int32 → Int32 → St → Option St) (hk57 : ∀ (x1 : Int32) (x2 : Int32) (x3 : Int32) (S : St) (H : Heap) (locs : List Loc) (ls : Array Slot), va_P D clC (mw cA cP ob ad S) H → va_D A (mw cA cP ob ad S) → va_S A s.heap H locs → lv_has ls 4 [(0, .ref (ob 0)), (1, .int x1), (2, .int x2), (3, .int x3)] → k57 x1 x2 x3 S = some res → W p l e rm_Md_know s m args below meth c H locs 0 0 Q (F0 m 57 ls [])) : ∀ (x1 : Int32) (x2 : Int32) (x3 : Int32) (S : St) (H : Heap) (locs : List Loc) (ls : Array Slot), va_P D clC (mw cA cP ob ad S) H → va_D A (mw cA cP ob ad S) → va_S A s.heap H locs → lv_has ls 4 [(0, .ref (ob 0)), (1, .int x1), (2, .int x2), (3, .int x3)] → f_Md_know_125  k57 x1 x2 x3 S = some res → W p l e rm_Md_know s m args below meth c H locs 0 0 Q (F0 m 125 ls []) := by
  obtain ⟨hx, hb, hml, hown, hts, hK, hA, hN, hZ⟩ := id C0
  intro x1 x2 x3 S H locs ls hP hD hS hl hf
  rw [f_Md_know_125] at hf
  obtain ⟨x3_1, ex3_1, hf⟩ := bn_some hf
  refine lv_iinc (v := x3_1) (lv' := [(3, .int x3_1), (0, .ref (ob 0)), (1, .int x1), (2, .int x2)]) hx hb d_Md_know_125 hl (k := 3) rfl (by rw [ex3_1]; rfl) (by decide) rfl (fun ls hl => ?_)
  refine lv_goto (tgt := 57) hx hb d_Md_know_128 (by decide) ?_
  exact hk57 x1 x2 x3_1 S H locs ls hP hD hS (lv_sub hl [1, 2, 3, 0] rfl) hf
def f_Md_know_57   : Nat → Int32 → Int32 → Int32 → St → Option St
  | 0 => fun _ _ _ _ => none
  | n + 1 => fun x1 x2 x3 S => (if (gi S 2) ≤ x3 then
      bd (f_Md_look x1 x2 S) (fun q_2 => f_Md_know_137   FU  q_2)
      else
      (if x3 = x1 then
        f_Md_know_125  (f_Md_know_57  n) x1 x2 x3 S
        else
        as_ (inb 1 (gn S 6)) (bd (f_Md_sideOf x1 (ga S 6 (Int32.toNatClampNeg 1)) x3 S) (fun q_5 => (if q_5.1 = 0 then
          as_ (inb x3 (gn q_5.2 1)) (as_ (inb x3 (gn q_5.2 2)) (bd (f_Md_apart x1 (ga q_5.2 1 (Int32.toNatClampNeg x3)) (ga q_5.2 2 (Int32.toNatClampNeg x3)) q_5.2) (fun q_9 => as_ (inb x2 (gn q_9.2 1)) (as_ (inb x2 (gn q_9.2 2)) (bd (f_Md_apart x1 (ga q_9.2 1 (Int32.toNatClampNeg x2)) (ga q_9.2 2 (Int32.toNatClampNeg x2)) q_9.2) (fun q_12 => (if 0 ≤ (lg_cmp q_9.1 q_12.1) then
            f_Md_know_125  (f_Md_know_57  n) x1 x2 x3 q_12.2
            else
            f_Md_know_125  (f_Md_know_57  n) x1 x3 x3 q_12.2)))))))
          else
          f_Md_know_125  (f_Md_know_57  n) x1 x2 x3 q_5.2)))))
set_option maxHeartbeats 4000000 in
set_option maxRecDepth 100000 in
theorem w_Md_know_57 (C0 : CX p s m args c b_Md_know 4 R_Md w_Md_know D clC cA cP A) {res : St} (hret : RTv p l e rm_Md_know s m args below meth c Q D clC A b_Md_know 0 0 (fun w => w = mw cA cP ob ad res))    : ∀ (n : Nat) (x1 : Int32) (x2 : Int32) (x3 : Int32) (S : St) (H : Heap) (locs : List Loc) (ls : Array Slot), va_P D clC (mw cA cP ob ad S) H → va_D A (mw cA cP ob ad S) → va_S A s.heap H locs → lv_has ls 4 [(0, .ref (ob 0)), (1, .int x1), (2, .int x2), (3, .int x3)] → f_Md_know_57   n x1 x2 x3 S = some res → W p l e rm_Md_know s m args below meth c H locs 0 0 Q (F0 m 57 ls []) := by
  obtain ⟨hx, hb, hml, hown, hts, hK, hA, hN, hZ⟩ := id C0
  intro n
  induction n with
  | zero =>
    intro x1 x2 x3 S H locs ls hP hD hS hl hf
    cases hf
  | succ n ih =>
    intro x1 x2 x3 S H locs ls hP hD hS hl hf
    rw [f_Md_know_57] at hf
    try dsimp only at hf
    refine lv_iload_n hx hb d_Md_know_57 rfl (lv_at hl 3 rfl) ?_
    refine lv_aload_n hx hb d_Md_know_58 rfl (lv_at hl 0 rfl) ?_
    refine va_get (D := D) (ci := 7) (v := .int (gi S 2)) (C := R_Md) (T := F_Md) (N := 26) hx hb hts (fun w h => List.mem_cons_of_mem _ (in_Md w h)) hown hK hP 0 rfl rfl 2 (by decide) (hts _ (List.mem_cons_of_mem _ wd_824)) (fun _ h9 => h9) rfl d_Md_know_59 ?_
    refine lv_icmp_ge (tgt := 131) hx hb d_Md_know_62 (by decide) (fun c_1 => ?_) (fun c_1 => ?_)
    · rw [if_pos c_1] at hf
      refine lv_aload_n hx hb d_Md_know_131 rfl (lv_at hl 0 rfl) ?_
      refine lv_iload_n hx hb d_Md_know_132 rfl (lv_at hl 1 rfl) ?_
      refine lv_iload_n hx hb d_Md_know_133 rfl (lv_at hl 2 rfl) ?_
      obtain ⟨q_2, hq_2, hf⟩ := bd_some hf
      refine kc_v (va_runV (As := [.int x1, .int x2]) (rest := []) ⟨hx, hb, hml, hown, hts⟩ (c_Md_look l D cA cP ob ad x1 x2  S hq_2 H.size) ⟨callB_of 2 hts (gd_Md_look) rfl rfl rfl (hts _ (List.mem_cons_of_mem _ wd_72)) (hts _ (List.mem_cons_of_mem _ wd_979)) dd_Md_look ⟨Nat.le_of_ble_eq_true rfl, Nat.le_of_ble_eq_true rfl⟩, (hts _ (List.mem_cons_of_mem _ wd_981)), (hts _ (List.mem_cons_of_mem _ wd_45))⟩ (kpV hK hP hD hN hZ hS 7 0 rfl rfl) rfl rfl hl.1 rfl (lv_room (Nat.le_of_ble_eq_true rfl)) d_Md_know_134 ⟨Nat.le_of_ble_eq_true rfl, Nat.le_of_ble_eq_true rfl⟩) hP hD hS hA (fun w H locs hw hP hD hS => ?_)
      obtain rfl := hw
      exact w_Md_know_137 C0 hret    FU  q_2 H locs ls hP hD hS (lv_sub hl [0] rfl) hf
    · rw [if_neg c_1] at hf
      refine lv_iload_n hx hb d_Md_know_65 rfl (lv_at hl 3 rfl) ?_
      refine lv_iload_n hx hb d_Md_know_66 rfl (lv_at hl 1 rfl) ?_
      refine lv_icmp_eq (tgt := 125) hx hb d_Md_know_67 (by decide) (fun c_3 => ?_) (fun c_3 => ?_)
      · rw [if_pos c_3] at hf
        exact w_Md_know_125 C0 hret   (f_Md_know_57  n) ih x1 x2 x3 S H locs ls hP hD hS (lv_sub hl [0, 1, 2, 3] rfl) hf
      · rw [if_neg c_3] at hf
        refine lv_aload_n hx hb d_Md_know_70 rfl (lv_at hl 0 rfl) ?_
        refine lv_iload_n hx hb d_Md_know_71 rfl (lv_at hl 1 rfl) ?_
        refine lv_aload_n hx hb d_Md_know_72 rfl (lv_at hl 0 rfl) ?_
        refine va_get (D := D) (ci := 7) (v := .ref (ob 6)) (C := R_Md) (T := F_Md) (N := 26) hx hb hts (fun w h => List.mem_cons_of_mem _ (in_Md w h)) hown hK hP 0 rfl rfl 11 (by decide) (hts _ (List.mem_cons_of_mem _ wd_833)) (fun _ h9 => h9) rfl d_Md_know_73 ?_
        refine lv_iconst (v := 1) hx hb d_Md_know_76 (by decide) ?_
        obtain ⟨hi_4, hf⟩ := as_some hf
        refine va_iald hx hb hK hP 6 0 rfl rfl (inb_in hi_4) d_Md_know_77 ?_
        refine lv_iload_n hx hb d_Md_know_78 rfl (lv_at hl 3 rfl) ?_
        obtain ⟨q_5, hq_5, hf⟩ := bd_some hf
        refine kc_i (va_runV (As := [.int x1, .int (ga S 6 (Int32.toNatClampNeg 1)), .int x3]) (rest := []) ⟨hx, hb, hml, hown, hts⟩ (c_Md_sideOf l D cA cP ob ad x1 (ga S 6 (Int32.toNatClampNeg 1)) x3  S hq_5 H.size) ⟨callB_of 3 hts (gd_Md_sideOf) rfl rfl rfl (hts _ (List.mem_cons_of_mem _ wd_72)) (hts _ (List.mem_cons_of_mem _ wd_961)) dd_Md_sideOf ⟨Nat.le_of_ble_eq_true rfl, Nat.le_of_ble_eq_true rfl⟩, (hts _ (List.mem_cons_of_mem _ wd_963)), (hts _ (List.mem_cons_of_mem _ wd_42))⟩ (kpV hK hP hD hN hZ hS 7 0 rfl rfl) rfl rfl hl.1 rfl (lv_room (Nat.le_of_ble_eq_true rfl)) d_Md_know_79 ⟨Nat.le_of_ble_eq_true rfl, Nat.le_of_ble_eq_true rfl⟩) hP hD hS hA (fun r w H locs hw hP hD hS => ?_)
        obtain ⟨rfl, rfl⟩ := hw
        refine lv_if_ne (tgt := 125) hx hb d_Md_know_82 (by decide) (fun c_6 => ?_) (fun c_6 => ?_)
        · rw [if_neg c_6] at hf
          exact w_Md_know_125 C0 hret   (f_Md_know_57  n) ih x1 x2 x3 q_5.2 H locs ls hP hD hS (lv_sub hl [0, 1, 2, 3] rfl) hf
        · rw [if_pos c_6] at hf
          refine lv_aload_n hx hb d_Md_know_85 rfl (lv_at hl 0 rfl) ?_
          refine lv_iload_n hx hb d_Md_know_86 rfl (lv_at hl 1 rfl) ?_
          refine lv_aload_n hx hb d_Md_know_87 rfl (lv_at hl 0 rfl) ?_
          refine va_get (D := D) (ci := 7) (v := .ref (ob 1)) (C := R_Md) (T := F_Md) (N := 26) hx hb hts (fun w h => List.mem_cons_of_mem _ (in_Md w h)) hown hK hP 0 rfl rfl 3 (by decide) (hts _ (List.mem_cons_of_mem _ wd_825)) (fun _ h9 => h9) rfl d_Md_know_88 ?_
          refine lv_iload_n hx hb d_Md_know_91 rfl (lv_at hl 3 rfl) ?_
          obtain ⟨hi_7, hf⟩ := as_some hf
          refine va_iald hx hb hK hP 1 0 rfl rfl (inb_in hi_7) d_Md_know_92 ?_
          refine lv_aload_n hx hb d_Md_know_93 rfl (lv_at hl 0 rfl) ?_
          refine va_get (D := D) (ci := 7) (v := .ref (ob 2)) (C := R_Md) (T := F_Md) (N := 26) hx hb hts (fun w h => List.mem_cons_of_mem _ (in_Md w h)) hown hK hP 0 rfl rfl 4 (by decide) (hts _ (List.mem_cons_of_mem _ wd_826)) (fun _ h9 => h9) rfl d_Md_know_94 ?_
          refine lv_iload_n hx hb d_Md_know_97 rfl (lv_at hl 3 rfl) ?_
          obtain ⟨hi_8, hf⟩ := as_some hf
          refine va_iald hx hb hK hP 2 0 rfl rfl (inb_in hi_8) d_Md_know_98 ?_
          obtain ⟨q_9, hq_9, hf⟩ := bd_some hf
          refine kc_l (va_runV (As := [.int x1, .int (ga q_5.2 1 (Int32.toNatClampNeg x3)), .int (ga q_5.2 2 (Int32.toNatClampNeg x3))]) (rest := []) ⟨hx, hb, hml, hown, hts⟩ (c_Md_apart l D cA cP ob ad x1 (ga q_5.2 1 (Int32.toNatClampNeg x3)) (ga q_5.2 2 (Int32.toNatClampNeg x3))  q_5.2 hq_9 H.size) ⟨callB_of 3 hts (gd_Md_apart) rfl rfl rfl (hts _ (List.mem_cons_of_mem _ wd_72)) (hts _ (List.mem_cons_of_mem _ wd_975)) dd_Md_apart ⟨Nat.le_of_ble_eq_true rfl, Nat.le_of_ble_eq_true rfl⟩, (hts _ (List.mem_cons_of_mem _ wd_977)), (hts _ (List.mem_cons_of_mem _ wd_44))⟩ (kpV hK hP hD hN hZ hS 7 0 rfl rfl) rfl rfl hl.1 rfl (lv_room (Nat.le_of_ble_eq_true rfl)) d_Md_know_99 ⟨Nat.le_of_ble_eq_true rfl, Nat.le_of_ble_eq_true rfl⟩) hP hD hS hA (fun r w H locs hw hP hD hS => ?_)
          obtain ⟨rfl, rfl⟩ := hw
          refine lv_aload_n hx hb d_Md_know_102 rfl (lv_at hl 0 rfl) ?_
          refine lv_iload_n hx hb d_Md_know_103 rfl (lv_at hl 1 rfl) ?_
          refine lv_aload_n hx hb d_Md_know_104 rfl (lv_at hl 0 rfl) ?_
          refine va_get (D := D) (ci := 7) (v := .ref (ob 1)) (C := R_Md) (T := F_Md) (N := 26) hx hb hts (fun w h => List.mem_cons_of_mem _ (in_Md w h)) hown hK hP 0 rfl rfl 3 (by decide) (hts _ (List.mem_cons_of_mem _ wd_825)) (fun _ h9 => h9) rfl d_Md_know_105 ?_
          refine lv_iload_n hx hb d_Md_know_108 rfl (lv_at hl 2 rfl) ?_
          obtain ⟨hi_10, hf⟩ := as_some hf
          refine va_iald hx hb hK hP 1 0 rfl rfl (inb_in hi_10) d_Md_know_109 ?_
          refine lv_aload_n hx hb d_Md_know_110 rfl (lv_at hl 0 rfl) ?_
          refine va_get (D := D) (ci := 7) (v := .ref (ob 2)) (C := R_Md) (T := F_Md) (N := 26) hx hb hts (fun w h => List.mem_cons_of_mem _ (in_Md w h)) hown hK hP 0 rfl rfl 4 (by decide) (hts _ (List.mem_cons_of_mem _ wd_826)) (fun _ h9 => h9) rfl d_Md_know_111 ?_
          refine lv_iload_n hx hb d_Md_know_114 rfl (lv_at hl 2 rfl) ?_
          obtain ⟨hi_11, hf⟩ := as_some hf
          refine va_iald hx hb hK hP 2 0 rfl rfl (inb_in hi_11) d_Md_know_115 ?_
          obtain ⟨q_12, hq_12, hf⟩ := bd_some hf
          refine kc_l (va_runV (As := [.int x1, .int (ga q_9.2 1 (Int32.toNatClampNeg x2)), .int (ga q_9.2 2 (Int32.toNatClampNeg x2))]) (rest := [.long q_9.1]) ⟨hx, hb, hml, hown, hts⟩ (c_Md_apart l D cA cP ob ad x1 (ga q_9.2 1 (Int32.toNatClampNeg x2)) (ga q_9.2 2 (Int32.toNatClampNeg x2))  q_9.2 hq_12 H.size) ⟨callB_of 3 hts (gd_Md_apart) rfl rfl rfl (hts _ (List.mem_cons_of_mem _ wd_72)) (hts _ (List.mem_cons_of_mem _ wd_975)) dd_Md_apart ⟨Nat.le_of_ble_eq_true rfl, Nat.le_of_ble_eq_true rfl⟩, (hts _ (List.mem_cons_of_mem _ wd_977)), (hts _ (List.mem_cons_of_mem _ wd_44))⟩ (kpV hK hP hD hN hZ hS 7 0 rfl rfl) rfl rfl hl.1 rfl (lv_room (Nat.le_of_ble_eq_true rfl)) d_Md_know_116 ⟨Nat.le_of_ble_eq_true rfl, Nat.le_of_ble_eq_true rfl⟩) hP hD hS hA (fun r w H locs hw hP hD hS => ?_)
          obtain ⟨rfl, rfl⟩ := hw
          refine W.lcmp hx hb d_Md_know_119 ?_
          refine lv_if_ge (tgt := 125) hx hb d_Md_know_120 (by decide) (fun c_13 => ?_) (fun c_13 => ?_)
          · rw [if_pos c_13] at hf
            exact w_Md_know_125 C0 hret   (f_Md_know_57  n) ih x1 x2 x3 q_12.2 H locs ls hP hD hS (lv_sub hl [0, 1, 2, 3] rfl) hf
          · rw [if_neg c_13] at hf
            refine lv_iload_n hx hb d_Md_know_123 rfl (lv_at hl 3 rfl) ?_
            refine lv_istore_n (lv' := [(2, .int x3), (0, .ref (ob 0)), (1, .int x1), (3, .int x3)]) hx hb d_Md_know_124 rfl hl (by decide) rfl (fun ls hl => ?_)
            exact w_Md_know_125 C0 hret   (f_Md_know_57  n) ih x1 x3 x3 q_12.2 H locs ls hP hD hS (lv_sub hl [1, 2, 0, 3] rfl) hf
def f_Md_know_0    (S : St) : Option St :=
  (if (gi S 3) = 0 then
    bn (seti S 3 1) (fun S_2 => bn (seti S_2 4 0) (fun S_3 => bn (seti S_3 6 0) (fun S_4 => bn (seti S_4 7 0) (fun S_5 => bd (f_Md_findCorners  S_5) (fun q_6 => (if 3 ≤ (gi q_6 5) then
      as_ (inb 0 (gn q_6 6)) (bn (ga q_6 6 (Int32.toNatClampNeg 0)) (fun x1_9 => as_ (inb 1 (gn q_6 6)) (bn (ga q_6 6 (Int32.toNatClampNeg 1)) (fun x2_11 => f_Md_know_57   FU x1_9 x2_11 0 q_6))))
      else
      some q_6))))))
    else
    some S)
set_option maxHeartbeats 4000000 in
set_option maxRecDepth 100000 in
theorem w_Md_know_0 (C0 : CX p s m args c b_Md_know 4 R_Md w_Md_know D clC cA cP A) {res : St} (hret : RTv p l e rm_Md_know s m args below meth c Q D clC A b_Md_know 0 0 (fun w => w = mw cA cP ob ad res))    : ∀  (S : St) (H : Heap) (locs : List Loc) (ls : Array Slot), va_P D clC (mw cA cP ob ad S) H → va_D A (mw cA cP ob ad S) → va_S A s.heap H locs → lv_has ls 4 [(0, .ref (ob 0))] → f_Md_know_0    S = some res → W p l e rm_Md_know s m args below meth c H locs 0 0 Q (F0 m 0 ls []) := by
  obtain ⟨hx, hb, hml, hown, hts, hK, hA, hN, hZ⟩ := id C0
  intro  S H locs ls hP hD hS hl hf
  rw [f_Md_know_0] at hf
  refine lv_aload_n hx hb d_Md_know_0 rfl (lv_at hl 0 rfl) ?_
  refine va_get (D := D) (ci := 7) (v := .int (gi S 3)) (C := R_Md) (T := F_Md) (N := 26) hx hb hts (fun w h => List.mem_cons_of_mem _ (in_Md w h)) hown hK hP 0 rfl rfl 5 (by decide) (hts _ (List.mem_cons_of_mem _ wd_827)) (fun _ h9 => h9) rfl d_Md_know_1 ?_
  refine lv_if_eq (tgt := 8) hx hb d_Md_know_4 (by decide) (fun c_1 => ?_) (fun c_1 => ?_)
  · rw [if_pos c_1] at hf
    refine lv_aload_n hx hb d_Md_know_8 rfl (lv_at hl 0 rfl) ?_
    refine lv_iconst (v := 1) hx hb d_Md_know_9 (by decide) ?_
    obtain ⟨S_2, eS_2, hf⟩ := bn_some hf
    refine va_put (D := D) (ci := 7) (v := .int 1) (ty := .boolean) (C := R_Md) (T := F_Md) (N := 26) hx hb hts (fun w h => List.mem_cons_of_mem _ (in_Md w h)) t_Md tk_Md nk_Md hown hK hP hD hS 0 rfl rfl 5 (by decide) (hts _ (List.mem_cons_of_mem _ wd_827)) (fun _ h9 => h9) rfl (by decide +kernel) rfl rfl (Nat.le_of_ble_eq_true rfl) d_Md_know_10 (fun H locs hP hD hS => ?_)
    have hP : va_P D clC (mw cA cP ob ad S_2) H := by rw [eS_2]; exact hP
    have hD : va_D A (mw cA cP ob ad S_2) := by rw [eS_2]; exact hD
    refine lv_aload_n hx hb d_Md_know_13 rfl (lv_at hl 0 rfl) ?_
    refine lv_iconst (v := 0) hx hb d_Md_know_14 (by decide) ?_
    obtain ⟨S_3, eS_3, hf⟩ := bn_some hf
    refine va_put (D := D) (ci := 7) (v := .int 0) (ty := .int) (C := R_Md) (T := F_Md) (N := 26) hx hb hts (fun w h => List.mem_cons_of_mem _ (in_Md w h)) t_Md tk_Md nk_Md hown hK hP hD hS 0 rfl rfl 6 (by decide) (hts _ (List.mem_cons_of_mem _ wd_828)) (fun _ h9 => h9) rfl (by decide +kernel) rfl rfl (Nat.le_of_ble_eq_true rfl) d_Md_know_15 (fun H locs hP hD hS => ?_)
    have hP : va_P D clC (mw cA cP ob ad S_3) H := by rw [eS_3]; exact hP
    have hD : va_D A (mw cA cP ob ad S_3) := by rw [eS_3]; exact hD
    refine lv_aload_n hx hb d_Md_know_18 rfl (lv_at hl 0 rfl) ?_
    refine lv_iconst (v := 0) hx hb d_Md_know_19 (by decide) ?_
    obtain ⟨S_4, eS_4, hf⟩ := bn_some hf
    refine va_put (D := D) (ci := 7) (v := .int 0) (ty := .int) (C := R_Md) (T := F_Md) (N := 26) hx hb hts (fun w h => List.mem_cons_of_mem _ (in_Md w h)) t_Md tk_Md nk_Md hown hK hP hD hS 0 rfl rfl 12 (by decide) (hts _ (List.mem_cons_of_mem _ wd_834)) (fun _ h9 => h9) rfl (by decide +kernel) rfl rfl (Nat.le_of_ble_eq_true rfl) d_Md_know_20 (fun H locs hP hD hS => ?_)
    have hP : va_P D clC (mw cA cP ob ad S_4) H := by rw [eS_4]; exact hP
    have hD : va_D A (mw cA cP ob ad S_4) := by rw [eS_4]; exact hD
    refine lv_aload_n hx hb d_Md_know_23 rfl (lv_at hl 0 rfl) ?_
    refine lv_iconst (v := 0) hx hb d_Md_know_24 (by decide) ?_
    obtain ⟨S_5, eS_5, hf⟩ := bn_some hf
    refine va_put (D := D) (ci := 7) (v := .int 0) (ty := .int) (C := R_Md) (T := F_Md) (N := 26) hx hb hts (fun w h => List.mem_cons_of_mem _ (in_Md w h)) t_Md tk_Md nk_Md hown hK hP hD hS 0 rfl rfl 13 (by decide) (hts _ (List.mem_cons_of_mem _ wd_835)) (fun _ h9 => h9) rfl (by decide +kernel) rfl rfl (Nat.le_of_ble_eq_true rfl) d_Md_know_25 (fun H locs hP hD hS => ?_)
    have hP : va_P D clC (mw cA cP ob ad S_5) H := by rw [eS_5]; exact hP
    have hD : va_D A (mw cA cP ob ad S_5) := by rw [eS_5]; exact hD
    refine lv_aload_n hx hb d_Md_know_28 rfl (lv_at hl 0 rfl) ?_
    obtain ⟨q_6, hq_6, hf⟩ := bd_some hf
    refine kc_v (va_runV (As := []) (rest := []) ⟨hx, hb, hml, hown, hts⟩ (c_Md_findCorners l D cA cP ob ad   S_5 hq_6 H.size) ⟨callB_of 0 hts (gd_Md_findCorners) rfl rfl rfl (hts _ (List.mem_cons_of_mem _ wd_72)) (hts _ (List.mem_cons_of_mem _ wd_945)) dd_Md_findCorners ⟨Nat.le_of_ble_eq_true rfl, Nat.le_of_ble_eq_true rfl⟩, (hts _ (List.mem_cons_of_mem _ wd_947)), (hts _ (List.mem_cons_of_mem _ wd_38))⟩ (kpV hK hP hD hN hZ hS 7 0 rfl rfl) rfl rfl hl.1 rfl (lv_room (Nat.le_of_ble_eq_true rfl)) d_Md_know_29 ⟨Nat.le_of_ble_eq_true rfl, Nat.le_of_ble_eq_true rfl⟩) hP hD hS hA (fun w H locs hw hP hD hS => ?_)
    obtain rfl := hw
    refine lv_aload_n hx hb d_Md_know_32 rfl (lv_at hl 0 rfl) ?_
    refine va_get (D := D) (ci := 7) (v := .int (gi q_6 5)) (C := R_Md) (T := F_Md) (N := 26) hx hb hts (fun w h => List.mem_cons_of_mem _ (in_Md w h)) hown hK hP 0 rfl rfl 10 (by decide) (hts _ (List.mem_cons_of_mem _ wd_832)) (fun _ h9 => h9) rfl d_Md_know_33 ?_
    refine lv_iconst (v := 3) hx hb d_Md_know_36 (by decide) ?_
    refine lv_icmp_ge (tgt := 41) hx hb d_Md_know_37 (by decide) (fun c_7 => ?_) (fun c_7 => ?_)
    · rw [if_pos c_7] at hf
      refine lv_aload_n hx hb d_Md_know_41 rfl (lv_at hl 0 rfl) ?_
      refine va_get (D := D) (ci := 7) (v := .ref (ob 6)) (C := R_Md) (T := F_Md) (N := 26) hx hb hts (fun w h => List.mem_cons_of_mem _ (in_Md w h)) hown hK hP 0 rfl rfl 11 (by decide) (hts _ (List.mem_cons_of_mem _ wd_833)) (fun _ h9 => h9) rfl d_Md_know_42 ?_
      refine lv_iconst (v := 0) hx hb d_Md_know_45 (by decide) ?_
      obtain ⟨hi_8, hf⟩ := as_some hf
      refine va_iald hx hb hK hP 6 0 rfl rfl (inb_in hi_8) d_Md_know_46 ?_
      obtain ⟨x1_9, ex1_9, hf⟩ := bn_some hf
      refine tpi ex1_9 ?_
      refine lv_istore_n (lv' := [(1, .int x1_9), (0, .ref (ob 0))]) hx hb d_Md_know_47 rfl hl (by decide) rfl (fun ls hl => ?_)
      refine lv_aload_n hx hb d_Md_know_48 rfl (lv_at hl 1 rfl) ?_
      refine va_get (D := D) (ci := 7) (v := .ref (ob 6)) (C := R_Md) (T := F_Md) (N := 26) hx hb hts (fun w h => List.mem_cons_of_mem _ (in_Md w h)) hown hK hP 0 rfl rfl 11 (by decide) (hts _ (List.mem_cons_of_mem _ wd_833)) (fun _ h9 => h9) rfl d_Md_know_49 ?_
      refine lv_iconst (v := 1) hx hb d_Md_know_52 (by decide) ?_
      obtain ⟨hi_10, hf⟩ := as_some hf
      refine va_iald hx hb hK hP 6 0 rfl rfl (inb_in hi_10) d_Md_know_53 ?_
      obtain ⟨x2_11, ex2_11, hf⟩ := bn_some hf
      refine tpi ex2_11 ?_
      refine lv_istore_n (lv' := [(2, .int x2_11), (1, .int x1_9), (0, .ref (ob 0))]) hx hb d_Md_know_54 rfl hl (by decide) rfl (fun ls hl => ?_)
      refine lv_iconst (v := 0) hx hb d_Md_know_55 (by decide) ?_
      refine lv_istore_n (lv' := [(3, .int 0), (2, .int x2_11), (1, .int x1_9), (0, .ref (ob 0))]) hx hb d_Md_know_56 rfl hl (by decide) rfl (fun ls hl => ?_)
      exact w_Md_know_57 C0 hret    FU x1_9 x2_11 0 q_6 H locs ls hP hD hS (lv_sub hl [3, 2, 1, 0] rfl) hf
    · rw [if_neg c_7] at hf
      cases hf
      exact hret _ _ _ _ _ rfl hP hD hS d_Md_know_40
  · rw [if_neg c_1] at hf
    cases hf
    exact hret _ _ _ _ _ rfl hP hD hS d_Md_know_7
def f_Md_know  (S : St) : Option St := f_Md_know_0   S
theorem c_Md_know (l : Launch) (D : va_G) (cA cP : ClassId) (ob : Nat → Nat) (ad : Nat → Nat → Nat)   (S : St) {res : St} (hf : f_Md_know  S = some res) : CTv l y_Md_know w_Md_know rm_Md_know 0 0 D clC (TY cA cP) [.ref (ob 0)] (mw cA cP ob ad S) (fun w => w = mw cA cP ob ad res) :=
  mk_v (cc := b_Md_know) (maxL := 4) (own := R_Md) (by decide) rfl rfl (Nat.le_of_ble_eq_true rfl) (fun p e s m below meth c A Q C0 hret ls hl hP hD hS => w_Md_know_0 C0 hret    S _ _ ls hP hD hS (lv_sub hl [0] rfl) hf)
def f_Md_triangle_32    (S : St) : Option (Int32 × St) :=
  bd (f_Md_fail 1 S) (fun q_1 => some (q_1.1, q_1.2))
set_option maxHeartbeats 4000000 in
set_option maxRecDepth 100000 in
theorem w_Md_triangle_32 (C0 : CX p s m args c b_Md_triangle 3 R_Md w_Md_triangle D clC cA cP A) {res : (Int32 × St)} (hret : RTi p l e rm_Md_triangle s m args below meth c Q D clC A b_Md_triangle 0 0 (fun r w => r = res.1 ∧ w = mw cA cP ob ad res.2))    : ∀  (S : St) (H : Heap) (locs : List Loc) (ls : Array Slot), va_P D clC (mw cA cP ob ad S) H → va_D A (mw cA cP ob ad S) → va_S A s.heap H locs → lv_has ls 3 [(0, .ref (ob 0))] → f_Md_triangle_32    S = some res → W p l e rm_Md_triangle s m args below meth c H locs 0 0 Q (F0 m 32 ls []) := by
  obtain ⟨hx, hb, hml, hown, hts, hK, hA, hN, hZ⟩ := id C0
  intro  S H locs ls hP hD hS hl hf
  rw [f_Md_triangle_32] at hf
  refine lv_aload_n hx hb d_Md_triangle_32 rfl (lv_at hl 0 rfl) ?_
  refine lv_iconst (v := 1) hx hb d_Md_triangle_33 (by decide) ?_
  obtain ⟨q_1, hq_1, hf⟩ := bd_some hf
  refine kc_i (va_runV (As := [.int 1]) (rest := []) ⟨hx, hb, hml, hown, hts⟩ (c_Md_fail l D cA cP ob ad 1  S hq_1 H.size) ⟨callB_of 1 hts (gd_Md_fail) rfl rfl rfl (hts _ (List.mem_cons_of_mem _ wd_72)) (hts _ (List.mem_cons_of_mem _ wd_917)) dd_Md_fail ⟨Nat.le_of_ble_eq_true rfl, Nat.le_of_ble_eq_true rfl⟩, (hts _ (List.mem_cons_of_mem _ wd_919)), (hts _ (List.mem_cons_of_mem _ wd_34))⟩ (kpV hK hP hD hN hZ hS 7 0 rfl rfl) rfl rfl hl.1 rfl (lv_room (Nat.le_of_ble_eq_true rfl)) d_Md_triangle_34 ⟨Nat.le_of_ble_eq_true rfl, Nat.le_of_ble_eq_true rfl⟩) hP hD hS hA (fun r w H locs hw hP hD hS => ?_)
  obtain ⟨rfl, rfl⟩ := hw
  cases hf
  exact hret _ _ _ _ _ _ ⟨rfl, rfl⟩ hP hD hS d_Md_triangle_37
def f_Md_triangle_0   (x1 : Int32) (x2 : Int32) (S : St) : Option (Int32 × St) :=
  bn (seti S 0 0) (fun S_1 => bd (f_Md_know  S_1) (fun q_2 => bd (f_Md_within x1 0 ((gi q_2 4) - 1) q_2) (fun q_3 => (if q_3.1 = 0 then
    f_Md_triangle_32    q_3.2
    else
    bd (f_Md_within x2 0 2 q_3.2) (fun q_5 => (if q_5.1 = 0 then
      f_Md_triangle_32    q_5.2
      else
      (if x2 = 0 then
        as_ (inb x1 (gn q_5.2 3)) (some ((ga q_5.2 3 (Int32.toNatClampNeg x1)), q_5.2))
        else
        (if x2 = 1 then
          as_ (inb x1 (gn q_5.2 4)) (some ((ga q_5.2 4 (Int32.toNatClampNeg x1)), q_5.2))
          else
          as_ (inb x1 (gn q_5.2 5)) (some ((ga q_5.2 5 (Int32.toNatClampNeg x1)), q_5.2))))))))))
set_option maxHeartbeats 4000000 in
set_option maxRecDepth 100000 in
theorem w_Md_triangle_0 (C0 : CX p s m args c b_Md_triangle 3 R_Md w_Md_triangle D clC cA cP A) {res : (Int32 × St)} (hret : RTi p l e rm_Md_triangle s m args below meth c Q D clC A b_Md_triangle 0 0 (fun r w => r = res.1 ∧ w = mw cA cP ob ad res.2))    : ∀ (x1 : Int32) (x2 : Int32) (S : St) (H : Heap) (locs : List Loc) (ls : Array Slot), va_P D clC (mw cA cP ob ad S) H → va_D A (mw cA cP ob ad S) → va_S A s.heap H locs → lv_has ls 3 [(0, .ref (ob 0)), (1, .int x1), (2, .int x2)] → f_Md_triangle_0   x1 x2 S = some res → W p l e rm_Md_triangle s m args below meth c H locs 0 0 Q (F0 m 0 ls []) := by
  obtain ⟨hx, hb, hml, hown, hts, hK, hA, hN, hZ⟩ := id C0
  intro x1 x2 S H locs ls hP hD hS hl hf
  rw [f_Md_triangle_0] at hf
  refine lv_aload_n hx hb d_Md_triangle_0 rfl (lv_at hl 0 rfl) ?_
  refine lv_iconst (v := 0) hx hb d_Md_triangle_1 (by decide) ?_
  obtain ⟨S_1, eS_1, hf⟩ := bn_some hf
  refine va_put (D := D) (ci := 7) (v := .int 0) (ty := .int) (C := R_Md) (T := F_Md) (N := 26) hx hb hts (fun w h => List.mem_cons_of_mem _ (in_Md w h)) t_Md tk_Md nk_Md hown hK hP hD hS 0 rfl rfl 0 (by decide) (hts _ (List.mem_cons_of_mem _ wd_822)) (fun _ h9 => h9) rfl (by decide +kernel) rfl rfl (Nat.le_of_ble_eq_true rfl) d_Md_triangle_2 (fun H locs hP hD hS => ?_)
  have hP : va_P D clC (mw cA cP ob ad S_1) H := by rw [eS_1]; exact hP
  have hD : va_D A (mw cA cP ob ad S_1) := by rw [eS_1]; exact hD
  refine lv_aload_n hx hb d_Md_triangle_5 rfl (lv_at hl 0 rfl) ?_
  obtain ⟨q_2, hq_2, hf⟩ := bd_some hf
  refine kc_v (va_runV (As := []) (rest := []) ⟨hx, hb, hml, hown, hts⟩ (c_Md_know l D cA cP ob ad   S_1 hq_2 H.size) ⟨callB_of 0 hts (gd_Md_know) rfl rfl rfl (hts _ (List.mem_cons_of_mem _ wd_72)) (hts _ (List.mem_cons_of_mem _ wd_941)) dd_Md_know ⟨Nat.le_of_ble_eq_true rfl, Nat.le_of_ble_eq_true rfl⟩, (hts _ (List.mem_cons_of_mem _ wd_943)), (hts _ (List.mem_cons_of_mem _ wd_37))⟩ (kpV hK hP hD hN hZ hS 7 0 rfl rfl) rfl rfl hl.1 rfl (lv_room (Nat.le_of_ble_eq_true rfl)) d_Md_triangle_6 ⟨Nat.le_of_ble_eq_true rfl, Nat.le_of_ble_eq_true rfl⟩) hP hD hS hA (fun w H locs hw hP hD hS => ?_)
  obtain rfl := hw
  refine lv_iload_n hx hb d_Md_triangle_9 rfl (lv_at hl 1 rfl) ?_
  refine lv_iconst (v := 0) hx hb d_Md_triangle_10 (by decide) ?_
  refine lv_aload_n hx hb d_Md_triangle_11 rfl (lv_at hl 0 rfl) ?_
  refine va_get (D := D) (ci := 7) (v := .int (gi q_2 4)) (C := R_Md) (T := F_Md) (N := 26) hx hb hts (fun w h => List.mem_cons_of_mem _ (in_Md w h)) hown hK hP 0 rfl rfl 6 (by decide) (hts _ (List.mem_cons_of_mem _ wd_828)) (fun _ h9 => h9) rfl d_Md_triangle_12 ?_
  refine lv_iconst (v := 1) hx hb d_Md_triangle_15 (by decide) ?_
  refine lv_isub hx hb d_Md_triangle_16 ?_
  obtain ⟨q_3, hq_3, hf⟩ := bd_some hf
  refine kc_i (va_runS (As := [.int x1, .int 0, .int ((gi q_2 4) - 1)]) (rest := []) ⟨hx, hb, hml, hown, hts⟩ (c_Md_within l D cA cP ob ad x1 0 ((gi q_2 4) - 1)  q_2 hq_3 H.size) ⟨callB_of 3 hts (gd_Md_within) rfl rfl rfl (hts _ (List.mem_cons_of_mem _ wd_72)) (hts _ (List.mem_cons_of_mem _ wd_914)) dd_Md_within ⟨Nat.le_of_ble_eq_true rfl, Nat.le_of_ble_eq_true rfl⟩, (hts _ (List.mem_cons_of_mem _ wd_915))⟩ (kpS hK hP hD hN hZ hS) rfl rfl hl.1 rfl (lv_room (Nat.le_of_ble_eq_true rfl)) d_Md_triangle_17 ⟨Nat.le_of_ble_eq_true rfl, Nat.le_of_ble_eq_true rfl⟩) hP hD hS hA (fun r w H locs hw hP hD hS => ?_)
  obtain ⟨rfl, rfl⟩ := hw
  refine lv_if_eq (tgt := 32) hx hb d_Md_triangle_20 (by decide) (fun c_4 => ?_) (fun c_4 => ?_)
  · rw [if_pos c_4] at hf
    exact w_Md_triangle_32 C0 hret     q_3.2 H locs ls hP hD hS (lv_sub hl [0] rfl) hf
  · rw [if_neg c_4] at hf
    refine lv_iload_n hx hb d_Md_triangle_23 rfl (lv_at hl 2 rfl) ?_
    refine lv_iconst (v := 0) hx hb d_Md_triangle_24 (by decide) ?_
    refine lv_iconst (v := 2) hx hb d_Md_triangle_25 (by decide) ?_
    obtain ⟨q_5, hq_5, hf⟩ := bd_some hf
    refine kc_i (va_runS (As := [.int x2, .int 0, .int 2]) (rest := []) ⟨hx, hb, hml, hown, hts⟩ (c_Md_within l D cA cP ob ad x2 0 2  q_3.2 hq_5 H.size) ⟨callB_of 3 hts (gd_Md_within) rfl rfl rfl (hts _ (List.mem_cons_of_mem _ wd_72)) (hts _ (List.mem_cons_of_mem _ wd_914)) dd_Md_within ⟨Nat.le_of_ble_eq_true rfl, Nat.le_of_ble_eq_true rfl⟩, (hts _ (List.mem_cons_of_mem _ wd_915))⟩ (kpS hK hP hD hN hZ hS) rfl rfl hl.1 rfl (lv_room (Nat.le_of_ble_eq_true rfl)) d_Md_triangle_26 ⟨Nat.le_of_ble_eq_true rfl, Nat.le_of_ble_eq_true rfl⟩) hP hD hS hA (fun r w H locs hw hP hD hS => ?_)
    obtain ⟨rfl, rfl⟩ := hw
    refine lv_if_ne (tgt := 38) hx hb d_Md_triangle_29 (by decide) (fun c_6 => ?_) (fun c_6 => ?_)
    · rw [if_neg c_6] at hf
      refine lv_iload_n hx hb d_Md_triangle_38 rfl (lv_at hl 2 rfl) ?_
      refine lv_if_ne (tgt := 51) hx hb d_Md_triangle_39 (by decide) (fun c_7 => ?_) (fun c_7 => ?_)
      · rw [if_neg c_7] at hf
        refine lv_iload_n hx hb d_Md_triangle_51 rfl (lv_at hl 2 rfl) ?_
        refine lv_iconst (v := 1) hx hb d_Md_triangle_52 (by decide) ?_
        refine lv_icmp_ne (tgt := 65) hx hb d_Md_triangle_53 (by decide) (fun c_8 => ?_) (fun c_8 => ?_)
        · rw [if_neg c_8] at hf
          refine lv_aload_n hx hb d_Md_triangle_65 rfl (lv_at hl 0 rfl) ?_
          refine va_get (D := D) (ci := 7) (v := .ref (ob 5)) (C := R_Md) (T := F_Md) (N := 26) hx hb hts (fun w h => List.mem_cons_of_mem _ (in_Md w h)) hown hK hP 0 rfl rfl 9 (by decide) (hts _ (List.mem_cons_of_mem _ wd_831)) (fun _ h9 => h9) rfl d_Md_triangle_66 ?_
          refine lv_iload_n hx hb d_Md_triangle_69 rfl (lv_at hl 1 rfl) ?_
          obtain ⟨hi_9, hf⟩ := as_some hf
          refine va_iald hx hb hK hP 5 0 rfl rfl (inb_in hi_9) d_Md_triangle_70 ?_
          cases hf
          exact hret _ _ _ _ _ _ ⟨rfl, rfl⟩ hP hD hS d_Md_triangle_71
        · rw [if_pos c_8] at hf
          refine lv_aload_n hx hb d_Md_triangle_56 rfl (lv_at hl 0 rfl) ?_
          refine va_get (D := D) (ci := 7) (v := .ref (ob 4)) (C := R_Md) (T := F_Md) (N := 26) hx hb hts (fun w h => List.mem_cons_of_mem _ (in_Md w h)) hown hK hP 0 rfl rfl 8 (by decide) (hts _ (List.mem_cons_of_mem _ wd_830)) (fun _ h9 => h9) rfl d_Md_triangle_57 ?_
          refine lv_iload_n hx hb d_Md_triangle_60 rfl (lv_at hl 1 rfl) ?_
          obtain ⟨hi_10, hf⟩ := as_some hf
          refine va_iald hx hb hK hP 4 0 rfl rfl (inb_in hi_10) d_Md_triangle_61 ?_
          refine lv_goto (tgt := 71) hx hb d_Md_triangle_62 (by decide) ?_
          cases hf
          exact hret _ _ _ _ _ _ ⟨rfl, rfl⟩ hP hD hS d_Md_triangle_71
      · rw [if_pos c_7] at hf
        refine lv_aload_n hx hb d_Md_triangle_42 rfl (lv_at hl 0 rfl) ?_
        refine va_get (D := D) (ci := 7) (v := .ref (ob 3)) (C := R_Md) (T := F_Md) (N := 26) hx hb hts (fun w h => List.mem_cons_of_mem _ (in_Md w h)) hown hK hP 0 rfl rfl 7 (by decide) (hts _ (List.mem_cons_of_mem _ wd_829)) (fun _ h9 => h9) rfl d_Md_triangle_43 ?_
        refine lv_iload_n hx hb d_Md_triangle_46 rfl (lv_at hl 1 rfl) ?_
        obtain ⟨hi_11, hf⟩ := as_some hf
        refine va_iald hx hb hK hP 3 0 rfl rfl (inb_in hi_11) d_Md_triangle_47 ?_
        refine lv_goto (tgt := 71) hx hb d_Md_triangle_48 (by decide) ?_
        cases hf
        exact hret _ _ _ _ _ _ ⟨rfl, rfl⟩ hP hD hS d_Md_triangle_71
    · rw [if_pos c_6] at hf
      exact w_Md_triangle_32 C0 hret     q_5.2 H locs ls hP hD hS (lv_sub hl [0] rfl) hf
def f_Md_triangle (x1 : Int32) (x2 : Int32) (S : St) : Option (Int32 × St) := f_Md_triangle_0  x1 x2 S
theorem c_Md_triangle (l : Launch) (D : va_G) (cA cP : ClassId) (ob : Nat → Nat) (ad : Nat → Nat → Nat) (x1 : Int32) (x2 : Int32)  (S : St) {res : (Int32 × St)} (hf : f_Md_triangle x1 x2 S = some res) : CTi l y_Md_triangle w_Md_triangle rm_Md_triangle 0 0 D clC (TY cA cP) [.ref (ob 0), .int x1, .int x2] (mw cA cP ob ad S) (fun r w => r = res.1 ∧ w = mw cA cP ob ad res.2) :=
  mk_i (cc := b_Md_triangle) (maxL := 3) (own := R_Md) (by decide) rfl rfl (Nat.le_of_ble_eq_true rfl) (fun p e s m below meth c A Q C0 hret ls hl hP hD hS => w_Md_triangle_0 C0 hret   x1 x2 S _ _ ls hP hD hS (lv_sub hl [0, 1, 2] rfl) hf)
end
