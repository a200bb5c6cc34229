section
variable {p : Program} {l : Launch} {e : Env} {s : State} {m : MethodId} {args : Array Value} {below : List Frame} {meth : Method} {c : Code} {Q : State → Prop} {D : va_G} {cA cP : ClassId} {ob : Nat → Nat} {ad : Nat → Nat → Nat} {A : Nat → Prop}
def f_Wd_reset_0    (S : St) : Option St :=
  bn (setl S 1 0) (fun S_1 => bn (setl S_1 2 0) (fun S_2 => some S_2))
set_option maxHeartbeats 4000000 in
set_option maxRecDepth 100000 in
theorem w_Wd_reset_0 (C0 : CX p s m args c b_Wd_reset 1 R_Wd w_Wd_reset D clC cA cP A) {res : St} (hret : RTv p l e rm_Wd_reset s m args below meth c Q D clC A b_Wd_reset 0 0 (fun w => w = cw cA cP ob ad res))    : ∀  (S : St) (H : Heap) (locs : List Loc) (ls : Array Slot), va_P D clC (cw cA cP ob ad S) H → va_D A (cw cA cP ob ad S) → va_S A s.heap H locs → lv_has ls 1 [(0, .ref (ob 2))] → f_Wd_reset_0    S = some res → W p l e rm_Wd_reset s m args below meth c H locs 0 0 Q (F0 m 0 ls []) := by
  obtain ⟨hx, hb, hml, hown, hts, hK, hA, hN, hZ⟩ := id C0
  intro  S H locs ls hP hD hS hl hf
  rw [f_Wd_reset_0] at hf
  refine lv_aload_n hx hb d_Wd_reset_0 rfl (lv_at hl 0 rfl) ?_
  refine lv_lconst (v := 0) hx hb d_Wd_reset_1 (by decide) ?_
  obtain ⟨S_1, eS_1, hf⟩ := bn_some hf
  refine va_put (D := D) (ci := 2) (v := .long 0) (ty := .long) (C := R_Wd) (T := F_Wd) (N := 2) hx hb hts (fun w h => List.mem_cons_of_mem _ (in_Wd w h)) t_Wd tk_Wd nk_Wd hown hK hP hD hS 2 rfl rfl 0 (by decide) (hts _ (List.mem_cons_of_mem _ wd_121)) (fun _ h9 => h9) rfl (by decide +kernel) rfl rfl (Nat.le_of_ble_eq_true rfl) d_Wd_reset_2 (fun H locs hP hD hS => ?_)
  have hP : va_P D clC (cw cA cP ob ad S_1) H := by rw [eS_1]; exact hP
  have hD : va_D A (cw cA cP ob ad S_1) := by rw [eS_1]; exact hD
  refine lv_aload_n hx hb d_Wd_reset_5 rfl (lv_at hl 0 rfl) ?_
  refine lv_lconst (v := 0) hx hb d_Wd_reset_6 (by decide) ?_
  obtain ⟨S_2, eS_2, hf⟩ := bn_some hf
  refine va_put (D := D) (ci := 2) (v := .long 0) (ty := .long) (C := R_Wd) (T := F_Wd) (N := 2) hx hb hts (fun w h => List.mem_cons_of_mem _ (in_Wd w h)) t_Wd tk_Wd nk_Wd hown hK hP hD hS 2 rfl rfl 1 (by decide) (hts _ (List.mem_cons_of_mem _ wd_122)) (fun _ h9 => h9) rfl (by decide +kernel) rfl rfl (Nat.le_of_ble_eq_true rfl) d_Wd_reset_7 (fun H locs hP hD hS => ?_)
  have hP : va_P D clC (cw cA cP ob ad S_2) H := by rw [eS_2]; exact hP
  have hD : va_D A (cw cA cP ob ad S_2) := by rw [eS_2]; exact hD
  cases hf
  exact hret _ _ _ _ _ rfl hP hD hS d_Wd_reset_10
def f_Wd_reset  (S : St) : Option St := f_Wd_reset_0   S
theorem c_Wd_reset (l : Launch) (D : va_G) (cA cP : ClassId) (ob : Nat → Nat) (ad : Nat → Nat → Nat)   (S : St) {res : St} (hf : f_Wd_reset  S = some res) : CTv l y_Wd_reset w_Wd_reset rm_Wd_reset 0 0 D clC (TY cA cP) [.ref (ob 2)] (cw cA cP ob ad S) (fun w => w = cw cA cP ob ad res) :=
  mk_v (cc := b_Wd_reset) (maxL := 1) (own := R_Wd) (by decide) rfl rfl (Nat.le_of_ble_eq_true rfl) (fun p e s m below meth c A Q C0 hret ls hl hP hD hS => w_Wd_reset_0 C0 hret    S _ _ ls hP hD hS (lv_sub hl [0] rfl) hf)
def f_Wd_addProduct_0   (x1 : Int64) (x3 : Int64) (S : St) : Option St :=
  bn (x1 >>> (Int32.toInt64 32 &&& 63)) (fun x5_1 => bn (x1 &&& 4294967295) (fun x7_2 => bn (x3 >>> (Int32.toInt64 32 &&& 63)) (fun x9_3 => bn (x3 &&& 4294967295) (fun x11_4 => bn ((x5_1 * x11_4) + (UInt64.toInt64 (Int64.toUInt64 (x7_2 * x11_4) >>> (Int64.toUInt64 (Int32.toInt64 32) &&& Int64.toUInt64 63)))) (fun x13_5 => bn ((x7_2 * x9_3) + (x13_5 &&& 4294967295)) (fun x15_6 => bn (((x5_1 * x9_3) + (x13_5 >>> (Int32.toInt64 32 &&& 63))) + (x15_6 >>> (Int32.toInt64 32 &&& 63))) (fun x17_7 => bn (x1 * x3) (fun x19_8 => bn ((gl S 2) + x19_8) (fun x21_9 => bn (UInt64.toInt64 (Int64.toUInt64 (((gl S 2) &&& x19_8) ||| (((gl S 2) ||| x19_8) &&& (x21_9 ^^^ (-1)))) >>> (Int64.toUInt64 (Int32.toInt64 63) &&& Int64.toUInt64 63))) (fun x23_10 => bn (setl S 2 x21_9) (fun S_11 => bn (setl S_11 1 (((gl S_11 1) + x17_7) + x23_10)) (fun S_12 => some S_12))))))))))))
set_option maxHeartbeats 4000000 in
set_option maxRecDepth 100000 in
theorem w_Wd_addProduct_0 (C0 : CX p s m args c b_Wd_addProduct 25 R_Wd w_Wd_addProduct D clC cA cP A) {res : St} (hret : RTv p l e rm_Wd_addProduct s m args below meth c Q D clC A b_Wd_addProduct 0 0 (fun w => w = cw cA cP ob ad res))    : ∀ (x1 : Int64) (x3 : Int64) (S : St) (H : Heap) (locs : List Loc) (ls : Array Slot), va_P D clC (cw cA cP ob ad S) H → va_D A (cw cA cP ob ad S) → va_S A s.heap H locs → lv_has ls 25 [(0, .ref (ob 2)), (1, .long x1), (3, .long x3)] → f_Wd_addProduct_0   x1 x3 S = some res → W p l e rm_Wd_addProduct s m args below meth c H locs 0 0 Q (F0 m 0 ls []) := by
  obtain ⟨hx, hb, hml, hown, hts, hK, hA, hN, hZ⟩ := id C0
  intro x1 x3 S H locs ls hP hD hS hl hf
  rw [f_Wd_addProduct_0] at hf
  refine lv_lload_n hx hb d_Wd_addProduct_0 rfl (lv_at hl 1 rfl) ?_
  refine lv_bipush (v := 32) hx hb d_Wd_addProduct_1 (by decide) ?_
  refine lv_lshr (v := (x1 >>> (Int32.toInt64 32 &&& 63))) hx hb d_Wd_addProduct_3 rfl ?_
  obtain ⟨x5_1, ex5_1, hf⟩ := bn_some hf
  refine tpl ex5_1 ?_
  refine lv_lstore (lv' := [(5, .long x5_1), (0, .ref (ob 2)), (1, .long x1), (3, .long x3)]) hx hb d_Wd_addProduct_4 hl (by decide) rfl (fun ls hl => ?_)
  refine lv_lload_n hx hb d_Wd_addProduct_6 rfl (lv_at hl 2 rfl) ?_
  refine lv_ldc2 (v := 4294967295) hx hb hown (hts _ (List.mem_cons_of_mem _ wd_641)) d_Wd_addProduct_7 ?_
  refine lv_land hx hb d_Wd_addProduct_10 ?_
  obtain ⟨x7_2, ex7_2, hf⟩ := bn_some hf
  refine tpl ex7_2 ?_
  refine lv_lstore (lv' := [(7, .long x7_2), (5, .long x5_1), (0, .ref (ob 2)), (1, .long x1), (3, .long x3)]) hx hb d_Wd_addProduct_11 hl (by decide) rfl (fun ls hl => ?_)
  refine lv_lload_n hx hb d_Wd_addProduct_13 rfl (lv_at hl 4 rfl) ?_
  refine lv_bipush (v := 32) hx hb d_Wd_addProduct_14 (by decide) ?_
  refine lv_lshr (v := (x3 >>> (Int32.toInt64 32 &&& 63))) hx hb d_Wd_addProduct_16 rfl ?_
  obtain ⟨x9_3, ex9_3, hf⟩ := bn_some hf
  refine tpl ex9_3 ?_
  refine lv_lstore (lv' := [(9, .long x9_3), (7, .long x7_2), (5, .long x5_1), (0, .ref (ob 2)), (1, .long x1), (3, .long x3)]) hx hb d_Wd_addProduct_17 hl (by decide) rfl (fun ls hl => ?_)
  refine lv_lload_n hx hb d_Wd_addProduct_19 rfl (lv_at hl 5 rfl) ?_
  refine lv_ldc2 (v := 4294967295) hx hb hown (hts _ (List.mem_cons_of_mem _ wd_641)) d_Wd_addProduct_20 ?_
  refine lv_land hx hb d_Wd_addProduct_23 ?_
  obtain ⟨x11_4, ex11_4, hf⟩ := bn_some hf
  refine tpl ex11_4 ?_
  refine lv_lstore (lv' := [(11, .long x11_4), (9, .long x9_3), (7, .long x7_2), (5, .long x5_1), (0, .ref (ob 2)), (1, .long x1), (3, .long x3)]) hx hb d_Wd_addProduct_24 hl (by decide) rfl (fun ls hl => ?_)
  refine lv_lload hx hb d_Wd_addProduct_26 (lv_at hl 3 rfl) ?_
  refine lv_lload hx hb d_Wd_addProduct_28 (lv_at hl 0 rfl) ?_
  refine lv_lmul hx hb d_Wd_addProduct_30 ?_
  refine lv_lload hx hb d_Wd_addProduct_31 (lv_at hl 2 rfl) ?_
  refine lv_lload hx hb d_Wd_addProduct_33 (lv_at hl 0 rfl) ?_
  refine lv_lmul hx hb d_Wd_addProduct_35 ?_
  refine lv_bipush (v := 32) hx hb d_Wd_addProduct_36 (by decide) ?_
  refine lv_lushr (v := (UInt64.toInt64 (Int64.toUInt64 (x7_2 * x11_4) >>> (Int64.toUInt64 (Int32.toInt64 32) &&& Int64.toUInt64 63)))) hx hb d_Wd_addProduct_38 rfl ?_
  refine lv_ladd hx hb d_Wd_addProduct_39 ?_
  obtain ⟨x13_5, ex13_5, hf⟩ := bn_some hf
  refine tpl ex13_5 ?_
  refine lv_lstore (lv' := [(13, .long x13_5), (11, .long x11_4), (9, .long x9_3), (7, .long x7_2), (5, .long x5_1), (0, .ref (ob 2)), (1, .long x1), (3, .long x3)]) hx hb d_Wd_addProduct_40 hl (by decide) rfl (fun ls hl => ?_)
  refine lv_lload hx hb d_Wd_addProduct_42 (lv_at hl 3 rfl) ?_
  refine lv_lload hx hb d_Wd_addProduct_44 (lv_at hl 2 rfl) ?_
  refine lv_lmul hx hb d_Wd_addProduct_46 ?_
  refine lv_lload hx hb d_Wd_addProduct_47 (lv_at hl 0 rfl) ?_
  refine lv_ldc2 (v := 4294967295) hx hb hown (hts _ (List.mem_cons_of_mem _ wd_641)) d_Wd_addProduct_49 ?_
  refine lv_land hx hb d_Wd_addProduct_52 ?_
  refine lv_ladd hx hb d_Wd_addProduct_53 ?_
  obtain ⟨x15_6, ex15_6, hf⟩ := bn_some hf
  refine tpl ex15_6 ?_
  refine lv_lstore (lv' := [(15, .long x15_6), (13, .long x13_5), (11, .long x11_4), (9, .long x9_3), (7, .long x7_2), (5, .long x5_1), (0, .ref (ob 2)), (1, .long x1), (3, .long x3)]) hx hb d_Wd_addProduct_54 hl (by decide) rfl (fun ls hl => ?_)
  refine lv_lload hx hb d_Wd_addProduct_56 (lv_at hl 5 rfl) ?_
  refine lv_lload hx hb d_Wd_addProduct_58 (lv_at hl 3 rfl) ?_
  refine lv_lmul hx hb d_Wd_addProduct_60 ?_
  refine lv_lload hx hb d_Wd_addProduct_61 (lv_at hl 1 rfl) ?_
  refine lv_bipush (v := 32) hx hb d_Wd_addProduct_63 (by decide) ?_
  refine lv_lshr (v := (x13_5 >>> (Int32.toInt64 32 &&& 63))) hx hb d_Wd_addProduct_65 rfl ?_
  refine lv_ladd hx hb d_Wd_addProduct_66 ?_
  refine lv_lload hx hb d_Wd_addProduct_67 (lv_at hl 0 rfl) ?_
  refine lv_bipush (v := 32) hx hb d_Wd_addProduct_69 (by decide) ?_
  refine lv_lshr (v := (x15_6 >>> (Int32.toInt64 32 &&& 63))) hx hb d_Wd_addProduct_71 rfl ?_
  refine lv_ladd hx hb d_Wd_addProduct_72 ?_
  obtain ⟨x17_7, ex17_7, hf⟩ := bn_some hf
  refine tpl ex17_7 ?_
  refine lv_lstore (lv' := [(17, .long x17_7), (15, .long x15_6), (13, .long x13_5), (11, .long x11_4), (9, .long x9_3), (7, .long x7_2), (5, .long x5_1), (0, .ref (ob 2)), (1, .long x1), (3, .long x3)]) hx hb d_Wd_addProduct_73 hl (by decide) rfl (fun ls hl => ?_)
  refine lv_lload_n hx hb d_Wd_addProduct_75 rfl (lv_at hl 8 rfl) ?_
  refine lv_lload_n hx hb d_Wd_addProduct_76 rfl (lv_at hl 9 rfl) ?_
  refine lv_lmul hx hb d_Wd_addProduct_77 ?_
  obtain ⟨x19_8, ex19_8, hf⟩ := bn_some hf
  refine tpl ex19_8 ?_
  refine lv_lstore (lv' := [(19, .long x19_8), (17, .long x17_7), (15, .long x15_6), (13, .long x13_5), (11, .long x11_4), (9, .long x9_3), (7, .long x7_2), (5, .long x5_1), (0, .ref (ob 2)), (1, .long x1), (3, .long x3)]) hx hb d_Wd_addProduct_78 hl (by decide) rfl (fun ls hl => ?_)
  refine lv_aload_n hx hb d_Wd_addProduct_80 rfl (lv_at hl 8 rfl) ?_
  refine va_get (D := D) (ci := 2) (v := .long (gl S 2)) (C := R_Wd) (T := F_Wd) (N := 2) hx hb hts (fun w h => List.mem_cons_of_mem _ (in_Wd w h)) hown hK hP 2 rfl rfl 1 (by decide) (hts _ (List.mem_cons_of_mem _ wd_122)) (fun _ h9 => h9) rfl d_Wd_addProduct_81 ?_
  refine lv_lload hx hb d_Wd_addProduct_84 (lv_at hl 0 rfl) ?_
  refine lv_ladd hx hb d_Wd_addProduct_86 ?_
  obtain ⟨x21_9, ex21_9, hf⟩ := bn_some hf
  refine tpl ex21_9 ?_
  refine lv_lstore (lv' := [(21, .long x21_9), (19, .long x19_8), (17, .long x17_7), (15, .long x15_6), (13, .long x13_5), (11, .long x11_4), (9, .long x9_3), (7, .long x7_2), (5, .long x5_1), (0, .ref (ob 2)), (1, .long x1), (3, .long x3)]) hx hb d_Wd_addProduct_87 hl (by decide) rfl (fun ls hl => ?_)
  refine lv_aload_n hx hb d_Wd_addProduct_89 rfl (lv_at hl 9 rfl) ?_
  refine va_get (D := D) (ci := 2) (v := .long (gl S 2)) (C := R_Wd) (T := F_Wd) (N := 2) hx hb hts (fun w h => List.mem_cons_of_mem _ (in_Wd w h)) hown hK hP 2 rfl rfl 1 (by decide) (hts _ (List.mem_cons_of_mem _ wd_122)) (fun _ h9 => h9) rfl d_Wd_addProduct_90 ?_
  refine lv_lload hx hb d_Wd_addProduct_93 (lv_at hl 1 rfl) ?_
  refine lv_land hx hb d_Wd_addProduct_95 ?_
  refine lv_aload_n hx hb d_Wd_addProduct_96 rfl (lv_at hl 9 rfl) ?_
  refine va_get (D := D) (ci := 2) (v := .long (gl S 2)) (C := R_Wd) (T := F_Wd) (N := 2) hx hb hts (fun w h => List.mem_cons_of_mem _ (in_Wd w h)) hown hK hP 2 rfl rfl 1 (by decide) (hts _ (List.mem_cons_of_mem _ wd_122)) (fun _ h9 => h9) rfl d_Wd_addProduct_97 ?_
  refine lv_lload hx hb d_Wd_addProduct_100 (lv_at hl 1 rfl) ?_
  refine lv_lor hx hb d_Wd_addProduct_102 ?_
  refine lv_lload hx hb d_Wd_addProduct_103 (lv_at hl 0 rfl) ?_
  refine lv_ldc2 (v := (-1)) hx hb hown (hts _ (List.mem_cons_of_mem _ wd_642)) d_Wd_addProduct_105 ?_
  refine lv_lxor hx hb d_Wd_addProduct_108 ?_
  refine lv_land hx hb d_Wd_addProduct_109 ?_
  refine lv_lor hx hb d_Wd_addProduct_110 ?_
  refine lv_bipush (v := 63) hx hb d_Wd_addProduct_111 (by decide) ?_
  refine lv_lushr (v := (UInt64.toInt64 (Int64.toUInt64 (((gl S 2) &&& x19_8) ||| (((gl S 2) ||| x19_8) &&& (x21_9 ^^^ (-1)))) >>> (Int64.toUInt64 (Int32.toInt64 63) &&& Int64.toUInt64 63)))) hx hb d_Wd_addProduct_113 rfl ?_
  obtain ⟨x23_10, ex23_10, hf⟩ := bn_some hf
  refine tpl ex23_10 ?_
  refine lv_lstore (lv' := [(23, .long x23_10), (21, .long x21_9), (19, .long x19_8), (17, .long x17_7), (15, .long x15_6), (13, .long x13_5), (11, .long x11_4), (9, .long x9_3), (7, .long x7_2), (5, .long x5_1), (0, .ref (ob 2)), (1, .long x1), (3, .long x3)]) hx hb d_Wd_addProduct_114 hl (by decide) rfl (fun ls hl => ?_)
  refine lv_aload_n hx hb d_Wd_addProduct_116 rfl (lv_at hl 10 rfl) ?_
  refine lv_lload hx hb d_Wd_addProduct_117 (lv_at hl 1 rfl) ?_
  obtain ⟨S_11, eS_11, hf⟩ := bn_some hf
  refine va_put (D := D) (ci := 2) (v := .long x21_9) (ty := .long) (C := R_Wd) (T := F_Wd) (N := 2) hx hb hts (fun w h => List.mem_cons_of_mem _ (in_Wd w h)) t_Wd tk_Wd nk_Wd hown hK hP hD hS 2 rfl rfl 1 (by decide) (hts _ (List.mem_cons_of_mem _ wd_122)) (fun _ h9 => h9) rfl (by decide +kernel) rfl rfl (Nat.le_of_ble_eq_true rfl) d_Wd_addProduct_119 (fun H locs hP hD hS => ?_)
  have hP : va_P D clC (cw cA cP ob ad S_11) H := by rw [eS_11]; exact hP
  have hD : va_D A (cw cA cP ob ad S_11) := by rw [eS_11]; exact hD
  refine lv_aload_n hx hb d_Wd_addProduct_122 rfl (lv_at hl 10 rfl) ?_
  refine lv_aload_n hx hb d_Wd_addProduct_123 rfl (lv_at hl 10 rfl) ?_
  refine va_get (D := D) (ci := 2) (v := .long (gl S_11 1)) (C := R_Wd) (T := F_Wd) (N := 2) hx hb hts (fun w h => List.mem_cons_of_mem _ (in_Wd w h)) hown hK hP 2 rfl rfl 0 (by decide) (hts _ (List.mem_cons_of_mem _ wd_121)) (fun _ h9 => h9) rfl d_Wd_addProduct_124 ?_
  refine lv_lload hx hb d_Wd_addProduct_127 (lv_at hl 3 rfl) ?_
  refine lv_ladd hx hb d_Wd_addProduct_129 ?_
  refine lv_lload hx hb d_Wd_addProduct_130 (lv_at hl 0 rfl) ?_
  refine lv_ladd hx hb d_Wd_addProduct_132 ?_
  obtain ⟨S_12, eS_12, hf⟩ := bn_some hf
  refine va_put (D := D) (ci := 2) (v := .long (((gl S_11 1) + x17_7) + x23_10)) (ty := .long) (C := R_Wd) (T := F_Wd) (N := 2) hx hb hts (fun w h => List.mem_cons_of_mem _ (in_Wd w h)) t_Wd tk_Wd nk_Wd hown hK hP hD hS 2 rfl rfl 0 (by decide) (hts _ (List.mem_cons_of_mem _ wd_121)) (fun _ h9 => h9) rfl (by decide +kernel) rfl rfl (Nat.le_of_ble_eq_true rfl) d_Wd_addProduct_133 (fun H locs hP hD hS => ?_)
  have hP : va_P D clC (cw cA cP ob ad S_12) H := by rw [eS_12]; exact hP
  have hD : va_D A (cw cA cP ob ad S_12) := by rw [eS_12]; exact hD
  cases hf
  exact hret _ _ _ _ _ rfl hP hD hS d_Wd_addProduct_136
def f_Wd_addProduct (x1 : Int64) (x3 : Int64) (S : St) : Option St := f_Wd_addProduct_0  x1 x3 S
theorem c_Wd_addProduct (l : Launch) (D : va_G) (cA cP : ClassId) (ob : Nat → Nat) (ad : Nat → Nat → Nat) (x1 : Int64) (x3 : Int64)  (S : St) {res : St} (hf : f_Wd_addProduct x1 x3 S = some res) : CTv l y_Wd_addProduct w_Wd_addProduct rm_Wd_addProduct 0 0 D clC (TY cA cP) [.ref (ob 2), .long x1, .long x3] (cw cA cP ob ad S) (fun w => w = cw cA cP ob ad res) :=
  mk_v (cc := b_Wd_addProduct) (maxL := 25) (own := R_Wd) (by decide) rfl rfl (Nat.le_of_ble_eq_true rfl) (fun p e s m below meth c A Q C0 hret ls hl hP hD hS => w_Wd_addProduct_0 C0 hret   x1 x3 S _ _ ls hP hD hS (lv_sub hl [0, 1, 2] rfl) hf)
def f_Wd_sign_0    (S : St) : Option (Int32 × St) :=
  (if 0 ≤ (lg_cmp (gl S 1) 0) then
    (if (lg_cmp (gl S 1) 0) = 0 then
      (if (lg_cmp (gl S 2) 0) = 0 then
        some (0, S)
        else
        some (1, S))
      else
      some (1, S))
    else
    some ((-1), S))
set_option maxHeartbeats 4000000 in
set_option maxRecDepth 100000 in
theorem w_Wd_sign_0 (C0 : CX p s m args c b_Wd_sign 1 R_Wd w_Wd_sign D clC cA cP A) {res : (Int32 × St)} (hret : RTi p l e rm_Wd_sign s m args below meth c Q D clC A b_Wd_sign 0 0 (fun r w => r = res.1 ∧ w = cw cA cP ob ad res.2))    : ∀  (S : St) (H : Heap) (locs : List Loc) (ls : Array Slot), va_P D clC (cw cA cP ob ad S) H → va_D A (cw cA cP ob ad S) → va_S A s.heap H locs → lv_has ls 1 [(0, .ref (ob 2))] → f_Wd_sign_0    S = some res → W p l e rm_Wd_sign s m args below meth c H locs 0 0 Q (F0 m 0 ls []) := by
  obtain ⟨hx, hb, hml, hown, hts, hK, hA, hN, hZ⟩ := id C0
  intro  S H locs ls hP hD hS hl hf
  rw [f_Wd_sign_0] at hf
  refine lv_aload_n hx hb d_Wd_sign_0 rfl (lv_at hl 0 rfl) ?_
  refine va_get (D := D) (ci := 2) (v := .long (gl S 1)) (C := R_Wd) (T := F_Wd) (N := 2) hx hb hts (fun w h => List.mem_cons_of_mem _ (in_Wd w h)) hown hK hP 2 rfl rfl 0 (by decide) (hts _ (List.mem_cons_of_mem _ wd_121)) (fun _ h9 => h9) rfl d_Wd_sign_1 ?_
  refine lv_lconst (v := 0) hx hb d_Wd_sign_4 (by decide) ?_
  refine W.lcmp hx hb d_Wd_sign_5 ?_
  refine lv_if_ge (tgt := 11) hx hb d_Wd_sign_6 (by decide) (fun c_1 => ?_) (fun c_1 => ?_)
  · rw [if_pos c_1] at hf
    refine lv_aload_n hx hb d_Wd_sign_11 rfl (lv_at hl 0 rfl) ?_
    refine va_get (D := D) (ci := 2) (v := .long (gl S 1)) (C := R_Wd) (T := F_Wd) (N := 2) hx hb hts (fun w h => List.mem_cons_of_mem _ (in_Wd w h)) hown hK hP 2 rfl rfl 0 (by decide) (hts _ (List.mem_cons_of_mem _ wd_121)) (fun _ h9 => h9) rfl d_Wd_sign_12 ?_
    refine lv_lconst (v := 0) hx hb d_Wd_sign_15 (by decide) ?_
    refine W.lcmp hx hb d_Wd_sign_16 ?_
    refine lv_if_ne (tgt := 33) hx hb d_Wd_sign_17 (by decide) (fun c_2 => ?_) (fun c_2 => ?_)
    · rw [if_neg c_2] at hf
      refine lv_iconst (v := 1) hx hb d_Wd_sign_33 (by decide) ?_
      cases hf
      exact hret _ _ _ _ _ _ ⟨rfl, rfl⟩ hP hD hS d_Wd_sign_34
    · rw [if_pos c_2] at hf
      refine lv_aload_n hx hb d_Wd_sign_20 rfl (lv_at hl 0 rfl) ?_
      refine va_get (D := D) (ci := 2) (v := .long (gl S 2)) (C := R_Wd) (T := F_Wd) (N := 2) hx hb hts (fun w h => List.mem_cons_of_mem _ (in_Wd w h)) hown hK hP 2 rfl rfl 1 (by decide) (hts _ (List.mem_cons_of_mem _ wd_122)) (fun _ h9 => h9) rfl d_Wd_sign_21 ?_
      refine lv_lconst (v := 0) hx hb d_Wd_sign_24 (by decide) ?_
      refine W.lcmp hx hb d_Wd_sign_25 ?_
      refine lv_if_ne (tgt := 33) hx hb d_Wd_sign_26 (by decide) (fun c_3 => ?_) (fun c_3 => ?_)
      · rw [if_neg c_3] at hf
        refine lv_iconst (v := 1) hx hb d_Wd_sign_33 (by decide) ?_
        cases hf
        exact hret _ _ _ _ _ _ ⟨rfl, rfl⟩ hP hD hS d_Wd_sign_34
      · rw [if_pos c_3] at hf
        refine lv_iconst (v := 0) hx hb d_Wd_sign_29 (by decide) ?_
        refine lv_goto (tgt := 34) hx hb d_Wd_sign_30 (by decide) ?_
        cases hf
        exact hret _ _ _ _ _ _ ⟨rfl, rfl⟩ hP hD hS d_Wd_sign_34
  · rw [if_neg c_1] at hf
    refine lv_iconst (v := (-1)) hx hb d_Wd_sign_9 (by decide) ?_
    cases hf
    exact hret _ _ _ _ _ _ ⟨rfl, rfl⟩ hP hD hS d_Wd_sign_10
def f_Wd_sign  (S : St) : Option (Int32 × St) := f_Wd_sign_0   S
theorem c_Wd_sign (l : Launch) (D : va_G) (cA cP : ClassId) (ob : Nat → Nat) (ad : Nat → Nat → Nat)   (S : St) {res : (Int32 × St)} (hf : f_Wd_sign  S = some res) : CTi l y_Wd_sign w_Wd_sign rm_Wd_sign 0 0 D clC (TY cA cP) [.ref (ob 2)] (cw cA cP ob ad S) (fun r w => r = res.1 ∧ w = cw cA cP ob ad res.2) :=
  mk_i (cc := b_Wd_sign) (maxL := 1) (own := R_Wd) (by decide) rfl rfl (Nat.le_of_ble_eq_true rfl) (fun p e s m below meth c A Q C0 hret ls hl hP hD hS => w_Wd_sign_0 C0 hret    S _ _ ls hP hD hS (lv_sub hl [0] rfl) hf)
def f_Ar_fill_5 (k0 : Nat)  : Nat → Int32 → Int32 → Int32 → St → Option St
  | 0 => fun _ _ _ _ => none
  | n + 1 => fun x1 x2 x3 S => (if x3 ≤ x2 then
      some S
      else
      as_ (inb x2 (gn S k0)) (bn (seta S k0 (upd (ga S k0) (Int32.toNatClampNeg x2) x1)) (fun S_3 => bn (x2 + 1) (fun x2_4 => f_Ar_fill_5 k0 n x1 x2_4 x3 S_3))))
set_option maxHeartbeats 4000000 in
set_option maxRecDepth 100000 in
theorem w_Ar_fill_5 (C0 : CX p s m args c b_Ar_fill 4 R_Ar w_Ar_fill D clC cA cP A) {res : St} (hret : RTv p l e rm_Ar_fill s m args below meth c Q D clC A b_Ar_fill 0 0 (fun w => w = cw cA cP ob ad res)) (k0 : Nat) (hk0 : isArrc k0)  : ∀ (n : Nat) (x1 : Int32) (x2 : Int32) (x3 : Int32) (S : St) (H : Heap) (locs : List Loc) (ls : Array Slot), va_P D clC (cw cA cP ob ad S) H → va_D A (cw cA cP ob ad S) → va_S A s.heap H locs → lv_has ls 4 [(0, .ref (ob k0)), (1, .int x1), (2, .int x2), (3, .int x3)] → f_Ar_fill_5 k0  n x1 x2 x3 S = some res → W p l e rm_Ar_fill s m args below meth c H locs 0 0 Q (F0 m 5 ls []) := by
  obtain ⟨hx, hb, hml, hown, hts, hK, hA, hN, hZ⟩ := id C0
  intro n
  induction n with
  | zero =>
    intro x1 x2 x3 S H locs ls hP hD hS hl hf
    cases hf
  | succ n ih =>
    intro x1 x2 x3 S H locs ls hP hD hS hl hf
    rw [f_Ar_fill_5] at hf
    try dsimp only at hf
    refine lv_iload_n hx hb d_Ar_fill_5 rfl (lv_at hl 2 rfl) ?_
    refine lv_iload_n hx hb d_Ar_fill_6 rfl (lv_at hl 3 rfl) ?_
    refine lv_icmp_ge (tgt := 20) hx hb d_Ar_fill_7 (by decide) (fun c_1 => ?_) (fun c_1 => ?_)
    · rw [if_pos c_1] at hf
      cases hf
      exact hret _ _ _ _ _ rfl hP hD hS d_Ar_fill_20
    · rw [if_neg c_1] at hf
      refine lv_aload_n hx hb d_Ar_fill_10 rfl (lv_at hl 0 rfl) ?_
      refine lv_iload_n hx hb d_Ar_fill_11 rfl (lv_at hl 2 rfl) ?_
      refine lv_iload_n hx hb d_Ar_fill_12 rfl (lv_at hl 1 rfl) ?_
      obtain ⟨hi_2, hf⟩ := as_some hf
      obtain ⟨S_3, eS_3, hf⟩ := bn_some hf
      refine va_iast hx hb hK hP hD hS k0 0 (cw_arr S hk0) rfl (inb_in hi_2) d_Ar_fill_13 (fun H locs hP hD hS => ?_)
      have hP : va_P D clC (cw cA cP ob ad S_3) H := by rw [eS_3, ← cw_set _ _ hk0]; exact hP
      have hD : va_D A (cw cA cP ob ad S_3) := by rw [eS_3, ← cw_set _ _ hk0]; exact hD
      obtain ⟨x2_4, ex2_4, hf⟩ := bn_some hf
      refine lv_iinc (v := x2_4) (lv' := [(2, .int x2_4), (0, .ref (ob k0)), (1, .int x1), (3, .int x3)]) hx hb d_Ar_fill_14 hl (k := 2) rfl (by rw [ex2_4]; rfl) (by decide) rfl (fun ls hl => ?_)
      refine lv_goto (tgt := 5) hx hb d_Ar_fill_17 (by decide) ?_
      exact ih x1 x2_4 x3 S_3 H locs ls hP hD hS (lv_sub hl [1, 2, 0, 3] rfl) hf
def f_Ar_fill_0 (k0 : Nat)  (x1 : Int32) (S : St) : Option St :=
  bn (nI (gn S k0)) (fun x3_1 => f_Ar_fill_5 k0  FU x1 0 x3_1 S)
set_option maxHeartbeats 4000000 in
set_option maxRecDepth 100000 in
theorem w_Ar_fill_0 (C0 : CX p s m args c b_Ar_fill 4 R_Ar w_Ar_fill D clC cA cP A) {res : St} (hret : RTv p l e rm_Ar_fill s m args below meth c Q D clC A b_Ar_fill 0 0 (fun w => w = cw cA cP ob ad res)) (k0 : Nat) (hk0 : isArrc k0)  : ∀ (x1 : Int32) (S : St) (H : Heap) (locs : List Loc) (ls : Array Slot), va_P D clC (cw cA cP ob ad S) H → va_D A (cw cA cP ob ad S) → va_S A s.heap H locs → lv_has ls 4 [(0, .ref (ob k0)), (1, .int x1)] → f_Ar_fill_0 k0  x1 S = some res → W p l e rm_Ar_fill s m args below meth c H locs 0 0 Q (F0 m 0 ls []) := by
  obtain ⟨hx, hb, hml, hown, hts, hK, hA, hN, hZ⟩ := id C0
  intro x1 S H locs ls hP hD hS hl hf
  rw [f_Ar_fill_0] at hf
  refine lv_iconst (v := 0) hx hb d_Ar_fill_0 (by decide) ?_
  refine lv_istore_n (lv' := [(2, .int 0), (0, .ref (ob k0)), (1, .int x1)]) hx hb d_Ar_fill_1 rfl hl (by decide) rfl (fun ls hl => ?_)
  refine lv_aload_n hx hb d_Ar_fill_2 rfl (lv_at hl 1 rfl) ?_
  refine va_alen (v := (nI (gn S k0))) hx hb hK hP k0 0 (cw_arr S hk0) rfl rfl d_Ar_fill_3 ?_
  obtain ⟨x3_1, ex3_1, hf⟩ := bn_some hf
  refine tpi ex3_1 ?_
  refine lv_istore_n (lv' := [(3, .int x3_1), (2, .int 0), (0, .ref (ob k0)), (1, .int x1)]) hx hb d_Ar_fill_4 rfl hl (by decide) rfl (fun ls hl => ?_)
  exact w_Ar_fill_5 C0 hret k0 hk0  FU x1 0 x3_1 S H locs ls hP hD hS (lv_sub hl [2, 3, 1, 0] rfl) hf
def f_Ar_fill (k0 : Nat) (x1 : Int32) (S : St) : Option St := f_Ar_fill_0 k0 x1 S
theorem c_Ar_fill (l : Launch) (D : va_G) (cA cP : ClassId) (ob : Nat → Nat) (ad : Nat → Nat → Nat) (k0 : Nat) (x1 : Int32) (hk0 : isArrc k0) (S : St) {res : St} (hf : f_Ar_fill k0 x1 S = some res) : CTv l y_Ar_fill w_Ar_fill rm_Ar_fill 0 0 D clC (TY cA cP) [.ref (ob k0), .int x1] (cw cA cP ob ad S) (fun w => w = cw cA cP ob ad res) :=
  mk_v (cc := b_Ar_fill) (maxL := 4) (own := R_Ar) (by decide) rfl rfl (Nat.le_of_ble_eq_true rfl) (fun p e s m below meth c A Q C0 hret ls hl hP hD hS => w_Ar_fill_0 C0 hret k0 hk0 x1 S _ _ ls hP hD hS (lv_sub hl [0, 1] rfl) hf)
end
