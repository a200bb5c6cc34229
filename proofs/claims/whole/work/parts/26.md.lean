section
variable {p : Program} {l : Launch} {e : Env} {s : State} {m : MethodId} {args : Array Value} {below : List Frame} {meth : Method} {c : Code} {Q : State → Prop} {D : va_G} {cA cP : ClassId} {ob : Nat → Nat} {ad : Nat → Nat → Nat} {A : Nat → Prop}
def f_Md_tell_117   (t0 : Int32) (t1 : Int32) (S : St) : Option St :=
  as_ (inb t1 (gn S 5)) (bn (seta S 5 (upd (ga S 5) (Int32.toNatClampNeg t1) t0)) (fun S_2 => bn (seti S_2 4 ((gi S_2 4) + 1)) (fun S_3 => some S_3)))
set_option maxHeartbeats 4000000 in
set_option maxRecDepth 100000 in
theorem w_Md_tell_117 (C0 : CX p s m args c b_Md_tell 6 R_Md w_Md_tell D clC cA cP A) {res : St} (hret : RTv p l e rm_Md_tell s m args below meth c Q D clC A b_Md_tell 0 0 (fun w => w = mw cA cP ob ad res))    : ∀ (t0 : Int32) (t1 : Int32) (S : St) (H : Heap) (locs : List Loc) (ls : Array Slot), va_P D clC (mw cA cP ob ad S) H → va_D A (mw cA cP ob ad S) → va_S A s.heap H locs → lv_has ls 6 [(0, .ref (ob 0))] → f_Md_tell_117   t0 t1 S = some res → W p l e rm_Md_tell s m args below meth c H locs 0 0 Q (F0 m 117 ls [.int t0, .int t1, .ref (ob 5)]) := by
  obtain ⟨hx, hb, hml, hown, hts, hK, hA, hN, hZ⟩ := id C0
  intro t0 t1 S H locs ls hP hD hS hl hf
  rw [f_Md_tell_117] at hf
  obtain ⟨hi_1, hf⟩ := as_some hf
  obtain ⟨S_2, eS_2, hf⟩ := bn_some hf
  refine va_iast hx hb hK hP hD hS 5 0 rfl rfl (inb_in hi_1) d_Md_tell_117 (fun H locs hP hD hS => ?_)
  have hP : va_P D clC (mw cA cP ob ad S_2) H := by rw [eS_2]; exact hP
  have hD : va_D A (mw cA cP ob ad S_2) := by rw [eS_2]; exact hD
  refine lv_aload_n hx hb d_Md_tell_118 rfl (lv_at hl 0 rfl) ?_
  refine lv_dup hx hb d_Md_tell_119 rfl ?_
  refine va_get (D := D) (ci := 7) (v := .int (gi S_2 4)) (C := R_Md) (T := F_Md) (N := 26) hx hb hts (fun w h => List.mem_cons_of_mem _ (in_Md w h)) hown hK hP 0 rfl rfl 6 (by decide) (hts _ (List.mem_cons_of_mem _ wd_828)) (fun _ h9 => h9) rfl d_Md_tell_120 ?_
  refine lv_iconst (v := 1) hx hb d_Md_tell_123 (by decide) ?_
  refine lv_iadd hx hb d_Md_tell_124 ?_
  obtain ⟨S_3, eS_3, hf⟩ := bn_some hf
  refine va_put (D := D) (ci := 7) (v := .int ((gi S_2 4) + 1)) (ty := .int) (C := R_Md) (T := F_Md) (N := 26) hx hb hts (fun w h => List.mem_cons_of_mem _ (in_Md w h)) t_Md tk_Md nk_Md hown hK hP hD hS 0 rfl rfl 6 (by decide) (hts _ (List.mem_cons_of_mem _ wd_828)) (fun _ h9 => h9) rfl (by decide +kernel) rfl rfl (Nat.le_of_ble_eq_true rfl) d_Md_tell_125 (fun H locs hP hD hS => ?_)
  have hP : va_P D clC (mw cA cP ob ad S_3) H := by rw [eS_3]; exact hP
  have hD : va_D A (mw cA cP ob ad S_3) := by rw [eS_3]; exact hD
  cases hf
  exact hret _ _ _ _ _ rfl hP hD hS d_Md_tell_128
def f_Md_tell_89   (x1 : Int32) (x2 : Int32) (x3 : Int32) (x4 : Int32) (x5 : Int32) (t0 : Int32) (t1 : Int32) (S : St) : Option St :=
  as_ (inb t1 (gn S 4)) (bn (seta S 4 (upd (ga S 4) (Int32.toNatClampNeg t1) t0)) (fun S_2 => (if x4 = 0 then
    (if x5 = 0 then
      f_Md_tell_117   x3 (gi S_2 4) S_2
      else
      f_Md_tell_117   x2 (gi S_2 4) S_2)
    else
    f_Md_tell_117   x1 (gi S_2 4) S_2)))
set_option maxHeartbeats 4000000 in
set_option maxRecDepth 100000 in
theorem w_Md_tell_89 (C0 : CX p s m args c b_Md_tell 6 R_Md w_Md_tell D clC cA cP A) {res : St} (hret : RTv p l e rm_Md_tell s m args below meth c Q D clC A b_Md_tell 0 0 (fun w => w = mw cA cP ob ad res))    : ∀ (x1 : Int32) (x2 : Int32) (x3 : Int32) (x4 : Int32) (x5 : Int32) (t0 : Int32) (t1 : Int32) (S : St) (H : Heap) (locs : List Loc) (ls : Array Slot), va_P D clC (mw cA cP ob ad S) H → va_D A (mw cA cP ob ad S) → va_S A s.heap H locs → lv_has ls 6 [(0, .ref (ob 0)), (1, .int x1), (2, .int x2), (3, .int x3), (4, .int x4), (5, .int x5)] → f_Md_tell_89   x1 x2 x3 x4 x5 t0 t1 S = some res → W p l e rm_Md_tell s m args below meth c H locs 0 0 Q (F0 m 89 ls [.int t0, .int t1, .ref (ob 4)]) := by
  obtain ⟨hx, hb, hml, hown, hts, hK, hA, hN, hZ⟩ := id C0
  intro x1 x2 x3 x4 x5 t0 t1 S H locs ls hP hD hS hl hf
  rw [f_Md_tell_89] at hf
  obtain ⟨hi_1, hf⟩ := as_some hf
  obtain ⟨S_2, eS_2, hf⟩ := bn_some hf
  refine va_iast hx hb hK hP hD hS 4 0 rfl rfl (inb_in hi_1) d_Md_tell_89 (fun H locs hP hD hS => ?_)
  have hP : va_P D clC (mw cA cP ob ad S_2) H := by rw [eS_2]; exact hP
  have hD : va_D A (mw cA cP ob ad S_2) := by rw [eS_2]; exact hD
  refine lv_aload_n hx hb d_Md_tell_90 rfl (lv_at hl 0 rfl) ?_
  refine va_get (D := D) (ci := 7) (v := .ref (ob 5)) (C := R_Md) (T := F_Md) (N := 26) hx hb hts (fun w h => List.mem_cons_of_mem _ (in_Md w h)) hown hK hP 0 rfl rfl 9 (by decide) (hts _ (List.mem_cons_of_mem _ wd_831)) (fun _ h9 => h9) rfl d_Md_tell_91 ?_
  refine lv_aload_n hx hb d_Md_tell_94 rfl (lv_at hl 0 rfl) ?_
  refine va_get (D := D) (ci := 7) (v := .int (gi S_2 4)) (C := R_Md) (T := F_Md) (N := 26) hx hb hts (fun w h => List.mem_cons_of_mem _ (in_Md w h)) hown hK hP 0 rfl rfl 6 (by decide) (hts _ (List.mem_cons_of_mem _ wd_828)) (fun _ h9 => h9) rfl d_Md_tell_95 ?_
  refine lv_iload hx hb d_Md_tell_98 (lv_at hl 4 rfl) ?_
  refine lv_if_eq (tgt := 107) hx hb d_Md_tell_100 (by decide) (fun c_3 => ?_) (fun c_3 => ?_)
  · rw [if_pos c_3] at hf
    refine lv_iload hx hb d_Md_tell_107 (lv_at hl 5 rfl) ?_
    refine lv_if_eq (tgt := 116) hx hb d_Md_tell_109 (by decide) (fun c_4 => ?_) (fun c_4 => ?_)
    · rw [if_pos c_4] at hf
      refine lv_iload_n hx hb d_Md_tell_116 rfl (lv_at hl 3 rfl) ?_
      exact w_Md_tell_117 C0 hret    x3 (gi S_2 4) S_2 H locs ls hP hD hS (lv_sub hl [0] rfl) hf
    · rw [if_neg c_4] at hf
      refine lv_iload_n hx hb d_Md_tell_112 rfl (lv_at hl 2 rfl) ?_
      refine lv_goto (tgt := 117) hx hb d_Md_tell_113 (by decide) ?_
      exact w_Md_tell_117 C0 hret    x2 (gi S_2 4) S_2 H locs ls hP hD hS (lv_sub hl [0] rfl) hf
  · rw [if_neg c_3] at hf
    refine lv_iload_n hx hb d_Md_tell_103 rfl (lv_at hl 1 rfl) ?_
    refine lv_goto (tgt := 117) hx hb d_Md_tell_104 (by decide) ?_
    exact w_Md_tell_117 C0 hret    x1 (gi S_2 4) S_2 H locs ls hP hD hS (lv_sub hl [0] rfl) hf
def f_Md_tell_61   (x1 : Int32) (x2 : Int32) (x3 : Int32) (x4 : Int32) (x5 : Int32) (t0 : Int32) (t1 : Int32) (S : St) : Option St :=
  as_ (inb t1 (gn S 3)) (bn (seta S 3 (upd (ga S 3) (Int32.toNatClampNeg t1) t0)) (fun S_2 => (if x4 = 0 then
    (if x5 = 0 then
      f_Md_tell_89   x1 x2 x3 x4 x5 x2 (gi S_2 4) S_2
      else
      f_Md_tell_89   x1 x2 x3 x4 x5 x1 (gi S_2 4) S_2)
    else
    f_Md_tell_89   x1 x2 x3 x4 x5 x3 (gi S_2 4) S_2)))
set_option maxHeartbeats 4000000 in
set_option maxRecDepth 100000 in
theorem w_Md_tell_61 (C0 : CX p s m args c b_Md_tell 6 R_Md w_Md_tell D clC cA cP A) {res : St} (hret : RTv p l e rm_Md_tell s m args below meth c Q D clC A b_Md_tell 0 0 (fun w => w = mw cA cP ob ad res))    : ∀ (x1 : Int32) (x2 : Int32) (x3 : Int32) (x4 : Int32) (x5 : Int32) (t0 : Int32) (t1 : Int32) (S : St) (H : Heap) (locs : List Loc) (ls : Array Slot), va_P D clC (mw cA cP ob ad S) H → va_D A (mw cA cP ob ad S) → va_S A s.heap H locs → lv_has ls 6 [(0, .ref (ob 0)), (1, .int x1), (2, .int x2), (3, .int x3), (4, .int x4), (5, .int x5)] → f_Md_tell_61   x1 x2 x3 x4 x5 t0 t1 S = some res → W p l e rm_Md_tell s m args below meth c H locs 0 0 Q (F0 m 61 ls [.int t0, .int t1, .ref (ob 3)]) := by
  obtain ⟨hx, hb, hml, hown, hts, hK, hA, hN, hZ⟩ := id C0
  intro x1 x2 x3 x4 x5 t0 t1 S H locs ls hP hD hS hl hf
  rw [f_Md_tell_61] at hf
  obtain ⟨hi_1, hf⟩ := as_some hf
  obtain ⟨S_2, eS_2, hf⟩ := bn_some hf
  refine va_iast hx hb hK hP hD hS 3 0 rfl rfl (inb_in hi_1) d_Md_tell_61 (fun H locs hP hD hS => ?_)
  have hP : va_P D clC (mw cA cP ob ad S_2) H := by rw [eS_2]; exact hP
  have hD : va_D A (mw cA cP ob ad S_2) := by rw [eS_2]; exact hD
  refine lv_aload_n hx hb d_Md_tell_62 rfl (lv_at hl 0 rfl) ?_
  refine va_get (D := D) (ci := 7) (v := .ref (ob 4)) (C := R_Md) (T := F_Md) (N := 26) hx hb hts (fun w h => List.mem_cons_of_mem _ (in_Md w h)) hown hK hP 0 rfl rfl 8 (by decide) (hts _ (List.mem_cons_of_mem _ wd_830)) (fun _ h9 => h9) rfl d_Md_tell_63 ?_
  refine lv_aload_n hx hb d_Md_tell_66 rfl (lv_at hl 0 rfl) ?_
  refine va_get (D := D) (ci := 7) (v := .int (gi S_2 4)) (C := R_Md) (T := F_Md) (N := 26) hx hb hts (fun w h => List.mem_cons_of_mem _ (in_Md w h)) hown hK hP 0 rfl rfl 6 (by decide) (hts _ (List.mem_cons_of_mem _ wd_828)) (fun _ h9 => h9) rfl d_Md_tell_67 ?_
  refine lv_iload hx hb d_Md_tell_70 (lv_at hl 4 rfl) ?_
  refine lv_if_eq (tgt := 79) hx hb d_Md_tell_72 (by decide) (fun c_3 => ?_) (fun c_3 => ?_)
  · rw [if_pos c_3] at hf
    refine lv_iload hx hb d_Md_tell_79 (lv_at hl 5 rfl) ?_
    refine lv_if_eq (tgt := 88) hx hb d_Md_tell_81 (by decide) (fun c_4 => ?_) (fun c_4 => ?_)
    · rw [if_pos c_4] at hf
      refine lv_iload_n hx hb d_Md_tell_88 rfl (lv_at hl 2 rfl) ?_
      exact w_Md_tell_89 C0 hret    x1 x2 x3 x4 x5 x2 (gi S_2 4) S_2 H locs ls hP hD hS (lv_sub hl [0, 1, 2, 3, 4, 5] rfl) hf
    · rw [if_neg c_4] at hf
      refine lv_iload_n hx hb d_Md_tell_84 rfl (lv_at hl 1 rfl) ?_
      refine lv_goto (tgt := 89) hx hb d_Md_tell_85 (by decide) ?_
      exact w_Md_tell_89 C0 hret    x1 x2 x3 x4 x5 x1 (gi S_2 4) S_2 H locs ls hP hD hS (lv_sub hl [0, 1, 2, 3, 4, 5] rfl) hf
  · rw [if_neg c_3] at hf
    refine lv_iload_n hx hb d_Md_tell_75 rfl (lv_at hl 3 rfl) ?_
    refine lv_goto (tgt := 89) hx hb d_Md_tell_76 (by decide) ?_
    exact w_Md_tell_89 C0 hret    x1 x2 x3 x4 x5 x3 (gi S_2 4) S_2 H locs ls hP hD hS (lv_sub hl [0, 1, 2, 3, 4, 5] rfl) hf
def f_Md_tell_32   (x1 : Int32) (x2 : Int32) (x3 : Int32) (x4 : Int32) (t0 : Int32) (S : St) : Option St :=
  (if x4 = 0 then
    (if t0 = 0 then
      f_Md_tell_61   x1 x2 x3 x4 t0 x1 (gi S 4) S
      else
      f_Md_tell_61   x1 x2 x3 x4 t0 x3 (gi S 4) S)
    else
    f_Md_tell_61   x1 x2 x3 x4 t0 x2 (gi S 4) S)
set_option maxHeartbeats 4000000 in
set_option maxRecDepth 100000 in
theorem w_Md_tell_32 (C0 : CX p s m args c b_Md_tell 6 R_Md w_Md_tell D clC cA cP A) {res : St} (hret : RTv p l e rm_Md_tell s m args below meth c Q D clC A b_Md_tell 0 0 (fun w => w = mw cA cP ob ad res))    : ∀ (x1 : Int32) (x2 : Int32) (x3 : Int32) (x4 : Int32) (t0 : Int32) (S : St) (H : Heap) (locs : List Loc) (ls : Array Slot), va_P D clC (mw cA cP ob ad S) H → va_D A (mw cA cP ob ad S) → va_S A s.heap H locs → lv_has ls 6 [(0, .ref (ob 0)), (1, .int x1), (2, .int x2), (3, .int x3), (4, .int x4)] → f_Md_tell_32   x1 x2 x3 x4 t0 S = some res → W p l e rm_Md_tell s m args below meth c H locs 0 0 Q (F0 m 32 ls [.int t0]) := by
  obtain ⟨hx, hb, hml, hown, hts, hK, hA, hN, hZ⟩ := id C0
  intro x1 x2 x3 x4 t0 S H locs ls hP hD hS hl hf
  rw [f_Md_tell_32] at hf
  refine lv_istore (lv' := [(5, .int t0), (0, .ref (ob 0)), (1, .int x1), (2, .int x2), (3, .int x3), (4, .int x4)]) hx hb d_Md_tell_32 hl (by decide) rfl (fun ls hl => ?_)
  refine lv_aload_n hx hb d_Md_tell_34 rfl (lv_at hl 1 rfl) ?_
  refine va_get (D := D) (ci := 7) (v := .ref (ob 3)) (C := R_Md) (T := F_Md) (N := 26) hx hb hts (fun w h => List.mem_cons_of_mem _ (in_Md w h)) hown hK hP 0 rfl rfl 7 (by decide) (hts _ (List.mem_cons_of_mem _ wd_829)) (fun _ h9 => h9) rfl d_Md_tell_35 ?_
  refine lv_aload_n hx hb d_Md_tell_38 rfl (lv_at hl 1 rfl) ?_
  refine va_get (D := D) (ci := 7) (v := .int (gi S 4)) (C := R_Md) (T := F_Md) (N := 26) hx hb hts (fun w h => List.mem_cons_of_mem _ (in_Md w h)) hown hK hP 0 rfl rfl 6 (by decide) (hts _ (List.mem_cons_of_mem _ wd_828)) (fun _ h9 => h9) rfl d_Md_tell_39 ?_
  refine lv_iload hx hb d_Md_tell_42 (lv_at hl 5 rfl) ?_
  refine lv_if_eq (tgt := 51) hx hb d_Md_tell_44 (by decide) (fun c_1 => ?_) (fun c_1 => ?_)
  · rw [if_pos c_1] at hf
    refine lv_iload hx hb d_Md_tell_51 (lv_at hl 0 rfl) ?_
    refine lv_if_eq (tgt := 60) hx hb d_Md_tell_53 (by decide) (fun c_2 => ?_) (fun c_2 => ?_)
    · rw [if_pos c_2] at hf
      refine lv_iload_n hx hb d_Md_tell_60 rfl (lv_at hl 2 rfl) ?_
      exact w_Md_tell_61 C0 hret    x1 x2 x3 x4 t0 x1 (gi S 4) S H locs ls hP hD hS (lv_sub hl [1, 2, 3, 4, 5, 0] rfl) hf
    · rw [if_neg c_2] at hf
      refine lv_iload_n hx hb d_Md_tell_56 rfl (lv_at hl 4 rfl) ?_
      refine lv_goto (tgt := 61) hx hb d_Md_tell_57 (by decide) ?_
      exact w_Md_tell_61 C0 hret    x1 x2 x3 x4 t0 x3 (gi S 4) S H locs ls hP hD hS (lv_sub hl [1, 2, 3, 4, 5, 0] rfl) hf
  · rw [if_neg c_1] at hf
    refine lv_iload_n hx hb d_Md_tell_47 rfl (lv_at hl 3 rfl) ?_
    refine lv_goto (tgt := 61) hx hb d_Md_tell_48 (by decide) ?_
    exact w_Md_tell_61 C0 hret    x1 x2 x3 x4 t0 x2 (gi S 4) S H locs ls hP hD hS (lv_sub hl [1, 2, 3, 4, 5, 0] rfl) hf
def f_Md_tell_31   (x1 : Int32) (x2 : Int32) (x3 : Int32) (x4 : Int32) (S : St) : Option St :=
  f_Md_tell_32   x1 x2 x3 x4 0 S
set_option maxHeartbeats 4000000 in
set_option maxRecDepth 100000 in
theorem w_Md_tell_31 (C0 : CX p s m args c b_Md_tell 6 R_Md w_Md_tell D clC cA cP A) {res : St} (hret : RTv p l e rm_Md_tell s m args below meth c Q D clC A b_Md_tell 0 0 (fun w => w = mw cA cP ob ad res))    : ∀ (x1 : Int32) (x2 : Int32) (x3 : Int32) (x4 : Int32) (S : St) (H : Heap) (locs : List Loc) (ls : Array Slot), va_P D clC (mw cA cP ob ad S) H → va_D A (mw cA cP ob ad S) → va_S A s.heap H locs → lv_has ls 6 [(0, .ref (ob 0)), (1, .int x1), (2, .int x2), (3, .int x3), (4, .int x4)] → f_Md_tell_31   x1 x2 x3 x4 S = some res → W p l e rm_Md_tell s m args below meth c H locs 0 0 Q (F0 m 31 ls []) := by
  obtain ⟨hx, hb, hml, hown, hts, hK, hA, hN, hZ⟩ := id C0
  intro x1 x2 x3 x4 S H locs ls hP hD hS hl hf
  rw [f_Md_tell_31] at hf
  refine lv_iconst (v := 0) hx hb d_Md_tell_31 (by decide) ?_
  exact w_Md_tell_32 C0 hret    x1 x2 x3 x4 0 S H locs ls hP hD hS (lv_sub hl [0, 1, 2, 3, 4] rfl) hf
def f_Md_tell_15   (x1 : Int32) (x2 : Int32) (x3 : Int32) (t0 : Int32) (S : St) : Option St :=
  (if x1 ≤ x3 then
    f_Md_tell_31   x1 x2 x3 t0 S
    else
    (if x2 ≤ x3 then
      f_Md_tell_31   x1 x2 x3 t0 S
      else
      f_Md_tell_32   x1 x2 x3 t0 1 S))
set_option maxHeartbeats 4000000 in
set_option maxRecDepth 100000 in
theorem w_Md_tell_15 (C0 : CX p s m args c b_Md_tell 6 R_Md w_Md_tell D clC cA cP A) {res : St} (hret : RTv p l e rm_Md_tell s m args below meth c Q D clC A b_Md_tell 0 0 (fun w => w = mw cA cP ob ad res))    : ∀ (x1 : Int32) (x2 : Int32) (x3 : Int32) (t0 : Int32) (S : St) (H : Heap) (locs : List Loc) (ls : Array Slot), va_P D clC (mw cA cP ob ad S) H → va_D A (mw cA cP ob ad S) → va_S A s.heap H locs → lv_has ls 6 [(0, .ref (ob 0)), (1, .int x1), (2, .int x2), (3, .int x3)] → f_Md_tell_15   x1 x2 x3 t0 S = some res → W p l e rm_Md_tell s m args below meth c H locs 0 0 Q (F0 m 15 ls [.int t0]) := by
  obtain ⟨hx, hb, hml, hown, hts, hK, hA, hN, hZ⟩ := id C0
  intro x1 x2 x3 t0 S H locs ls hP hD hS hl hf
  rw [f_Md_tell_15] at hf
  refine lv_istore (lv' := [(4, .int t0), (0, .ref (ob 0)), (1, .int x1), (2, .int x2), (3, .int x3)]) hx hb d_Md_tell_15 hl (by decide) rfl (fun ls hl => ?_)
  refine lv_iload_n hx hb d_Md_tell_17 rfl (lv_at hl 4 rfl) ?_
  refine lv_iload_n hx hb d_Md_tell_18 rfl (lv_at hl 2 rfl) ?_
  refine lv_icmp_ge (tgt := 31) hx hb d_Md_tell_19 (by decide) (fun c_1 => ?_) (fun c_1 => ?_)
  · rw [if_pos c_1] at hf
    exact w_Md_tell_31 C0 hret    x1 x2 x3 t0 S H locs ls hP hD hS (lv_sub hl [1, 2, 3, 4, 0] rfl) hf
  · rw [if_neg c_1] at hf
    refine lv_iload_n hx hb d_Md_tell_22 rfl (lv_at hl 4 rfl) ?_
    refine lv_iload_n hx hb d_Md_tell_23 rfl (lv_at hl 3 rfl) ?_
    refine lv_icmp_ge (tgt := 31) hx hb d_Md_tell_24 (by decide) (fun c_2 => ?_) (fun c_2 => ?_)
    · rw [if_pos c_2] at hf
      exact w_Md_tell_31 C0 hret    x1 x2 x3 t0 S H locs ls hP hD hS (lv_sub hl [1, 2, 3, 4, 0] rfl) hf
    · rw [if_neg c_2] at hf
      refine lv_iconst (v := 1) hx hb d_Md_tell_27 (by decide) ?_
      refine lv_goto (tgt := 32) hx hb d_Md_tell_28 (by decide) ?_
      exact w_Md_tell_32 C0 hret    x1 x2 x3 t0 1 S H locs ls hP hD hS (lv_sub hl [1, 2, 3, 4, 0] rfl) hf
def f_Md_tell_14   (x1 : Int32) (x2 : Int32) (x3 : Int32) (S : St) : Option St :=
  f_Md_tell_15   x1 x2 x3 0 S
set_option maxHeartbeats 4000000 in
set_option maxRecDepth 100000 in
theorem w_Md_tell_14 (C0 : CX p s m args c b_Md_tell 6 R_Md w_Md_tell D clC cA cP A) {res : St} (hret : RTv p l e rm_Md_tell s m args below meth c Q D clC A b_Md_tell 0 0 (fun w => w = mw cA cP ob ad res))    : ∀ (x1 : Int32) (x2 : Int32) (x3 : Int32) (S : St) (H : Heap) (locs : List Loc) (ls : Array Slot), va_P D clC (mw cA cP ob ad S) H → va_D A (mw cA cP ob ad S) → va_S A s.heap H locs → lv_has ls 6 [(0, .ref (ob 0)), (1, .int x1), (2, .int x2), (3, .int x3)] → f_Md_tell_14   x1 x2 x3 S = some res → W p l e rm_Md_tell s m args below meth c H locs 0 0 Q (F0 m 14 ls []) := by
  obtain ⟨hx, hb, hml, hown, hts, hK, hA, hN, hZ⟩ := id C0
  intro x1 x2 x3 S H locs ls hP hD hS hl hf
  rw [f_Md_tell_14] at hf
  refine lv_iconst (v := 0) hx hb d_Md_tell_14 (by decide) ?_
  exact w_Md_tell_15 C0 hret    x1 x2 x3 0 S H locs ls hP hD hS (lv_sub hl [0, 1, 2, 3] rfl) hf
def f_Md_tell_0   (x1 : Int32) (x2 : Int32) (x3 : Int32) (S : St) : Option St :=
  (if x1 ≤ x2 then
    f_Md_tell_14   x1 x2 x3 S
    else
    (if x3 ≤ x2 then
      f_Md_tell_14   x1 x2 x3 S
      else
      f_Md_tell_15   x1 x2 x3 1 S))
set_option maxHeartbeats 4000000 in
set_option maxRecDepth 100000 in
theorem w_Md_tell_0 (C0 : CX p s m args c b_Md_tell 6 R_Md w_Md_tell D clC cA cP A) {res : St} (hret : RTv p l e rm_Md_tell s m args below meth c Q D clC A b_Md_tell 0 0 (fun w => w = mw cA cP ob ad res))    : ∀ (x1 : Int32) (x2 : Int32) (x3 : Int32) (S : St) (H : Heap) (locs : List Loc) (ls : Array Slot), va_P D clC (mw cA cP ob ad S) H → va_D A (mw cA cP ob ad S) → va_S A s.heap H locs → lv_has ls 6 [(0, .ref (ob 0)), (1, .int x1), (2, .int x2), (3, .int x3)] → f_Md_tell_0   x1 x2 x3 S = some res → W p l e rm_Md_tell s m args below meth c H locs 0 0 Q (F0 m 0 ls []) := by
  obtain ⟨hx, hb, hml, hown, hts, hK, hA, hN, hZ⟩ := id C0
  intro x1 x2 x3 S H locs ls hP hD hS hl hf
  rw [f_Md_tell_0] at hf
  refine lv_iload_n hx hb d_Md_tell_0 rfl (lv_at hl 2 rfl) ?_
  refine lv_iload_n hx hb d_Md_tell_1 rfl (lv_at hl 1 rfl) ?_
  refine lv_icmp_ge (tgt := 14) hx hb d_Md_tell_2 (by decide) (fun c_1 => ?_) (fun c_1 => ?_)
  · rw [if_pos c_1] at hf
    exact w_Md_tell_14 C0 hret    x1 x2 x3 S H locs ls hP hD hS (lv_sub hl [0, 1, 2, 3] rfl) hf
  · rw [if_neg c_1] at hf
    refine lv_iload_n hx hb d_Md_tell_5 rfl (lv_at hl 2 rfl) ?_
    refine lv_iload_n hx hb d_Md_tell_6 rfl (lv_at hl 3 rfl) ?_
    refine lv_icmp_ge (tgt := 14) hx hb d_Md_tell_7 (by decide) (fun c_2 => ?_) (fun c_2 => ?_)
    · rw [if_pos c_2] at hf
      exact w_Md_tell_14 C0 hret    x1 x2 x3 S H locs ls hP hD hS (lv_sub hl [0, 1, 2, 3] rfl) hf
    · rw [if_neg c_2] at hf
      refine lv_iconst (v := 1) hx hb d_Md_tell_10 (by decide) ?_
      refine lv_goto (tgt := 15) hx hb d_Md_tell_11 (by decide) ?_
      exact w_Md_tell_15 C0 hret    x1 x2 x3 1 S H locs ls hP hD hS (lv_sub hl [0, 1, 2, 3] rfl) hf
def f_Md_tell (x1 : Int32) (x2 : Int32) (x3 : Int32) (S : St) : Option St := f_Md_tell_0  x1 x2 x3 S
theorem c_Md_tell (l : Launch) (D : va_G) (cA cP : ClassId) (ob : Nat → Nat) (ad : Nat → Nat → Nat) (x1 : Int32) (x2 : Int32) (x3 : Int32)  (S : St) {res : St} (hf : f_Md_tell x1 x2 x3 S = some res) : CTv l y_Md_tell w_Md_tell rm_Md_tell 0 0 D clC (TY cA cP) [.ref (ob 0), .int x1, .int x2, .int x3] (mw cA cP ob ad S) (fun w => w = mw cA cP ob ad res) :=
  mk_v (cc := b_Md_tell) (maxL := 6) (own := R_Md) (by decide) rfl rfl (Nat.le_of_ble_eq_true rfl) (fun p e s m below meth c A Q C0 hret ls hl hP hD hS => w_Md_tell_0 C0 hret   x1 x2 x3 S _ _ ls hP hD hS (lv_sub hl [0, 1, 2, 3] rfl) hf)
def f_Md_look_142   : Nat → Int32 → St → Option St
  | 0 => fun _ _ => none
  | n + 1 => fun x4 S => (if (gi S 8) ≤ x4 then
      some S
      else
      as_ (inb 0 (gn S 9)) (as_ (inb (x4 - 1) (gn S 9)) (as_ (inb x4 (gn S 9)) (bd (f_Md_tell (ga S 9 (Int32.toNatClampNeg 0)) (ga S 9 (Int32.toNatClampNeg (x4 - 1))) (ga S 9 (Int32.toNatClampNeg x4)) S) (fun q_5 => bn (x4 + 1) (fun x4_6 => f_Md_look_142  n x4_6 q_5))))))
set_option maxHeartbeats 4000000 in
set_option maxRecDepth 100000 in
theorem w_Md_look_142 (C0 : CX p s m args c b_Md_look 5 R_Md w_Md_look D clC cA cP A) {res : St} (hret : RTv p l e rm_Md_look s m args below meth c Q D clC A b_Md_look 0 0 (fun w => w = mw cA cP ob ad res))    : ∀ (n : Nat) (x4 : Int32) (S : St) (H : Heap) (locs : List Loc) (ls : Array Slot), va_P D clC (mw cA cP ob ad S) H → va_D A (mw cA cP ob ad S) → va_S A s.heap H locs → lv_has ls 5 [(0, .ref (ob 0)), (4, .int x4)] → f_Md_look_142   n x4 S = some res → W p l e rm_Md_look s m args below meth c H locs 0 0 Q (F0 m 142 ls []) := by
  obtain ⟨hx, hb, hml, hown, hts, hK, hA, hN, hZ⟩ := id C0
  intro n
  induction n with
  | zero =>
    intro x4 S H locs ls hP hD hS hl hf
    cases hf
  | succ n ih =>
    intro x4 S H locs ls hP hD hS hl hf
    rw [f_Md_look_142] at hf
    try dsimp only at hf
    refine lv_iload hx hb d_Md_look_142 (lv_at hl 1 rfl) ?_
    refine lv_aload_n hx hb d_Md_look_144 rfl (lv_at hl 0 rfl) ?_
    refine va_get (D := D) (ci := 7) (v := .int (gi S 8)) (C := R_Md) (T := F_Md) (N := 26) hx hb hts (fun w h => List.mem_cons_of_mem _ (in_Md w h)) hown hK hP 0 rfl rfl 16 (by decide) (hts _ (List.mem_cons_of_mem _ wd_838)) (fun _ h9 => h9) rfl d_Md_look_145 ?_
    refine lv_icmp_ge (tgt := 183) hx hb d_Md_look_148 (by decide) (fun c_1 => ?_) (fun c_1 => ?_)
    · rw [if_pos c_1] at hf
      cases hf
      exact hret _ _ _ _ _ rfl hP hD hS d_Md_look_183
    · rw [if_neg c_1] at hf
      refine lv_aload_n hx hb d_Md_look_151 rfl (lv_at hl 0 rfl) ?_
      refine lv_aload_n hx hb d_Md_look_152 rfl (lv_at hl 0 rfl) ?_
      refine va_get (D := D) (ci := 7) (v := .ref (ob 9)) (C := R_Md) (T := F_Md) (N := 26) hx hb hts (fun w h => List.mem_cons_of_mem _ (in_Md w h)) hown hK hP 0 rfl rfl 17 (by decide) (hts _ (List.mem_cons_of_mem _ wd_839)) (fun _ h9 => h9) rfl d_Md_look_153 ?_
      refine lv_iconst (v := 0) hx hb d_Md_look_156 (by decide) ?_
      obtain ⟨hi_2, hf⟩ := as_some hf
      refine va_iald hx hb hK hP 9 0 rfl rfl (inb_in hi_2) d_Md_look_157 ?_
      refine lv_aload_n hx hb d_Md_look_158 rfl (lv_at hl 0 rfl) ?_
      refine va_get (D := D) (ci := 7) (v := .ref (ob 9)) (C := R_Md) (T := F_Md) (N := 26) hx hb hts (fun w h => List.mem_cons_of_mem _ (in_Md w h)) hown hK hP 0 rfl rfl 17 (by decide) (hts _ (List.mem_cons_of_mem _ wd_839)) (fun _ h9 => h9) rfl d_Md_look_159 ?_
      refine lv_iload hx hb d_Md_look_162 (lv_at hl 1 rfl) ?_
      refine lv_iconst (v := 1) hx hb d_Md_look_164 (by decide) ?_
      refine lv_isub hx hb d_Md_look_165 ?_
      obtain ⟨hi_3, hf⟩ := as_some hf
      refine va_iald hx hb hK hP 9 0 rfl rfl (inb_in hi_3) d_Md_look_166 ?_
      refine lv_aload_n hx hb d_Md_look_167 rfl (lv_at hl 0 rfl) ?_
      refine va_get (D := D) (ci := 7) (v := .ref (ob 9)) (C := R_Md) (T := F_Md) (N := 26) hx hb hts (fun w h => List.mem_cons_of_mem _ (in_Md w h)) hown hK hP 0 rfl rfl 17 (by decide) (hts _ (List.mem_cons_of_mem _ wd_839)) (fun _ h9 => h9) rfl d_Md_look_168 ?_
      refine lv_iload hx hb d_Md_look_171 (lv_at hl 1 rfl) ?_
      obtain ⟨hi_4, hf⟩ := as_some hf
      refine va_iald hx hb hK hP 9 0 rfl rfl (inb_in hi_4) d_Md_look_173 ?_
      obtain ⟨q_5, hq_5, hf⟩ := bd_some hf
      refine kc_v (va_runV (As := [.int (ga S 9 (Int32.toNatClampNeg 0)), .int (ga S 9 (Int32.toNatClampNeg (x4 - 1))), .int (ga S 9 (Int32.toNatClampNeg x4))]) (rest := []) ⟨hx, hb, hml, hown, hts⟩ (c_Md_tell l D cA cP ob ad (ga S 9 (Int32.toNatClampNeg 0)) (ga S 9 (Int32.toNatClampNeg (x4 - 1))) (ga S 9 (Int32.toNatClampNeg x4))  S hq_5 H.size) ⟨callB_of 3 hts (gd_Md_tell) rfl rfl rfl (hts _ (List.mem_cons_of_mem _ wd_72)) (hts _ (List.mem_cons_of_mem _ wd_1012)) dd_Md_tell ⟨Nat.le_of_ble_eq_true rfl, Nat.le_of_ble_eq_true rfl⟩, (hts _ (List.mem_cons_of_mem _ wd_1014)), (hts _ (List.mem_cons_of_mem _ wd_53))⟩ (kpV hK hP hD hN hZ hS 7 0 rfl rfl) rfl rfl hl.1 rfl (lv_room (Nat.le_of_ble_eq_true rfl)) d_Md_look_174 ⟨Nat.le_of_ble_eq_true rfl, Nat.le_of_ble_eq_true rfl⟩) hP hD hS hA (fun w H locs hw hP hD hS => ?_)
      obtain rfl := hw
      obtain ⟨x4_6, ex4_6, hf⟩ := bn_some hf
      refine lv_iinc (v := x4_6) (lv' := [(4, .int x4_6), (0, .ref (ob 0))]) hx hb d_Md_look_177 hl (k := 1) rfl (by rw [ex4_6]; rfl) (by decide) rfl (fun ls hl => ?_)
      refine lv_goto (tgt := 142) hx hb d_Md_look_180 (by decide) ?_
      exact ih x4_6 q_5 H locs ls hP hD hS (lv_sub hl [1, 0] rfl) hf
def f_Md_look_75   : Nat → Int32 → St → Option St
  | 0 => fun _ _ => none
  | n + 1 => fun x4 S => (if (gi S 8) ≤ x4 then
      f_Md_look_142   FU 2 S
      else
      as_ (inb x4 (gn S 9)) (as_ (inb (gi S 6) (gn S 7)) (bn (seta S 7 (upd (ga S 7) (Int32.toNatClampNeg (gi S 6)) (ga S 9 (Int32.toNatClampNeg x4)))) (fun S_4 => as_ (!decide ((gi S_4 8) = 0)) (as_ (inb ((x4 + 1) - (x4 + 1) / (gi S_4 8) * (gi S_4 8)) (gn S_4 9)) (as_ (inb (gi S_4 6) (gn S_4 8)) (bn (seta S_4 8 (upd (ga S_4 8) (Int32.toNatClampNeg (gi S_4 6)) (ga S_4 9 (Int32.toNatClampNeg ((x4 + 1) - (x4 + 1) / (gi S_4 8) * (gi S_4 8)))))) (fun S_8 => bn (seti S_8 6 ((gi S_8 6) + 1)) (fun S_9 => bn (x4 + 1) (fun x4_10 => f_Md_look_75  n x4_10 S_9))))))))))
set_option maxHeartbeats 4000000 in
set_option maxRecDepth 100000 in
theorem w_Md_look_75 (C0 : CX p s m args c b_Md_look 5 R_Md w_Md_look D clC cA cP A) {res : St} (hret : RTv p l e rm_Md_look s m args below meth c Q D clC A b_Md_look 0 0 (fun w => w = mw cA cP ob ad res))    : ∀ (n : Nat) (x4 : Int32) (S : St) (H : Heap) (locs : List Loc) (ls : Array Slot), va_P D clC (mw cA cP ob ad S) H → va_D A (mw cA cP ob ad S) → va_S A s.heap H locs → lv_has ls 5 [(0, .ref (ob 0)), (4, .int x4)] → f_Md_look_75   n x4 S = some res → W p l e rm_Md_look s m args below meth c H locs 0 0 Q (F0 m 75 ls []) := by
  obtain ⟨hx, hb, hml, hown, hts, hK, hA, hN, hZ⟩ := id C0
  intro n
  induction n with
  | zero =>
    intro x4 S H locs ls hP hD hS hl hf
    cases hf
  | succ n ih =>
    intro x4 S H locs ls hP hD hS hl hf
    rw [f_Md_look_75] at hf
    try dsimp only at hf
    refine lv_iload hx hb d_Md_look_75 (lv_at hl 1 rfl) ?_
    refine lv_aload_n hx hb d_Md_look_77 rfl (lv_at hl 0 rfl) ?_
    refine va_get (D := D) (ci := 7) (v := .int (gi S 8)) (C := R_Md) (T := F_Md) (N := 26) hx hb hts (fun w h => List.mem_cons_of_mem _ (in_Md w h)) hown hK hP 0 rfl rfl 16 (by decide) (hts _ (List.mem_cons_of_mem _ wd_838)) (fun _ h9 => h9) rfl d_Md_look_78 ?_
    refine lv_icmp_ge (tgt := 139) hx hb d_Md_look_81 (by decide) (fun c_1 => ?_) (fun c_1 => ?_)
    · rw [if_pos c_1] at hf
      refine lv_iconst (v := 2) hx hb d_Md_look_139 (by decide) ?_
      refine lv_istore (lv' := [(4, .int 2), (0, .ref (ob 0))]) hx hb d_Md_look_140 hl (by decide) rfl (fun ls hl => ?_)
      exact w_Md_look_142 C0 hret    FU 2 S H locs ls hP hD hS (lv_sub hl [1, 0] rfl) hf
    · rw [if_neg c_1] at hf
      refine lv_aload_n hx hb d_Md_look_84 rfl (lv_at hl 0 rfl) ?_
      refine va_get (D := D) (ci := 7) (v := .ref (ob 7)) (C := R_Md) (T := F_Md) (N := 26) hx hb hts (fun w h => List.mem_cons_of_mem _ (in_Md w h)) hown hK hP 0 rfl rfl 14 (by decide) (hts _ (List.mem_cons_of_mem _ wd_836)) (fun _ h9 => h9) rfl d_Md_look_85 ?_
      refine lv_aload_n hx hb d_Md_look_88 rfl (lv_at hl 0 rfl) ?_
      refine va_get (D := D) (ci := 7) (v := .int (gi S 6)) (C := R_Md) (T := F_Md) (N := 26) hx hb hts (fun w h => List.mem_cons_of_mem _ (in_Md w h)) hown hK hP 0 rfl rfl 12 (by decide) (hts _ (List.mem_cons_of_mem _ wd_834)) (fun _ h9 => h9) rfl d_Md_look_89 ?_
      refine lv_aload_n hx hb d_Md_look_92 rfl (lv_at hl 0 rfl) ?_
      refine va_get (D := D) (ci := 7) (v := .ref (ob 9)) (C := R_Md) (T := F_Md) (N := 26) hx hb hts (fun w h => List.mem_cons_of_mem _ (in_Md w h)) hown hK hP 0 rfl rfl 17 (by decide) (hts _ (List.mem_cons_of_mem _ wd_839)) (fun _ h9 => h9) rfl d_Md_look_93 ?_
      refine lv_iload hx hb d_Md_look_96 (lv_at hl 1 rfl) ?_
      obtain ⟨hi_2, hf⟩ := as_some hf
      refine va_iald hx hb hK hP 9 0 rfl rfl (inb_in hi_2) d_Md_look_98 ?_
      obtain ⟨hi_3, hf⟩ := as_some hf
      obtain ⟨S_4, eS_4, hf⟩ := bn_some hf
      refine va_iast hx hb hK hP hD hS 7 0 rfl rfl (inb_in hi_3) d_Md_look_99 (fun H locs hP hD hS => ?_)
      have hP : va_P D clC (mw cA cP ob ad S_4) H := by rw [eS_4]; exact hP
      have hD : va_D A (mw cA cP ob ad S_4) := by rw [eS_4]; exact hD
      refine lv_aload_n hx hb d_Md_look_100 rfl (lv_at hl 0 rfl) ?_
      refine va_get (D := D) (ci := 7) (v := .ref (ob 8)) (C := R_Md) (T := F_Md) (N := 26) hx hb hts (fun w h => List.mem_cons_of_mem _ (in_Md w h)) hown hK hP 0 rfl rfl 15 (by decide) (hts _ (List.mem_cons_of_mem _ wd_837)) (fun _ h9 => h9) rfl d_Md_look_101 ?_
      refine lv_aload_n hx hb d_Md_look_104 rfl (lv_at hl 0 rfl) ?_
      refine va_get (D := D) (ci := 7) (v := .int (gi S_4 6)) (C := R_Md) (T := F_Md) (N := 26) hx hb hts (fun w h => List.mem_cons_of_mem _ (in_Md w h)) hown hK hP 0 rfl rfl 12 (by decide) (hts _ (List.mem_cons_of_mem _ wd_834)) (fun _ h9 => h9) rfl d_Md_look_105 ?_
      refine lv_aload_n hx hb d_Md_look_108 rfl (lv_at hl 0 rfl) ?_
      refine va_get (D := D) (ci := 7) (v := .ref (ob 9)) (C := R_Md) (T := F_Md) (N := 26) hx hb hts (fun w h => List.mem_cons_of_mem _ (in_Md w h)) hown hK hP 0 rfl rfl 17 (by decide) (hts _ (List.mem_cons_of_mem _ wd_839)) (fun _ h9 => h9) rfl d_Md_look_109 ?_
      refine lv_iload hx hb d_Md_look_112 (lv_at hl 1 rfl) ?_
      refine lv_iconst (v := 1) hx hb d_Md_look_114 (by decide) ?_
      refine lv_iadd hx hb d_Md_look_115 ?_
      refine lv_aload_n hx hb d_Md_look_116 rfl (lv_at hl 0 rfl) ?_
      refine va_get (D := D) (ci := 7) (v := .int (gi S_4 8)) (C := R_Md) (T := F_Md) (N := 26) hx hb hts (fun w h => List.mem_cons_of_mem _ (in_Md w h)) hown hK hP 0 rfl rfl 16 (by decide) (hts _ (List.mem_cons_of_mem _ wd_838)) (fun _ h9 => h9) rfl d_Md_look_117 ?_
      obtain ⟨hz_5, hf⟩ := as_some hf
      refine lv_irem hx hb d_Md_look_120 (nz_of hz_5) ?_
      obtain ⟨hi_6, hf⟩ := as_some hf
      refine va_iald hx hb hK hP 9 0 rfl rfl (inb_in hi_6) d_Md_look_121 ?_
      obtain ⟨hi_7, hf⟩ := as_some hf
      obtain ⟨S_8, eS_8, hf⟩ := bn_some hf
      refine va_iast hx hb hK hP hD hS 8 0 rfl rfl (inb_in hi_7) d_Md_look_122 (fun H locs hP hD hS => ?_)
      have hP : va_P D clC (mw cA cP ob ad S_8) H := by rw [eS_8]; exact hP
      have hD : va_D A (mw cA cP ob ad S_8) := by rw [eS_8]; exact hD
      refine lv_aload_n hx hb d_Md_look_123 rfl (lv_at hl 0 rfl) ?_
      refine lv_dup hx hb d_Md_look_124 rfl ?_
      refine va_get (D := D) (ci := 7) (v := .int (gi S_8 6)) (C := R_Md) (T := F_Md) (N := 26) hx hb hts (fun w h => List.mem_cons_of_mem _ (in_Md w h)) hown hK hP 0 rfl rfl 12 (by decide) (hts _ (List.mem_cons_of_mem _ wd_834)) (fun _ h9 => h9) rfl d_Md_look_125 ?_
      refine lv_iconst (v := 1) hx hb d_Md_look_128 (by decide) ?_
      refine lv_iadd hx hb d_Md_look_129 ?_
      obtain ⟨S_9, eS_9, hf⟩ := bn_some hf
      refine va_put (D := D) (ci := 7) (v := .int ((gi S_8 6) + 1)) (ty := .int) (C := R_Md) (T := F_Md) (N := 26) hx hb hts (fun w h => List.mem_cons_of_mem _ (in_Md w h)) t_Md tk_Md nk_Md hown hK hP hD hS 0 rfl rfl 12 (by decide) (hts _ (List.mem_cons_of_mem _ wd_834)) (fun _ h9 => h9) rfl (by decide +kernel) rfl rfl (Nat.le_of_ble_eq_true rfl) d_Md_look_130 (fun H locs hP hD hS => ?_)
      have hP : va_P D clC (mw cA cP ob ad S_9) H := by rw [eS_9]; exact hP
      have hD : va_D A (mw cA cP ob ad S_9) := by rw [eS_9]; exact hD
      obtain ⟨x4_10, ex4_10, hf⟩ := bn_some hf
      refine lv_iinc (v := x4_10) (lv' := [(4, .int x4_10), (0, .ref (ob 0))]) hx hb d_Md_look_133 hl (k := 1) rfl (by rw [ex4_10]; rfl) (by decide) rfl (fun ls hl => ?_)
      refine lv_goto (tgt := 75) hx hb d_Md_look_136 (by decide) ?_
      exact ih x4_10 S_9 H locs ls hP hD hS (lv_sub hl [1, 0] rfl) hf
def f_Md_look_54  (k15 : Int32 → Int32 → Int32 → Int32 → St → Option St) (x1 : Int32) (x2 : Int32) (x3 : Int32) (x4 : Int32) (S : St) : Option St :=
  bn (x4 + 1) (fun x4_1 => k15 x1 x2 x3 x4_1 S)
set_option maxHeartbeats 4000000 in
set_option maxRecDepth 100000 in
theorem w_Md_look_54 (C0 : CX p s m args c b_Md_look 5 R_Md w_Md_look D clC cA cP A) {res : St} (hret : RTv p l e rm_Md_look s m args below meth c Q D clC A b_Md_look 0 0 (fun w => w = mw cA cP ob ad res))   (k15 : Int32 → Int32 → Int32 → Int32 → St → Option St) (hk15 : ∀ (x1 : Int32) (x2 : Int32) (x3 : Int32) (x4 : Int32) (S : St) (H : Heap) (locs : List Loc) (ls : Array Slot), va_P D clC (mw cA cP ob ad S) H → va_D A (mw cA cP ob ad S) → va_S A s.heap H locs → lv_has ls 5 [(0, .ref (ob 0)), (1, .int x1), (2, .int x2), (3, .int x3), (4, .int x4)] → k15 x1 x2 x3 x4 S = some res → W p l e rm_Md_look s m args below meth c H locs 0 0 Q (F0 m 15 ls [])) : ∀ (x1 : Int32) (x2 : Int32) (x3 : Int32) (x4 : Int32) (S : St) (H : Heap) (locs : List Loc) (ls : Array Slot), va_P D clC (mw cA cP ob ad S) H → va_D A (mw cA cP ob ad S) → va_S A s.heap H locs → lv_has ls 5 [(0, .ref (ob 0)), (1, .int x1), (2, .int x2), (3, .int x3), (4, .int x4)] → f_Md_look_54  k15 x1 x2 x3 x4 S = some res → W p l e rm_Md_look s m args below meth c H locs 0 0 Q (F0 m 54 ls []) := by
  obtain ⟨hx, hb, hml, hown, hts, hK, hA, hN, hZ⟩ := id C0
  intro x1 x2 x3 x4 S H locs ls hP hD hS hl hf
  rw [f_Md_look_54] at hf
  obtain ⟨x4_1, ex4_1, hf⟩ := bn_some hf
  refine lv_iinc (v := x4_1) (lv' := [(4, .int x4_1), (0, .ref (ob 0)), (1, .int x1), (2, .int x2), (3, .int x3)]) hx hb d_Md_look_54 hl (k := 4) rfl (by rw [ex4_1]; rfl) (by decide) rfl (fun ls hl => ?_)
  refine lv_goto (tgt := 15) hx hb d_Md_look_57 (by decide) ?_
  exact hk15 x1 x2 x3 x4_1 S H locs ls hP hD hS (lv_sub hl [1, 2, 3, 4, 0] rfl) hf
def f_Md_look_51  (k15 : Int32 → Int32 → Int32 → Int32 → St → Option St) (x1 : Int32) (x2 : Int32) (x4 : Int32) (S : St) : Option St :=
  f_Md_look_54  k15 x1 x2 x4 x4 S
set_option maxHeartbeats 4000000 in
set_option maxRecDepth 100000 in
theorem w_Md_look_51 (C0 : CX p s m args c b_Md_look 5 R_Md w_Md_look D clC cA cP A) {res : St} (hret : RTv p l e rm_Md_look s m args below meth c Q D clC A b_Md_look 0 0 (fun w => w = mw cA cP ob ad res))   (k15 : Int32 → Int32 → Int32 → Int32 → St → Option St) (hk15 : ∀ (x1 : Int32) (x2 : Int32) (x3 : Int32) (x4 : Int32) (S : St) (H : Heap) (locs : List Loc) (ls : Array Slot), va_P D clC (mw cA cP ob ad S) H → va_D A (mw cA cP ob ad S) → va_S A s.heap H locs → lv_has ls 5 [(0, .ref (ob 0)), (1, .int x1), (2, .int x2), (3, .int x3), (4, .int x4)] → k15 x1 x2 x3 x4 S = some res → W p l e rm_Md_look s m args below meth c H locs 0 0 Q (F0 m 15 ls [])) : ∀ (x1 : Int32) (x2 : Int32) (x4 : Int32) (S : St) (H : Heap) (locs : List Loc) (ls : Array Slot), va_P D clC (mw cA cP ob ad S) H → va_D A (mw cA cP ob ad S) → va_S A s.heap H locs → lv_has ls 5 [(0, .ref (ob 0)), (1, .int x1), (2, .int x2), (4, .int x4)] → f_Md_look_51  k15 x1 x2 x4 S = some res → W p l e rm_Md_look s m args below meth c H locs 0 0 Q (F0 m 51 ls []) := by
  obtain ⟨hx, hb, hml, hown, hts, hK, hA, hN, hZ⟩ := id C0
  intro x1 x2 x4 S H locs ls hP hD hS hl hf
  rw [f_Md_look_51] at hf
  refine lv_iload hx hb d_Md_look_51 (lv_at hl 3 rfl) ?_
  refine lv_istore_n (lv' := [(3, .int x4), (0, .ref (ob 0)), (1, .int x1), (2, .int x2), (4, .int x4)]) hx hb d_Md_look_53 rfl hl (by decide) rfl (fun ls hl => ?_)
  exact w_Md_look_54 C0 hret   k15 hk15 x1 x2 x4 x4 S H locs ls hP hD hS (lv_sub hl [1, 2, 3, 0, 4] rfl) hf
def f_Md_look_15   : Nat → Int32 → Int32 → Int32 → Int32 → St → Option St
  | 0 => fun _ _ _ _ _ => none
  | n + 1 => fun x1 x2 x3 x4 S => (if (gi S 2) ≤ x4 then
      (if 0 ≤ x3 then
        bd (f_Md_findCell x1 x2 x3 S) (fun q_3 => f_Md_look_75   FU 0 q_3)
        else
        some S)
      else
      bd (f_Md_sideOf x1 x2 x4 S) (fun q_4 => (if q_4.1 ≤ 0 then
        f_Md_look_54  (f_Md_look_15  n) x1 x2 x3 x4 q_4.2
        else
        (if x3 < 0 then
          f_Md_look_51  (f_Md_look_15  n) x1 x2 x4 q_4.2
          else
          bd (f_Md_inCircle x1 x2 x3 x4 q_4.2) (fun q_7 => (if q_7.1 ≤ 0 then
            f_Md_look_54  (f_Md_look_15  n) x1 x2 x3 x4 q_7.2
            else
            f_Md_look_51  (f_Md_look_15  n) x1 x2 x4 q_7.2))))))
set_option maxHeartbeats 4000000 in
set_option maxRecDepth 100000 in
theorem w_Md_look_15 (C0 : CX p s m args c b_Md_look 5 R_Md w_Md_look D clC cA cP A) {res : St} (hret : RTv p l e rm_Md_look s m args below meth c Q D clC A b_Md_look 0 0 (fun w => w = mw cA cP ob ad res))    : ∀ (n : Nat) (x1 : Int32) (x2 : Int32) (x3 : Int32) (x4 : Int32) (S : St) (H : Heap) (locs : List Loc) (ls : Array Slot), va_P D clC (mw cA cP ob ad S) H → va_D A (mw cA cP ob ad S) → va_S A s.heap H locs → lv_has ls 5 [(0, .ref (ob 0)), (1, .int x1), (2, .int x2), (3, .int x3), (4, .int x4)] → f_Md_look_15   n x1 x2 x3 x4 S = some res → W p l e rm_Md_look s m args below meth c H locs 0 0 Q (F0 m 15 ls []) := by
  obtain ⟨hx, hb, hml, hown, hts, hK, hA, hN, hZ⟩ := id C0
  intro n
  induction n with
  | zero =>
    intro x1 x2 x3 x4 S H locs ls hP hD hS hl hf
    cases hf
  | succ n ih =>
    intro x1 x2 x3 x4 S H locs ls hP hD hS hl hf
    rw [f_Md_look_15] at hf
    try dsimp only at hf
    refine lv_iload hx hb d_Md_look_15 (lv_at hl 4 rfl) ?_
    refine lv_aload_n hx hb d_Md_look_17 rfl (lv_at hl 0 rfl) ?_
    refine va_get (D := D) (ci := 7) (v := .int (gi S 2)) (C := R_Md) (T := F_Md) (N := 26) hx hb hts (fun w h => List.mem_cons_of_mem _ (in_Md w h)) hown hK hP 0 rfl rfl 2 (by decide) (hts _ (List.mem_cons_of_mem _ wd_824)) (fun _ h9 => h9) rfl d_Md_look_18 ?_
    refine lv_icmp_ge (tgt := 60) hx hb d_Md_look_21 (by decide) (fun c_1 => ?_) (fun c_1 => ?_)
    · rw [if_pos c_1] at hf
      refine lv_iload_n hx hb d_Md_look_60 rfl (lv_at hl 3 rfl) ?_
      refine lv_if_ge (tgt := 65) hx hb d_Md_look_61 (by decide) (fun c_2 => ?_) (fun c_2 => ?_)
      · rw [if_pos c_2] at hf
        refine lv_aload_n hx hb d_Md_look_65 rfl (lv_at hl 0 rfl) ?_
        refine lv_iload_n hx hb d_Md_look_66 rfl (lv_at hl 1 rfl) ?_
        refine lv_iload_n hx hb d_Md_look_67 rfl (lv_at hl 2 rfl) ?_
        refine lv_iload_n hx hb d_Md_look_68 rfl (lv_at hl 3 rfl) ?_
        obtain ⟨q_3, hq_3, hf⟩ := bd_some hf
        refine kc_v (va_runV (As := [.int x1, .int x2, .int x3]) (rest := []) ⟨hx, hb, hml, hown, hts⟩ (c_Md_findCell l D cA cP ob ad x1 x2 x3  S hq_3 H.size) ⟨callB_of 3 hts (gd_Md_findCell) rfl rfl rfl (hts _ (List.mem_cons_of_mem _ wd_72)) (hts _ (List.mem_cons_of_mem _ wd_1004)) dd_Md_findCell ⟨Nat.le_of_ble_eq_true rfl, Nat.le_of_ble_eq_true rfl⟩, (hts _ (List.mem_cons_of_mem _ wd_1006)), (hts _ (List.mem_cons_of_mem _ wd_51))⟩ (kpV hK hP hD hN hZ hS 7 0 rfl rfl) rfl rfl hl.1 rfl (lv_room (Nat.le_of_ble_eq_true rfl)) d_Md_look_69 ⟨Nat.le_of_ble_eq_true rfl, Nat.le_of_ble_eq_true rfl⟩) hP hD hS hA (fun w H locs hw hP hD hS => ?_)
        obtain rfl := hw
        refine lv_iconst (v := 0) hx hb d_Md_look_72 (by decide) ?_
        refine lv_istore (lv' := [(4, .int 0), (0, .ref (ob 0)), (1, .int x1), (2, .int x2), (3, .int x3)]) hx hb d_Md_look_73 hl (by decide) rfl (fun ls hl => ?_)
        exact w_Md_look_75 C0 hret    FU 0 q_3 H locs ls hP hD hS (lv_sub hl [1, 0] rfl) hf
      · rw [if_neg c_2] at hf
        cases hf
        exact hret _ _ _ _ _ rfl hP hD hS d_Md_look_64
    · rw [if_neg c_1] at hf
      refine lv_aload_n hx hb d_Md_look_24 rfl (lv_at hl 0 rfl) ?_
      refine lv_iload_n hx hb d_Md_look_25 rfl (lv_at hl 1 rfl) ?_
      refine lv_iload_n hx hb d_Md_look_26 rfl (lv_at hl 2 rfl) ?_
      refine lv_iload hx hb d_Md_look_27 (lv_at hl 4 rfl) ?_
      obtain ⟨q_4, hq_4, hf⟩ := bd_some hf
      refine kc_i (va_runV (As := [.int x1, .int x2, .int x4]) (rest := []) ⟨hx, hb, hml, hown, hts⟩ (c_Md_sideOf l D cA cP ob ad x1 x2 x4  S hq_4 H.size) ⟨callB_of 3 hts (gd_Md_sideOf) rfl rfl rfl (hts _ (List.mem_cons_of_mem _ wd_72)) (hts _ (List.mem_cons_of_mem _ wd_961)) dd_Md_sideOf ⟨Nat.le_of_ble_eq_true rfl, Nat.le_of_ble_eq_true rfl⟩, (hts _ (List.mem_cons_of_mem _ wd_963)), (hts _ (List.mem_cons_of_mem _ wd_42))⟩ (kpV hK hP hD hN hZ hS 7 0 rfl rfl) rfl rfl hl.1 rfl (lv_room (Nat.le_of_ble_eq_true rfl)) d_Md_look_29 ⟨Nat.le_of_ble_eq_true rfl, Nat.le_of_ble_eq_true rfl⟩) hP hD hS hA (fun r w H locs hw hP hD hS => ?_)
      obtain ⟨rfl, rfl⟩ := hw
      refine lv_if_le (tgt := 54) hx hb d_Md_look_32 (by decide) (fun c_5 => ?_) (fun c_5 => ?_)
      · rw [if_pos c_5] at hf
        exact w_Md_look_54 C0 hret   (f_Md_look_15  n) ih x1 x2 x3 x4 q_4.2 H locs ls hP hD hS (lv_sub hl [0, 1, 2, 3, 4] rfl) hf
      · rw [if_neg c_5] at hf
        refine lv_iload_n hx hb d_Md_look_35 rfl (lv_at hl 3 rfl) ?_
        refine lv_if_lt (tgt := 51) hx hb d_Md_look_36 (by decide) (fun c_6 => ?_) (fun c_6 => ?_)
        · rw [if_pos c_6] at hf
          exact w_Md_look_51 C0 hret   (f_Md_look_15  n) ih x1 x2 x4 q_4.2 H locs ls hP hD hS (lv_sub hl [0, 1, 2, 4] rfl) hf
        · rw [if_neg c_6] at hf
          refine lv_aload_n hx hb d_Md_look_39 rfl (lv_at hl 0 rfl) ?_
          refine lv_iload_n hx hb d_Md_look_40 rfl (lv_at hl 1 rfl) ?_
          refine lv_iload_n hx hb d_Md_look_41 rfl (lv_at hl 2 rfl) ?_
          refine lv_iload_n hx hb d_Md_look_42 rfl (lv_at hl 3 rfl) ?_
          refine lv_iload hx hb d_Md_look_43 (lv_at hl 4 rfl) ?_
          obtain ⟨q_7, hq_7, hf⟩ := bd_some hf
          refine kc_i (va_runV (As := [.int x1, .int x2, .int x3, .int x4]) (rest := []) ⟨hx, hb, hml, hown, hts⟩ (c_Md_inCircle l D cA cP ob ad x1 x2 x3 x4  q_4.2 hq_7 H.size) ⟨callB_of 4 hts (gd_Md_inCircle) rfl rfl rfl (hts _ (List.mem_cons_of_mem _ wd_72)) (hts _ (List.mem_cons_of_mem _ wd_987)) dd_Md_inCircle ⟨Nat.le_of_ble_eq_true rfl, Nat.le_of_ble_eq_true rfl⟩, (hts _ (List.mem_cons_of_mem _ wd_989)), (hts _ (List.mem_cons_of_mem _ wd_47))⟩ (kpV hK hP hD hN hZ hS 7 0 rfl rfl) rfl rfl hl.1 rfl (lv_room (Nat.le_of_ble_eq_true rfl)) d_Md_look_45 ⟨Nat.le_of_ble_eq_true rfl, Nat.le_of_ble_eq_true rfl⟩) hP hD hS hA (fun r w H locs hw hP hD hS => ?_)
          obtain ⟨rfl, rfl⟩ := hw
          refine lv_if_le (tgt := 54) hx hb d_Md_look_48 (by decide) (fun c_8 => ?_) (fun c_8 => ?_)
          · rw [if_pos c_8] at hf
            exact w_Md_look_54 C0 hret   (f_Md_look_15  n) ih x1 x2 x3 x4 q_7.2 H locs ls hP hD hS (lv_sub hl [0, 1, 2, 3, 4] rfl) hf
          · rw [if_neg c_8] at hf
            exact w_Md_look_51 C0 hret   (f_Md_look_15  n) ih x1 x2 x4 q_7.2 H locs ls hP hD hS (lv_sub hl [0, 1, 2, 4] rfl) hf
def f_Md_look_0   (x1 : Int32) (x2 : Int32) (S : St) : Option St :=
  bd (f_Md_isSide x1 x2 S) (fun q_1 => (if q_1.1 = 0 then
    f_Md_look_15   FU x1 x2 (-1) 0 q_1.2
    else
    some q_1.2))
set_option maxHeartbeats 4000000 in
set_option maxRecDepth 100000 in
theorem w_Md_look_0 (C0 : CX p s m args c b_Md_look 5 R_Md w_Md_look D clC cA cP A) {res : St} (hret : RTv p l e rm_Md_look s m args below meth c Q D clC A b_Md_look 0 0 (fun w => w = mw cA cP ob ad res))    : ∀ (x1 : Int32) (x2 : Int32) (S : St) (H : Heap) (locs : List Loc) (ls : Array Slot), va_P D clC (mw cA cP ob ad S) H → va_D A (mw cA cP ob ad S) → va_S A s.heap H locs → lv_has ls 5 [(0, .ref (ob 0)), (1, .int x1), (2, .int x2)] → f_Md_look_0   x1 x2 S = some res → W p l e rm_Md_look s m args below meth c H locs 0 0 Q (F0 m 0 ls []) := by
  obtain ⟨hx, hb, hml, hown, hts, hK, hA, hN, hZ⟩ := id C0
  intro x1 x2 S H locs ls hP hD hS hl hf
  rw [f_Md_look_0] at hf
  refine lv_aload_n hx hb d_Md_look_0 rfl (lv_at hl 0 rfl) ?_
  refine lv_iload_n hx hb d_Md_look_1 rfl (lv_at hl 1 rfl) ?_
  refine lv_iload_n hx hb d_Md_look_2 rfl (lv_at hl 2 rfl) ?_
  obtain ⟨q_1, hq_1, hf⟩ := bd_some hf
  refine kc_i (va_runV (As := [.int x1, .int x2]) (rest := []) ⟨hx, hb, hml, hown, hts⟩ (c_Md_isSide l D cA cP ob ad x1 x2  S hq_1 H.size) ⟨callB_of 2 hts (gd_Md_isSide) rfl rfl rfl (hts _ (List.mem_cons_of_mem _ wd_72)) (hts _ (List.mem_cons_of_mem _ wd_983)) dd_Md_isSide ⟨Nat.le_of_ble_eq_true rfl, Nat.le_of_ble_eq_true rfl⟩, (hts _ (List.mem_cons_of_mem _ wd_985)), (hts _ (List.mem_cons_of_mem _ wd_46))⟩ (kpV hK hP hD hN hZ hS 7 0 rfl rfl) rfl rfl hl.1 rfl (lv_room (Nat.le_of_ble_eq_true rfl)) d_Md_look_3 ⟨Nat.le_of_ble_eq_true rfl, Nat.le_of_ble_eq_true rfl⟩) hP hD hS hA (fun r w H locs hw hP hD hS => ?_)
  obtain ⟨rfl, rfl⟩ := hw
  refine lv_if_eq (tgt := 10) hx hb d_Md_look_6 (by decide) (fun c_2 => ?_) (fun c_2 => ?_)
  · rw [if_pos c_2] at hf
    refine lv_iconst (v := (-1)) hx hb d_Md_look_10 (by decide) ?_
    refine lv_istore_n (lv' := [(3, .int (-1)), (0, .ref (ob 0)), (1, .int x1), (2, .int x2)]) hx hb d_Md_look_11 rfl hl (by decide) rfl (fun ls hl => ?_)
    refine lv_iconst (v := 0) hx hb d_Md_look_12 (by decide) ?_
    refine lv_istore (lv' := [(4, .int 0), (3, .int (-1)), (0, .ref (ob 0)), (1, .int x1), (2, .int x2)]) hx hb d_Md_look_13 hl (by decide) rfl (fun ls hl => ?_)
    exact w_Md_look_15 C0 hret    FU x1 x2 (-1) 0 q_1.2 H locs ls hP hD hS (lv_sub hl [2, 3, 4, 1, 0] rfl) hf
  · rw [if_neg c_2] at hf
    cases hf
    exact hret _ _ _ _ _ rfl hP hD hS d_Md_look_9
def f_Md_look (x1 : Int32) (x2 : Int32) (S : St) : Option St := f_Md_look_0  x1 x2 S
theorem c_Md_look (l : Launch) (D : va_G) (cA cP : ClassId) (ob : Nat → Nat) (ad : Nat → Nat → Nat) (x1 : Int32) (x2 : Int32)  (S : St) {res : St} (hf : f_Md_look x1 x2 S = some res) : CTv l y_Md_look w_Md_look rm_Md_look 0 0 D clC (TY cA cP) [.ref (ob 0), .int x1, .int x2] (mw cA cP ob ad S) (fun w => w = mw cA cP ob ad res) :=
  mk_v (cc := b_Md_look) (maxL := 5) (own := R_Md) (by decide) rfl rfl (Nat.le_of_ble_eq_true rfl) (fun p e s m below meth c A Q C0 hret ls hl hP hD hS => w_Md_look_0 C0 hret   x1 x2 S _ _ ls hP hD hS (lv_sub hl [0, 1, 2] rfl) hf)
def f_Md_isBefore_0   (x1 : Int32) (x2 : Int32) (S : St) : Option (Int32 × St) :=
  as_ (inb x1 (gn S 3)) (as_ (inb x2 (gn S 3)) ((if (ga S 3 (Int32.toNatClampNeg x1)) = (ga S 3 (Int32.toNatClampNeg x2)) then
    as_ (inb x1 (gn S 4)) (as_ (inb x2 (gn S 4)) ((if (ga S 4 (Int32.toNatClampNeg x1)) = (ga S 4 (Int32.toNatClampNeg x2)) then
      as_ (inb x1 (gn S 5)) (as_ (inb x2 (gn S 5)) ((if (ga S 5 (Int32.toNatClampNeg x2)) ≤ (ga S 5 (Int32.toNatClampNeg x1)) then
        some (0, S)
        else
        some (1, S))))
      else
      as_ (inb x1 (gn S 4)) (as_ (inb x2 (gn S 4)) ((if (ga S 4 (Int32.toNatClampNeg x2)) ≤ (ga S 4 (Int32.toNatClampNeg x1)) then
        some (0, S)
        else
        some (1, S)))))))
    else
    as_ (inb x1 (gn S 3)) (as_ (inb x2 (gn S 3)) ((if (ga S 3 (Int32.toNatClampNeg x2)) ≤ (ga S 3 (Int32.toNatClampNeg x1)) then
      some (0, S)
      else
      some (1, S)))))))
set_option maxHeartbeats 4000000 in
set_option maxRecDepth 100000 in
theorem w_Md_isBefore_0 (C0 : CX p s m args c b_Md_isBefore 3 R_Md w_Md_isBefore D clC cA cP A) {res : (Int32 × St)} (hret : RTz p l e rm_Md_isBefore s m args below meth c Q D clC A b_Md_isBefore 0 0 (fun r w => r = res.1 ∧ w = mw cA cP ob ad res.2))    : ∀ (x1 : Int32) (x2 : Int32) (S : St) (H : Heap) (locs : List Loc) (ls : Array Slot), va_P D clC (mw cA cP ob ad S) H → va_D A (mw cA cP ob ad S) → va_S A s.heap H locs → lv_has ls 3 [(0, .ref (ob 0)), (1, .int x1), (2, .int x2)] → f_Md_isBefore_0   x1 x2 S = some res → W p l e rm_Md_isBefore s m args below meth c H locs 0 0 Q (F0 m 0 ls []) := by
  obtain ⟨hx, hb, hml, hown, hts, hK, hA, hN, hZ⟩ := id C0
  intro x1 x2 S H locs ls hP hD hS hl hf
  rw [f_Md_isBefore_0] at hf
  refine lv_aload_n hx hb d_Md_isBefore_0 rfl (lv_at hl 0 rfl) ?_
  refine va_get (D := D) (ci := 7) (v := .ref (ob 3)) (C := R_Md) (T := F_Md) (N := 26) hx hb hts (fun w h => List.mem_cons_of_mem _ (in_Md w h)) hown hK hP 0 rfl rfl 7 (by decide) (hts _ (List.mem_cons_of_mem _ wd_829)) (fun _ h9 => h9) rfl d_Md_isBefore_1 ?_
  refine lv_iload_n hx hb d_Md_isBefore_4 rfl (lv_at hl 1 rfl) ?_
  obtain ⟨hi_1, hf⟩ := as_some hf
  refine va_iald hx hb hK hP 3 0 rfl rfl (inb_in hi_1) d_Md_isBefore_5 ?_
  refine lv_aload_n hx hb d_Md_isBefore_6 rfl (lv_at hl 0 rfl) ?_
  refine va_get (D := D) (ci := 7) (v := .ref (ob 3)) (C := R_Md) (T := F_Md) (N := 26) hx hb hts (fun w h => List.mem_cons_of_mem _ (in_Md w h)) hown hK hP 0 rfl rfl 7 (by decide) (hts _ (List.mem_cons_of_mem _ wd_829)) (fun _ h9 => h9) rfl d_Md_isBefore_7 ?_
  refine lv_iload_n hx hb d_Md_isBefore_10 rfl (lv_at hl 2 rfl) ?_
  obtain ⟨hi_2, hf⟩ := as_some hf
  refine va_iald hx hb hK hP 3 0 rfl rfl (inb_in hi_2) d_Md_isBefore_11 ?_
  refine lv_icmp_eq (tgt := 38) hx hb d_Md_isBefore_12 (by decide) (fun c_3 => ?_) (fun c_3 => ?_)
  · rw [if_pos c_3] at hf
    refine lv_aload_n hx hb d_Md_isBefore_38 rfl (lv_at hl 0 rfl) ?_
    refine va_get (D := D) (ci := 7) (v := .ref (ob 4)) (C := R_Md) (T := F_Md) (N := 26) hx hb hts (fun w h => List.mem_cons_of_mem _ (in_Md w h)) hown hK hP 0 rfl rfl 8 (by decide) (hts _ (List.mem_cons_of_mem _ wd_830)) (fun _ h9 => h9) rfl d_Md_isBefore_39 ?_
    refine lv_iload_n hx hb d_Md_isBefore_42 rfl (lv_at hl 1 rfl) ?_
    obtain ⟨hi_4, hf⟩ := as_some hf
    refine va_iald hx hb hK hP 4 0 rfl rfl (inb_in hi_4) d_Md_isBefore_43 ?_
    refine lv_aload_n hx hb d_Md_isBefore_44 rfl (lv_at hl 0 rfl) ?_
    refine va_get (D := D) (ci := 7) (v := .ref (ob 4)) (C := R_Md) (T := F_Md) (N := 26) hx hb hts (fun w h => List.mem_cons_of_mem _ (in_Md w h)) hown hK hP 0 rfl rfl 8 (by decide) (hts _ (List.mem_cons_of_mem _ wd_830)) (fun _ h9 => h9) rfl d_Md_isBefore_45 ?_
    refine lv_iload_n hx hb d_Md_isBefore_48 rfl (lv_at hl 2 rfl) ?_
    obtain ⟨hi_5, hf⟩ := as_some hf
    refine va_iald hx hb hK hP 4 0 rfl rfl (inb_in hi_5) d_Md_isBefore_49 ?_
    refine lv_icmp_eq (tgt := 76) hx hb d_Md_isBefore_50 (by decide) (fun c_6 => ?_) (fun c_6 => ?_)
    · rw [if_pos c_6] at hf
      refine lv_aload_n hx hb d_Md_isBefore_76 rfl (lv_at hl 0 rfl) ?_
      refine va_get (D := D) (ci := 7) (v := .ref (ob 5)) (C := R_Md) (T := F_Md) (N := 26) hx hb hts (fun w h => List.mem_cons_of_mem _ (in_Md w h)) hown hK hP 0 rfl rfl 9 (by decide) (hts _ (List.mem_cons_of_mem _ wd_831)) (fun _ h9 => h9) rfl d_Md_isBefore_77 ?_
      refine lv_iload_n hx hb d_Md_isBefore_80 rfl (lv_at hl 1 rfl) ?_
      obtain ⟨hi_7, hf⟩ := as_some hf
      refine va_iald hx hb hK hP 5 0 rfl rfl (inb_in hi_7) d_Md_isBefore_81 ?_
      refine lv_aload_n hx hb d_Md_isBefore_82 rfl (lv_at hl 0 rfl) ?_
      refine va_get (D := D) (ci := 7) (v := .ref (ob 5)) (C := R_Md) (T := F_Md) (N := 26) hx hb hts (fun w h => List.mem_cons_of_mem _ (in_Md w h)) hown hK hP 0 rfl rfl 9 (by decide) (hts _ (List.mem_cons_of_mem _ wd_831)) (fun _ h9 => h9) rfl d_Md_isBefore_83 ?_
      refine lv_iload_n hx hb d_Md_isBefore_86 rfl (lv_at hl 2 rfl) ?_
      obtain ⟨hi_8, hf⟩ := as_some hf
      refine va_iald hx hb hK hP 5 0 rfl rfl (inb_in hi_8) d_Md_isBefore_87 ?_
      refine lv_icmp_ge (tgt := 95) hx hb d_Md_isBefore_88 (by decide) (fun c_9 => ?_) (fun c_9 => ?_)
      · rw [if_pos c_9] at hf
        refine lv_iconst (v := 0) hx hb d_Md_isBefore_95 (by decide) ?_
        cases hf
        exact hret _ _ _ _ _ _ ⟨rfl, rfl⟩ rfl hP hD hS d_Md_isBefore_96
      · rw [if_neg c_9] at hf
        refine lv_iconst (v := 1) hx hb d_Md_isBefore_91 (by decide) ?_
        refine lv_goto (tgt := 96) hx hb d_Md_isBefore_92 (by decide) ?_
        cases hf
        exact hret _ _ _ _ _ _ ⟨rfl, rfl⟩ rfl hP hD hS d_Md_isBefore_96
    · rw [if_neg c_6] at hf
      refine lv_aload_n hx hb d_Md_isBefore_53 rfl (lv_at hl 0 rfl) ?_
      refine va_get (D := D) (ci := 7) (v := .ref (ob 4)) (C := R_Md) (T := F_Md) (N := 26) hx hb hts (fun w h => List.mem_cons_of_mem _ (in_Md w h)) hown hK hP 0 rfl rfl 8 (by decide) (hts _ (List.mem_cons_of_mem _ wd_830)) (fun _ h9 => h9) rfl d_Md_isBefore_54 ?_
      refine lv_iload_n hx hb d_Md_isBefore_57 rfl (lv_at hl 1 rfl) ?_
      obtain ⟨hi_10, hf⟩ := as_some hf
      refine va_iald hx hb hK hP 4 0 rfl rfl (inb_in hi_10) d_Md_isBefore_58 ?_
      refine lv_aload_n hx hb d_Md_isBefore_59 rfl (lv_at hl 0 rfl) ?_
      refine va_get (D := D) (ci := 7) (v := .ref (ob 4)) (C := R_Md) (T := F_Md) (N := 26) hx hb hts (fun w h => List.mem_cons_of_mem _ (in_Md w h)) hown hK hP 0 rfl rfl 8 (by decide) (hts _ (List.mem_cons_of_mem _ wd_830)) (fun _ h9 => h9) rfl d_Md_isBefore_60 ?_
      refine lv_iload_n hx hb d_Md_isBefore_63 rfl (lv_at hl 2 rfl) ?_
      obtain ⟨hi_11, hf⟩ := as_some hf
      refine va_iald hx hb hK hP 4 0 rfl rfl (inb_in hi_11) d_Md_isBefore_64 ?_
      refine lv_icmp_ge (tgt := 72) hx hb d_Md_isBefore_65 (by decide) (fun c_12 => ?_) (fun c_12 => ?_)
      · rw [if_pos c_12] at hf
        refine lv_iconst (v := 0) hx hb d_Md_isBefore_72 (by decide) ?_
        refine lv_goto (tgt := 96) hx hb d_Md_isBefore_73 (by decide) ?_
        cases hf
        exact hret _ _ _ _ _ _ ⟨rfl, rfl⟩ rfl hP hD hS d_Md_isBefore_96
      · rw [if_neg c_12] at hf
        refine lv_iconst (v := 1) hx hb d_Md_isBefore_68 (by decide) ?_
        refine lv_goto (tgt := 96) hx hb d_Md_isBefore_69 (by decide) ?_
        cases hf
        exact hret _ _ _ _ _ _ ⟨rfl, rfl⟩ rfl hP hD hS d_Md_isBefore_96
  · rw [if_neg c_3] at hf
    refine lv_aload_n hx hb d_Md_isBefore_15 rfl (lv_at hl 0 rfl) ?_
    refine va_get (D := D) (ci := 7) (v := .ref (ob 3)) (C := R_Md) (T := F_Md) (N := 26) hx hb hts (fun w h => List.mem_cons_of_mem _ (in_Md w h)) hown hK hP 0 rfl rfl 7 (by decide) (hts _ (List.mem_cons_of_mem _ wd_829)) (fun _ h9 => h9) rfl d_Md_isBefore_16 ?_
    refine lv_iload_n hx hb d_Md_isBefore_19 rfl (lv_at hl 1 rfl) ?_
    obtain ⟨hi_13, hf⟩ := as_some hf
    refine va_iald hx hb hK hP 3 0 rfl rfl (inb_in hi_13) d_Md_isBefore_20 ?_
    refine lv_aload_n hx hb d_Md_isBefore_21 rfl (lv_at hl 0 rfl) ?_
    refine va_get (D := D) (ci := 7) (v := .ref (ob 3)) (C := R_Md) (T := F_Md) (N := 26) hx hb hts (fun w h => List.mem_cons_of_mem _ (in_Md w h)) hown hK hP 0 rfl rfl 7 (by decide) (hts _ (List.mem_cons_of_mem _ wd_829)) (fun _ h9 => h9) rfl d_Md_isBefore_22 ?_
    refine lv_iload_n hx hb d_Md_isBefore_25 rfl (lv_at hl 2 rfl) ?_
    obtain ⟨hi_14, hf⟩ := as_some hf
    refine va_iald hx hb hK hP 3 0 rfl rfl (inb_in hi_14) d_Md_isBefore_26 ?_
    refine lv_icmp_ge (tgt := 34) hx hb d_Md_isBefore_27 (by decide) (fun c_15 => ?_) (fun c_15 => ?_)
    · rw [if_pos c_15] at hf
      refine lv_iconst (v := 0) hx hb d_Md_isBefore_34 (by decide) ?_
      refine lv_goto (tgt := 96) hx hb d_Md_isBefore_35 (by decide) ?_
      cases hf
      exact hret _ _ _ _ _ _ ⟨rfl, rfl⟩ rfl hP hD hS d_Md_isBefore_96
    · rw [if_neg c_15] at hf
      refine lv_iconst (v := 1) hx hb d_Md_isBefore_30 (by decide) ?_
      refine lv_goto (tgt := 96) hx hb d_Md_isBefore_31 (by decide) ?_
      cases hf
      exact hret _ _ _ _ _ _ ⟨rfl, rfl⟩ rfl hP hD hS d_Md_isBefore_96
def f_Md_isBefore (x1 : Int32) (x2 : Int32) (S : St) : Option (Int32 × St) := f_Md_isBefore_0  x1 x2 S
theorem c_Md_isBefore (l : Launch) (D : va_G) (cA cP : ClassId) (ob : Nat → Nat) (ad : Nat → Nat → Nat) (x1 : Int32) (x2 : Int32)  (S : St) {res : (Int32 × St)} (hf : f_Md_isBefore x1 x2 S = some res) : CTi l y_Md_isBefore w_Md_isBefore rm_Md_isBefore 0 0 D clC (TY cA cP) [.ref (ob 0), .int x1, .int x2] (mw cA cP ob ad S) (fun r w => r = res.1 ∧ w = mw cA cP ob ad res.2) :=
  mk_z (cc := b_Md_isBefore) (maxL := 3) (own := R_Md) (by decide) rfl rfl (Nat.le_of_ble_eq_true rfl) (fun p e s m below meth c A Q C0 hret ls hl hP hD hS => w_Md_isBefore_0 C0 hret   x1 x2 S _ _ ls hP hD hS (lv_sub hl [0, 1, 2] rfl) hf)
end
