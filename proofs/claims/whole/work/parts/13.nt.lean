section
variable {p : Program} {l : Launch} {e : Env} {s : State} {m : MethodId} {args : Array Value} {below : List Frame} {meth : Method} {c : Code} {Q : State → Prop} {D : va_G} {cA cP : ClassId} {ob : Nat → Nat} {ad : Nat → Nat → Nat} {A : Nat → Prop}
def f_Nt_dig_189  (k27 : Int32 → Int32 → St → Option St) (k46 : Int32 → Int32 → Int32 → St → Option St) (x2 : Int32) (x3 : Int32) (x4 : Int32) (S : St) : Option St :=
  bn (x4 + 1) (fun x4_1 => k46 x2 x3 x4_1 S)
set_option maxHeartbeats 4000000 in
set_option maxRecDepth 100000 in
theorem w_Nt_dig_189 (C0 : CX p s m args c b_Nt_dig 8 R_Nt w_Nt_dig D clC cA cP A) {res : St} (hret : RTv p l e rm_Nt_dig s m args below meth c Q D clC A b_Nt_dig 0 0 (fun w => w = cw cA cP ob ad res))   (k27 : Int32 → Int32 → St → Option St) (hk27 : ∀ (x2 : Int32) (x3 : Int32) (S : St) (H : Heap) (locs : List Loc) (ls : Array Slot), va_P D clC (cw cA cP ob ad S) H → va_D A (cw cA cP ob ad S) → va_S A s.heap H locs → lv_has ls 8 [(0, .ref (ob 3)), (2, .int x2), (3, .int x3)] → k27 x2 x3 S = some res → W p l e rm_Nt_dig s m args below meth c H locs 0 0 Q (F0 m 27 ls [])) (k46 : Int32 → Int32 → Int32 → St → Option St) (hk46 : ∀ (x2 : Int32) (x3 : Int32) (x4 : Int32) (S : St) (H : Heap) (locs : List Loc) (ls : Array Slot), va_P D clC (cw cA cP ob ad S) H → va_D A (cw cA cP ob ad S) → va_S A s.heap H locs → lv_has ls 8 [(0, .ref (ob 3)), (2, .int x2), (3, .int x3), (4, .int x4)] → k46 x2 x3 x4 S = some res → W p l e rm_Nt_dig s m args below meth c H locs 0 0 Q (F0 m 46 ls [])) : ∀ (x2 : Int32) (x3 : Int32) (x4 : Int32) (S : St) (H : Heap) (locs : List Loc) (ls : Array Slot), va_P D clC (cw cA cP ob ad S) H → va_D A (cw cA cP ob ad S) → va_S A s.heap H locs → lv_has ls 8 [(0, .ref (ob 3)), (2, .int x2), (3, .int x3), (4, .int x4)] → f_Nt_dig_189  k27 k46 x2 x3 x4 S = some res → W p l e rm_Nt_dig s m args below meth c H locs 0 0 Q (F0 m 189 ls []) := by
  obtain ⟨hx, hb, hml, hown, hts, hK, hA, hN, hZ⟩ := id C0
  intro x2 x3 x4 S H locs ls hP hD hS hl hf
  rw [f_Nt_dig_189] at hf
  obtain ⟨x4_1, ex4_1, hf⟩ := bn_some hf
  refine lv_iinc (v := x4_1) (lv' := [(4, .int x4_1), (0, .ref (ob 3)), (2, .int x2), (3, .int x3)]) hx hb d_Nt_dig_189 hl (k := 3) rfl (by rw [ex4_1]; rfl) (by decide) rfl (fun ls hl => ?_)
  refine lv_goto (tgt := 46) hx hb d_Nt_dig_192 (by decide) ?_
  exact hk46 x2 x3 x4_1 S H locs ls hP hD hS (lv_sub hl [1, 2, 3, 0] rfl) hf
def f_Nt_dig_148  (k27 : Int32 → Int32 → St → Option St) (k46 : Int32 → Int32 → Int32 → St → Option St) (x2 : Int32) (x3 : Int32) (x4 : Int32) (x5 : Int32) (t0 : Int32) (S : St) : Option St :=
  (if t0 = 0 then
    bd (f_Rw_put 13 (gi S 9) x5 S) (fun q_2 => bn (seti q_2 9 ((gi q_2 9) + 1)) (fun S_3 => f_Nt_dig_189  k27 k46 x2 x3 x4 S_3))
    else
    bd (f_Nt_takeAway (x5 / 3) S) (fun q_4 => f_Nt_dig_189  k27 k46 x2 x3 x4 q_4))
set_option maxHeartbeats 4000000 in
set_option maxRecDepth 100000 in
theorem w_Nt_dig_148 (C0 : CX p s m args c b_Nt_dig 8 R_Nt w_Nt_dig D clC cA cP A) {res : St} (hret : RTv p l e rm_Nt_dig s m args below meth c Q D clC A b_Nt_dig 0 0 (fun w => w = cw cA cP ob ad res))   (k27 : Int32 → Int32 → St → Option St) (hk27 : ∀ (x2 : Int32) (x3 : Int32) (S : St) (H : Heap) (locs : List Loc) (ls : Array Slot), va_P D clC (cw cA cP ob ad S) H → va_D A (cw cA cP ob ad S) → va_S A s.heap H locs → lv_has ls 8 [(0, .ref (ob 3)), (2, .int x2), (3, .int x3)] → k27 x2 x3 S = some res → W p l e rm_Nt_dig s m args below meth c H locs 0 0 Q (F0 m 27 ls [])) (k46 : Int32 → Int32 → Int32 → St → Option St) (hk46 : ∀ (x2 : Int32) (x3 : Int32) (x4 : Int32) (S : St) (H : Heap) (locs : List Loc) (ls : Array Slot), va_P D clC (cw cA cP ob ad S) H → va_D A (cw cA cP ob ad S) → va_S A s.heap H locs → lv_has ls 8 [(0, .ref (ob 3)), (2, .int x2), (3, .int x3), (4, .int x4)] → k46 x2 x3 x4 S = some res → W p l e rm_Nt_dig s m args below meth c H locs 0 0 Q (F0 m 46 ls [])) : ∀ (x2 : Int32) (x3 : Int32) (x4 : Int32) (x5 : Int32) (t0 : Int32) (S : St) (H : Heap) (locs : List Loc) (ls : Array Slot), va_P D clC (cw cA cP ob ad S) H → va_D A (cw cA cP ob ad S) → va_S A s.heap H locs → lv_has ls 8 [(0, .ref (ob 3)), (2, .int x2), (3, .int x3), (4, .int x4), (5, .int x5)] → f_Nt_dig_148  k27 k46 x2 x3 x4 x5 t0 S = some res → W p l e rm_Nt_dig s m args below meth c H locs 0 0 Q (F0 m 148 ls [.int t0]) := by
  obtain ⟨hx, hb, hml, hown, hts, hK, hA, hN, hZ⟩ := id C0
  intro x2 x3 x4 x5 t0 S H locs ls hP hD hS hl hf
  rw [f_Nt_dig_148] at hf
  refine lv_istore (lv' := [(7, .int t0), (0, .ref (ob 3)), (2, .int x2), (3, .int x3), (4, .int x4), (5, .int x5)]) hx hb d_Nt_dig_148 hl (by decide) rfl (fun ls hl => ?_)
  refine lv_iload hx hb d_Nt_dig_150 (lv_at hl 0 rfl) ?_
  refine lv_if_eq (tgt := 166) hx hb d_Nt_dig_152 (by decide) (fun c_1 => ?_) (fun c_1 => ?_)
  · rw [if_pos c_1] at hf
    refine lv_aload_n hx hb d_Nt_dig_166 rfl (lv_at hl 1 rfl) ?_
    refine va_get (D := D) (ci := 3) (v := .ref (ob 13)) (C := R_Nt) (T := F_Nt) (N := 13) hx hb hts (fun w h => List.mem_cons_of_mem _ (in_Nt w h)) hown hK hP 3 rfl rfl 7 (by decide) (hts _ (List.mem_cons_of_mem _ wd_165)) (fun _ h9 => h9) rfl d_Nt_dig_167 ?_
    refine lv_aload_n hx hb d_Nt_dig_170 rfl (lv_at hl 1 rfl) ?_
    refine va_get (D := D) (ci := 3) (v := .int (gi S 9)) (C := R_Nt) (T := F_Nt) (N := 13) hx hb hts (fun w h => List.mem_cons_of_mem _ (in_Nt w h)) hown hK hP 3 rfl rfl 12 (by decide) (hts _ (List.mem_cons_of_mem _ wd_170)) (fun _ h9 => h9) rfl d_Nt_dig_171 ?_
    refine lv_iload hx hb d_Nt_dig_174 (lv_at hl 5 rfl) ?_
    obtain ⟨q_2, hq_2, hf⟩ := bd_some hf
    refine kc_v (va_runV (As := [.int (gi S 9), .int x5]) (rest := []) ⟨hx, hb, hml, hown, hts⟩ (c_Rw_put l D cA cP ob ad 13 (gi S 9) x5 (by decide) S hq_2 H.size) ⟨callB_of 2 hts (gd_Rw_put) rfl rfl rfl (hts _ (List.mem_cons_of_mem _ wd_67)) (hts _ (List.mem_cons_of_mem _ wd_582)) dd_Rw_put ⟨Nat.le_of_ble_eq_true rfl, Nat.le_of_ble_eq_true rfl⟩, (hts _ (List.mem_cons_of_mem _ wd_361)), (hts _ (List.mem_cons_of_mem _ wd_362))⟩ (kpV hK hP hD hN hZ hS 6 13 rfl rfl) rfl rfl hl.1 rfl (lv_room (Nat.le_of_ble_eq_true rfl)) d_Nt_dig_176 ⟨Nat.le_of_ble_eq_true rfl, Nat.le_of_ble_eq_true rfl⟩) hP hD hS hA (fun w H locs hw hP hD hS => ?_)
    obtain rfl := hw
    refine lv_aload_n hx hb d_Nt_dig_179 rfl (lv_at hl 1 rfl) ?_
    refine lv_dup hx hb d_Nt_dig_180 rfl ?_
    refine va_get (D := D) (ci := 3) (v := .int (gi q_2 9)) (C := R_Nt) (T := F_Nt) (N := 13) hx hb hts (fun w h => List.mem_cons_of_mem _ (in_Nt w h)) hown hK hP 3 rfl rfl 12 (by decide) (hts _ (List.mem_cons_of_mem _ wd_170)) (fun _ h9 => h9) rfl d_Nt_dig_181 ?_
    refine lv_iconst (v := 1) hx hb d_Nt_dig_184 (by decide) ?_
    refine lv_iadd hx hb d_Nt_dig_185 ?_
    obtain ⟨S_3, eS_3, hf⟩ := bn_some hf
    refine va_put (D := D) (ci := 3) (v := .int ((gi q_2 9) + 1)) (ty := .int) (C := R_Nt) (T := F_Nt) (N := 13) hx hb hts (fun w h => List.mem_cons_of_mem _ (in_Nt w h)) t_Nt tk_Nt nk_Nt hown hK hP hD hS 3 rfl rfl 12 (by decide) (hts _ (List.mem_cons_of_mem _ wd_170)) (fun _ h9 => h9) rfl (by decide +kernel) rfl rfl (Nat.le_of_ble_eq_true rfl) d_Nt_dig_186 (fun H locs hP hD hS => ?_)
    have hP : va_P D clC (cw cA cP ob ad S_3) H := by rw [eS_3]; exact hP
    have hD : va_D A (cw cA cP ob ad S_3) := by rw [eS_3]; exact hD
    exact w_Nt_dig_189 C0 hret   k27 hk27 k46 hk46 x2 x3 x4 S_3 H locs ls hP hD hS (lv_sub hl [1, 2, 3, 4] rfl) hf
  · rw [if_neg c_1] at hf
    refine lv_aload_n hx hb d_Nt_dig_155 rfl (lv_at hl 1 rfl) ?_
    refine lv_iload hx hb d_Nt_dig_156 (lv_at hl 5 rfl) ?_
    refine lv_iconst (v := 3) hx hb d_Nt_dig_158 (by decide) ?_
    refine lv_idiv hx hb d_Nt_dig_159 (by decide) ?_
    obtain ⟨q_4, hq_4, hf⟩ := bd_some hf
    refine kc_v (va_runV (As := [.int (x5 / 3)]) (rest := []) ⟨hx, hb, hml, hown, hts⟩ (c_Nt_takeAway l D cA cP ob ad (x5 / 3)  S hq_4 H.size) ⟨callB_of 1 hts (gd_Nt_takeAway) rfl rfl rfl (hts _ (List.mem_cons_of_mem _ wd_69)) (hts _ (List.mem_cons_of_mem _ wd_615)) dd_Nt_takeAway ⟨Nat.le_of_ble_eq_true rfl, Nat.le_of_ble_eq_true rfl⟩, (hts _ (List.mem_cons_of_mem _ wd_617)), (hts _ (List.mem_cons_of_mem _ wd_20))⟩ (kpV hK hP hD hN hZ hS 3 3 rfl rfl) rfl rfl hl.1 rfl (lv_room (Nat.le_of_ble_eq_true rfl)) d_Nt_dig_160 ⟨Nat.le_of_ble_eq_true rfl, Nat.le_of_ble_eq_true rfl⟩) hP hD hS hA (fun w H locs hw hP hD hS => ?_)
    obtain rfl := hw
    refine lv_goto (tgt := 189) hx hb d_Nt_dig_163 (by decide) ?_
    exact w_Nt_dig_189 C0 hret   k27 hk27 k46 hk46 x2 x3 x4 q_4 H locs ls hP hD hS (lv_sub hl [1, 2, 3, 4] rfl) hf
def f_Nt_dig_46  (k27 : Int32 → Int32 → St → Option St) : Nat → Int32 → Int32 → Int32 → St → Option St
  | 0 => fun _ _ _ _ => none
  | n + 1 => fun x2 x3 x4 S => (if 3 ≤ x4 then
      bn (x3 + 1) (fun x3_2 => k27 x2 x3_2 S)
      else
      bd (f_Rw_get 12 x3 S) (fun q_3 => bd (f_Rw_get 9 ((3 * q_3.1) + x4) q_3.2) (fun q_4 => bd (f_Rw_get 11 (q_4.1 / 3) q_4.2) (fun q_5 => (if q_5.1 = (gi q_5.2 5) then
        f_Nt_dig_189  k27 (f_Nt_dig_46 k27 n) x2 x3 x4 q_5.2
        else
        bd (f_Nt_ahead q_4.1 1 q_5.2) (fun q_7 => bd (f_Nt_isOuter q_4.1 q_7.2) (fun q_8 => (if q_8.1 = 0 then
          bd (f_Nt_startOf q_4.1 q_8.2) (fun q_10 => bd (f_Nt_startOf q_7.1 q_10.2) (fun q_11 => bd (f_Nt_endOf q_7.1 q_11.2) (fun q_12 => bd (f_Pt_takesAway x2 q_10.1 q_11.1 q_12.1 q_12.2) (fun q_13 => f_Nt_dig_148  k27 (f_Nt_dig_46 k27 n) x2 x3 x4 q_4.1 q_13.1 q_13.2))))
          else
          bd (f_Nt_isSeen q_4.1 x2 q_8.2) (fun q_14 => f_Nt_dig_148  k27 (f_Nt_dig_46 k27 n) x2 x3 x4 q_4.1 q_14.1 q_14.2)))))))))
set_option maxHeartbeats 4000000 in
set_option maxRecDepth 100000 in
theorem w_Nt_dig_46 (C0 : CX p s m args c b_Nt_dig 8 R_Nt w_Nt_dig D clC cA cP A) {res : St} (hret : RTv p l e rm_Nt_dig s m args below meth c Q D clC A b_Nt_dig 0 0 (fun w => w = cw cA cP ob ad res))   (k27 : Int32 → Int32 → St → Option St) (hk27 : ∀ (x2 : Int32) (x3 : Int32) (S : St) (H : Heap) (locs : List Loc) (ls : Array Slot), va_P D clC (cw cA cP ob ad S) H → va_D A (cw cA cP ob ad S) → va_S A s.heap H locs → lv_has ls 8 [(0, .ref (ob 3)), (2, .int x2), (3, .int x3)] → k27 x2 x3 S = some res → W p l e rm_Nt_dig s m args below meth c H locs 0 0 Q (F0 m 27 ls [])) : ∀ (n : Nat) (x2 : Int32) (x3 : Int32) (x4 : Int32) (S : St) (H : Heap) (locs : List Loc) (ls : Array Slot), va_P D clC (cw cA cP ob ad S) H → va_D A (cw cA cP ob ad S) → va_S A s.heap H locs → lv_has ls 8 [(0, .ref (ob 3)), (2, .int x2), (3, .int x3), (4, .int x4)] → f_Nt_dig_46  k27 n x2 x3 x4 S = some res → W p l e rm_Nt_dig s m args below meth c H locs 0 0 Q (F0 m 46 ls []) := by
  obtain ⟨hx, hb, hml, hown, hts, hK, hA, hN, hZ⟩ := id C0
  intro n
  induction n with
  | zero =>
    intro x2 x3 x4 S H locs ls hP hD hS hl hf
    cases hf
  | succ n ih =>
    intro x2 x3 x4 S H locs ls hP hD hS hl hf
    rw [f_Nt_dig_46] at hf
    try dsimp only at hf
    refine lv_iload hx hb d_Nt_dig_46 (lv_at hl 3 rfl) ?_
    refine lv_iconst (v := 3) hx hb d_Nt_dig_48 (by decide) ?_
    refine lv_icmp_ge (tgt := 195) hx hb d_Nt_dig_49 (by decide) (fun c_1 => ?_) (fun c_1 => ?_)
    · rw [if_pos c_1] at hf
      obtain ⟨x3_2, ex3_2, hf⟩ := bn_some hf
      refine lv_iinc (v := x3_2) (lv' := [(3, .int x3_2), (0, .ref (ob 3)), (2, .int x2), (4, .int x4)]) hx hb d_Nt_dig_195 hl (k := 2) rfl (by rw [ex3_2]; rfl) (by decide) rfl (fun ls hl => ?_)
      refine lv_goto (tgt := 27) hx hb d_Nt_dig_198 (by decide) ?_
      exact hk27 x2 x3_2 S H locs ls hP hD hS (lv_sub hl [1, 2, 0] rfl) hf
    · rw [if_neg c_1] at hf
      refine lv_aload_n hx hb d_Nt_dig_52 rfl (lv_at hl 0 rfl) ?_
      refine va_get (D := D) (ci := 3) (v := .ref (ob 9)) (C := R_Nt) (T := F_Nt) (N := 13) hx hb hts (fun w h => List.mem_cons_of_mem _ (in_Nt w h)) hown hK hP 3 rfl rfl 3 (by decide) (hts _ (List.mem_cons_of_mem _ wd_161)) (fun _ h9 => h9) rfl d_Nt_dig_53 ?_
      refine lv_iconst (v := 3) hx hb d_Nt_dig_56 (by decide) ?_
      refine lv_aload_n hx hb d_Nt_dig_57 rfl (lv_at hl 0 rfl) ?_
      refine va_get (D := D) (ci := 3) (v := .ref (ob 12)) (C := R_Nt) (T := F_Nt) (N := 13) hx hb hts (fun w h => List.mem_cons_of_mem _ (in_Nt w h)) hown hK hP 3 rfl rfl 6 (by decide) (hts _ (List.mem_cons_of_mem _ wd_164)) (fun _ h9 => h9) rfl d_Nt_dig_58 ?_
      refine lv_iload_n hx hb d_Nt_dig_61 rfl (lv_at hl 2 rfl) ?_
      obtain ⟨q_3, hq_3, hf⟩ := bd_some hf
      refine kc_i (va_runV (As := [.int x3]) (rest := [.int 3, .ref (ob 9)]) ⟨hx, hb, hml, hown, hts⟩ (c_Rw_get l D cA cP ob ad 12 x3 (by decide) S hq_3 H.size) ⟨callB_of 1 hts (gd_Rw_get) rfl rfl rfl (hts _ (List.mem_cons_of_mem _ wd_67)) (hts _ (List.mem_cons_of_mem _ wd_376)) dd_Rw_get ⟨Nat.le_of_ble_eq_true rfl, Nat.le_of_ble_eq_true rfl⟩, (hts _ (List.mem_cons_of_mem _ wd_340)), (hts _ (List.mem_cons_of_mem _ wd_341))⟩ (kpV hK hP hD hN hZ hS 6 12 rfl rfl) rfl rfl hl.1 rfl (lv_room (Nat.le_of_ble_eq_true rfl)) d_Nt_dig_62 ⟨Nat.le_of_ble_eq_true rfl, Nat.le_of_ble_eq_true rfl⟩) hP hD hS hA (fun r w H locs hw hP hD hS => ?_)
      obtain ⟨rfl, rfl⟩ := hw
      refine lv_imul hx hb d_Nt_dig_65 ?_
      refine lv_iload hx hb d_Nt_dig_66 (lv_at hl 3 rfl) ?_
      refine lv_iadd hx hb d_Nt_dig_68 ?_
      obtain ⟨q_4, hq_4, hf⟩ := bd_some hf
      refine kc_i (va_runV (As := [.int ((3 * q_3.1) + x4)]) (rest := []) ⟨hx, hb, hml, hown, hts⟩ (c_Rw_get l D cA cP ob ad 9 ((3 * q_3.1) + x4) (by decide) q_3.2 hq_4 H.size) ⟨callB_of 1 hts (gd_Rw_get) rfl rfl rfl (hts _ (List.mem_cons_of_mem _ wd_67)) (hts _ (List.mem_cons_of_mem _ wd_376)) dd_Rw_get ⟨Nat.le_of_ble_eq_true rfl, Nat.le_of_ble_eq_true rfl⟩, (hts _ (List.mem_cons_of_mem _ wd_340)), (hts _ (List.mem_cons_of_mem _ wd_341))⟩ (kpV hK hP hD hN hZ hS 6 9 rfl rfl) rfl rfl hl.1 rfl (lv_room (Nat.le_of_ble_eq_true rfl)) d_Nt_dig_69 ⟨Nat.le_of_ble_eq_true rfl, Nat.le_of_ble_eq_true rfl⟩) hP hD hS hA (fun r w H locs hw hP hD hS => ?_)
      obtain ⟨rfl, rfl⟩ := hw
      refine lv_istore (lv' := [(5, .int q_4.1), (0, .ref (ob 3)), (2, .int x2), (3, .int x3), (4, .int x4)]) hx hb d_Nt_dig_72 hl (by decide) rfl (fun ls hl => ?_)
      refine lv_aload_n hx hb d_Nt_dig_74 rfl (lv_at hl 1 rfl) ?_
      refine va_get (D := D) (ci := 3) (v := .ref (ob 11)) (C := R_Nt) (T := F_Nt) (N := 13) hx hb hts (fun w h => List.mem_cons_of_mem _ (in_Nt w h)) hown hK hP 3 rfl rfl 5 (by decide) (hts _ (List.mem_cons_of_mem _ wd_163)) (fun _ h9 => h9) rfl d_Nt_dig_75 ?_
      refine lv_iload hx hb d_Nt_dig_78 (lv_at hl 0 rfl) ?_
      refine lv_iconst (v := 3) hx hb d_Nt_dig_80 (by decide) ?_
      refine lv_idiv hx hb d_Nt_dig_81 (by decide) ?_
      obtain ⟨q_5, hq_5, hf⟩ := bd_some hf
      refine kc_i (va_runV (As := [.int (q_4.1 / 3)]) (rest := []) ⟨hx, hb, hml, hown, hts⟩ (c_Rw_get l D cA cP ob ad 11 (q_4.1 / 3) (by decide) q_4.2 hq_5 H.size) ⟨callB_of 1 hts (gd_Rw_get) rfl rfl rfl (hts _ (List.mem_cons_of_mem _ wd_67)) (hts _ (List.mem_cons_of_mem _ wd_376)) dd_Rw_get ⟨Nat.le_of_ble_eq_true rfl, Nat.le_of_ble_eq_true rfl⟩, (hts _ (List.mem_cons_of_mem _ wd_340)), (hts _ (List.mem_cons_of_mem _ wd_341))⟩ (kpV hK hP hD hN hZ hS 6 11 rfl rfl) rfl rfl hl.1 rfl (lv_room (Nat.le_of_ble_eq_true rfl)) d_Nt_dig_82 ⟨Nat.le_of_ble_eq_true rfl, Nat.le_of_ble_eq_true rfl⟩) hP hD hS hA (fun r w H locs hw hP hD hS => ?_)
      obtain ⟨rfl, rfl⟩ := hw
      refine lv_aload_n hx hb d_Nt_dig_85 rfl (lv_at hl 1 rfl) ?_
      refine va_get (D := D) (ci := 3) (v := .int (gi q_5.2 5)) (C := R_Nt) (T := F_Nt) (N := 13) hx hb hts (fun w h => List.mem_cons_of_mem _ (in_Nt w h)) hown hK hP 3 rfl rfl 8 (by decide) (hts _ (List.mem_cons_of_mem _ wd_166)) (fun _ h9 => h9) rfl d_Nt_dig_86 ?_
      refine lv_icmp_ne (tgt := 95) hx hb d_Nt_dig_89 (by decide) (fun c_6 => ?_) (fun c_6 => ?_)
      · rw [if_neg c_6] at hf
        refine lv_iload hx hb d_Nt_dig_95 (lv_at hl 0 rfl) ?_
        refine lv_iconst (v := 1) hx hb d_Nt_dig_97 (by decide) ?_
        obtain ⟨q_7, hq_7, hf⟩ := bd_some hf
        refine kc_i (va_runS (As := [.int q_4.1, .int 1]) (rest := []) ⟨hx, hb, hml, hown, hts⟩ (c_Nt_ahead l D cA cP ob ad q_4.1 1  q_5.2 hq_7 H.size) ⟨callB_of 2 hts (gd_Nt_ahead) rfl rfl rfl (hts _ (List.mem_cons_of_mem _ wd_69)) (hts _ (List.mem_cons_of_mem _ wd_381)) dd_Nt_ahead ⟨Nat.le_of_ble_eq_true rfl, Nat.le_of_ble_eq_true rfl⟩, (hts _ (List.mem_cons_of_mem _ wd_382))⟩ (kpS hK hP hD hN hZ hS) rfl rfl hl.1 rfl (lv_room (Nat.le_of_ble_eq_true rfl)) d_Nt_dig_98 ⟨Nat.le_of_ble_eq_true rfl, Nat.le_of_ble_eq_true rfl⟩) hP hD hS hA (fun r w H locs hw hP hD hS => ?_)
        obtain ⟨rfl, rfl⟩ := hw
        refine lv_istore (lv' := [(6, .int q_7.1), (5, .int q_4.1), (0, .ref (ob 3)), (2, .int x2), (3, .int x3), (4, .int x4)]) hx hb d_Nt_dig_101 hl (by decide) rfl (fun ls hl => ?_)
        refine lv_aload_n hx hb d_Nt_dig_103 rfl (lv_at hl 2 rfl) ?_
        refine lv_iload hx hb d_Nt_dig_104 (lv_at hl 1 rfl) ?_
        obtain ⟨q_8, hq_8, hf⟩ := bd_some hf
        refine kc_i (va_runV (As := [.int q_4.1]) (rest := []) ⟨hx, hb, hml, hown, hts⟩ (c_Nt_isOuter l D cA cP ob ad q_4.1  q_7.2 hq_8 H.size) ⟨callB_of 1 hts (gd_Nt_isOuter) rfl rfl rfl (hts _ (List.mem_cons_of_mem _ wd_69)) (hts _ (List.mem_cons_of_mem _ wd_597)) dd_Nt_isOuter ⟨Nat.le_of_ble_eq_true rfl, Nat.le_of_ble_eq_true rfl⟩, (hts _ (List.mem_cons_of_mem _ wd_598)), (hts _ (List.mem_cons_of_mem _ wd_599))⟩ (kpV hK hP hD hN hZ hS 3 3 rfl rfl) rfl rfl hl.1 rfl (lv_room (Nat.le_of_ble_eq_true rfl)) d_Nt_dig_106 ⟨Nat.le_of_ble_eq_true rfl, Nat.le_of_ble_eq_true rfl⟩) hP hD hS hA (fun r w H locs hw hP hD hS => ?_)
        obtain ⟨rfl, rfl⟩ := hw
        refine lv_if_eq (tgt := 122) hx hb d_Nt_dig_109 (by decide) (fun c_9 => ?_) (fun c_9 => ?_)
        · rw [if_pos c_9] at hf
          refine lv_aload_n hx hb d_Nt_dig_122 rfl (lv_at hl 2 rfl) ?_
          refine va_get (D := D) (ci := 3) (v := .ref (ob 1)) (C := R_Nt) (T := F_Nt) (N := 13) hx hb hts (fun w h => List.mem_cons_of_mem _ (in_Nt w h)) hown hK hP 3 rfl rfl 0 (by decide) (hts _ (List.mem_cons_of_mem _ wd_158)) (fun _ h9 => h9) rfl d_Nt_dig_123 ?_
          refine lv_iload_n hx hb d_Nt_dig_126 rfl (lv_at hl 3 rfl) ?_
          refine lv_aload_n hx hb d_Nt_dig_127 rfl (lv_at hl 2 rfl) ?_
          refine lv_iload hx hb d_Nt_dig_128 (lv_at hl 1 rfl) ?_
          obtain ⟨q_10, hq_10, hf⟩ := bd_some hf
          refine kc_i (va_runV (As := [.int q_4.1]) (rest := [.int x2, .ref (ob 1)]) ⟨hx, hb, hml, hown, hts⟩ (c_Nt_startOf l D cA cP ob ad q_4.1  q_8.2 hq_10 H.size) ⟨callB_of 1 hts (gd_Nt_startOf) rfl rfl rfl (hts _ (List.mem_cons_of_mem _ wd_69)) (hts _ (List.mem_cons_of_mem _ wd_609)) dd_Nt_startOf ⟨Nat.le_of_ble_eq_true rfl, Nat.le_of_ble_eq_true rfl⟩, (hts _ (List.mem_cons_of_mem _ wd_393)), (hts _ (List.mem_cons_of_mem _ wd_394))⟩ (kpV hK hP hD hN hZ hS 3 3 rfl rfl) rfl rfl hl.1 rfl (lv_room (Nat.le_of_ble_eq_true rfl)) d_Nt_dig_130 ⟨Nat.le_of_ble_eq_true rfl, Nat.le_of_ble_eq_true rfl⟩) hP hD hS hA (fun r w H locs hw hP hD hS => ?_)
          obtain ⟨rfl, rfl⟩ := hw
          refine lv_aload_n hx hb d_Nt_dig_133 rfl (lv_at hl 2 rfl) ?_
          refine lv_iload hx hb d_Nt_dig_134 (lv_at hl 0 rfl) ?_
          obtain ⟨q_11, hq_11, hf⟩ := bd_some hf
          refine kc_i (va_runV (As := [.int q_7.1]) (rest := [.int q_10.1, .int x2, .ref (ob 1)]) ⟨hx, hb, hml, hown, hts⟩ (c_Nt_startOf l D cA cP ob ad q_7.1  q_10.2 hq_11 H.size) ⟨callB_of 1 hts (gd_Nt_startOf) rfl rfl rfl (hts _ (List.mem_cons_of_mem _ wd_69)) (hts _ (List.mem_cons_of_mem _ wd_609)) dd_Nt_startOf ⟨Nat.le_of_ble_eq_true rfl, Nat.le_of_ble_eq_true rfl⟩, (hts _ (List.mem_cons_of_mem _ wd_393)), (hts _ (List.mem_cons_of_mem _ wd_394))⟩ (kpV hK hP hD hN hZ hS 3 3 rfl rfl) rfl rfl hl.1 rfl (lv_room (Nat.le_of_ble_eq_true rfl)) d_Nt_dig_136 ⟨Nat.le_of_ble_eq_true rfl, Nat.le_of_ble_eq_true rfl⟩) hP hD hS hA (fun r w H locs hw hP hD hS => ?_)
          obtain ⟨rfl, rfl⟩ := hw
          refine lv_aload_n hx hb d_Nt_dig_139 rfl (lv_at hl 2 rfl) ?_
          refine lv_iload hx hb d_Nt_dig_140 (lv_at hl 0 rfl) ?_
          obtain ⟨q_12, hq_12, hf⟩ := bd_some hf
          refine kc_i (va_runV (As := [.int q_7.1]) (rest := [.int q_11.1, .int q_10.1, .int x2, .ref (ob 1)]) ⟨hx, hb, hml, hown, hts⟩ (c_Nt_endOf l D cA cP ob ad q_7.1  q_11.2 hq_12 H.size) ⟨callB_of 1 hts (gd_Nt_endOf) rfl rfl rfl (hts _ (List.mem_cons_of_mem _ wd_69)) (hts _ (List.mem_cons_of_mem _ wd_377)) dd_Nt_endOf ⟨Nat.le_of_ble_eq_true rfl, Nat.le_of_ble_eq_true rfl⟩, (hts _ (List.mem_cons_of_mem _ wd_378)), (hts _ (List.mem_cons_of_mem _ wd_379))⟩ (kpV hK hP hD hN hZ hS 3 3 rfl rfl) rfl rfl hl.1 rfl (lv_room (Nat.le_of_ble_eq_true rfl)) d_Nt_dig_142 ⟨Nat.le_of_ble_eq_true rfl, Nat.le_of_ble_eq_true rfl⟩) hP hD hS hA (fun r w H locs hw hP hD hS => ?_)
          obtain ⟨rfl, rfl⟩ := hw
          obtain ⟨q_13, hq_13, hf⟩ := bd_some hf
          refine kc_i (va_runV (As := [.int x2, .int q_10.1, .int q_11.1, .int q_12.1]) (rest := []) ⟨hx, hb, hml, hown, hts⟩ (c_Pt_takesAway l D cA cP ob ad x2 q_10.1 q_11.1 q_12.1  q_12.2 hq_13 H.size) ⟨callB_of 4 hts (gd_Pt_takesAway) rfl rfl rfl (hts _ (List.mem_cons_of_mem _ wd_65)) (hts _ (List.mem_cons_of_mem _ wd_624)) dd_Pt_takesAway ⟨Nat.le_of_ble_eq_true rfl, Nat.le_of_ble_eq_true rfl⟩, (hts _ (List.mem_cons_of_mem _ wd_625)), (hts _ (List.mem_cons_of_mem _ wd_626))⟩ (kpV hK hP hD hN hZ hS 1 1 rfl rfl) rfl rfl hl.1 rfl (lv_room (Nat.le_of_ble_eq_true rfl)) d_Nt_dig_145 ⟨Nat.le_of_ble_eq_true rfl, Nat.le_of_ble_eq_true rfl⟩) hP hD hS hA (fun r w H locs hw hP hD hS => ?_)
          obtain ⟨rfl, rfl⟩ := hw
          exact w_Nt_dig_148 C0 hret   k27 hk27 (f_Nt_dig_46 k27 n) ih x2 x3 x4 q_4.1 q_13.1 q_13.2 H locs ls hP hD hS (lv_sub hl [2, 3, 4, 5, 1] rfl) hf
        · rw [if_neg c_9] at hf
          refine lv_aload_n hx hb d_Nt_dig_112 rfl (lv_at hl 2 rfl) ?_
          refine lv_iload hx hb d_Nt_dig_113 (lv_at hl 1 rfl) ?_
          refine lv_iload_n hx hb d_Nt_dig_115 rfl (lv_at hl 3 rfl) ?_
          obtain ⟨q_14, hq_14, hf⟩ := bd_some hf
          refine kc_i (va_runV (As := [.int q_4.1, .int x2]) (rest := []) ⟨hx, hb, hml, hown, hts⟩ (c_Nt_isSeen l D cA cP ob ad q_4.1 x2  q_8.2 hq_14 H.size) ⟨callB_of 2 hts (gd_Nt_isSeen) rfl rfl rfl (hts _ (List.mem_cons_of_mem _ wd_69)) (hts _ (List.mem_cons_of_mem _ wd_619)) dd_Nt_isSeen ⟨Nat.le_of_ble_eq_true rfl, Nat.le_of_ble_eq_true rfl⟩, (hts _ (List.mem_cons_of_mem _ wd_621)), (hts _ (List.mem_cons_of_mem _ wd_21))⟩ (kpV hK hP hD hN hZ hS 3 3 rfl rfl) rfl rfl hl.1 rfl (lv_room (Nat.le_of_ble_eq_true rfl)) d_Nt_dig_116 ⟨Nat.le_of_ble_eq_true rfl, Nat.le_of_ble_eq_true rfl⟩) hP hD hS hA (fun r w H locs hw hP hD hS => ?_)
          obtain ⟨rfl, rfl⟩ := hw
          refine lv_goto (tgt := 148) hx hb d_Nt_dig_119 (by decide) ?_
          exact w_Nt_dig_148 C0 hret   k27 hk27 (f_Nt_dig_46 k27 n) ih x2 x3 x4 q_4.1 q_14.1 q_14.2 H locs ls hP hD hS (lv_sub hl [2, 3, 4, 5, 1] rfl) hf
      · rw [if_pos c_6] at hf
        refine lv_goto (tgt := 189) hx hb d_Nt_dig_92 (by decide) ?_
        exact w_Nt_dig_189 C0 hret   k27 hk27 (f_Nt_dig_46 k27 n) ih x2 x3 x4 q_5.2 H locs ls hP hD hS (lv_sub hl [1, 2, 3, 4] rfl) hf
def f_Nt_dig_27   : Nat → Int32 → Int32 → St → Option St
  | 0 => fun _ _ _ => none
  | n + 1 => fun x2 x3 S => (if (gi S 6) ≤ x3 then
      some S
      else
      (if (gi S 8) ≤ x3 then
        some S
        else
        f_Nt_dig_46  (f_Nt_dig_27  n) FU x2 x3 0 S))
set_option maxHeartbeats 4000000 in
set_option maxRecDepth 100000 in
theorem w_Nt_dig_27 (C0 : CX p s m args c b_Nt_dig 8 R_Nt w_Nt_dig D clC cA cP A) {res : St} (hret : RTv p l e rm_Nt_dig s m args below meth c Q D clC A b_Nt_dig 0 0 (fun w => w = cw cA cP ob ad res))    : ∀ (n : Nat) (x2 : Int32) (x3 : Int32) (S : St) (H : Heap) (locs : List Loc) (ls : Array Slot), va_P D clC (cw cA cP ob ad S) H → va_D A (cw cA cP ob ad S) → va_S A s.heap H locs → lv_has ls 8 [(0, .ref (ob 3)), (2, .int x2), (3, .int x3)] → f_Nt_dig_27   n x2 x3 S = some res → W p l e rm_Nt_dig s m args below meth c H locs 0 0 Q (F0 m 27 ls []) := by
  obtain ⟨hx, hb, hml, hown, hts, hK, hA, hN, hZ⟩ := id C0
  intro n
  induction n with
  | zero =>
    intro x2 x3 S H locs ls hP hD hS hl hf
    cases hf
  | succ n ih =>
    intro x2 x3 S H locs ls hP hD hS hl hf
    rw [f_Nt_dig_27] at hf
    try dsimp only at hf
    refine lv_iload_n hx hb d_Nt_dig_27 rfl (lv_at hl 2 rfl) ?_
    refine lv_aload_n hx hb d_Nt_dig_28 rfl (lv_at hl 0 rfl) ?_
    refine va_get (D := D) (ci := 3) (v := .int (gi S 6)) (C := R_Nt) (T := F_Nt) (N := 13) hx hb hts (fun w h => List.mem_cons_of_mem _ (in_Nt w h)) hown hK hP 3 rfl rfl 9 (by decide) (hts _ (List.mem_cons_of_mem _ wd_167)) (fun _ h9 => h9) rfl d_Nt_dig_29 ?_
    refine lv_icmp_ge (tgt := 201) hx hb d_Nt_dig_32 (by decide) (fun c_1 => ?_) (fun c_1 => ?_)
    · rw [if_pos c_1] at hf
      cases hf
      exact hret _ _ _ _ _ rfl hP hD hS d_Nt_dig_201
    · rw [if_neg c_1] at hf
      refine lv_iload_n hx hb d_Nt_dig_35 rfl (lv_at hl 2 rfl) ?_
      refine lv_aload_n hx hb d_Nt_dig_36 rfl (lv_at hl 0 rfl) ?_
      refine va_get (D := D) (ci := 3) (v := .int (gi S 8)) (C := R_Nt) (T := F_Nt) (N := 13) hx hb hts (fun w h => List.mem_cons_of_mem _ (in_Nt w h)) hown hK hP 3 rfl rfl 11 (by decide) (hts _ (List.mem_cons_of_mem _ wd_169)) (fun _ h9 => h9) rfl d_Nt_dig_37 ?_
      refine lv_icmp_ge (tgt := 201) hx hb d_Nt_dig_40 (by decide) (fun c_2 => ?_) (fun c_2 => ?_)
      · rw [if_pos c_2] at hf
        cases hf
        exact hret _ _ _ _ _ rfl hP hD hS d_Nt_dig_201
      · rw [if_neg c_2] at hf
        refine lv_iconst (v := 0) hx hb d_Nt_dig_43 (by decide) ?_
        refine lv_istore (lv' := [(4, .int 0), (0, .ref (ob 3)), (2, .int x2), (3, .int x3)]) hx hb d_Nt_dig_44 hl (by decide) rfl (fun ls hl => ?_)
        exact w_Nt_dig_46 C0 hret   (f_Nt_dig_27  n) ih FU x2 x3 0 S H locs ls hP hD hS (lv_sub hl [1, 2, 3, 0] rfl) hf
def f_Nt_dig_0   (x1 : Int32) (x2 : Int32) (S : St) : Option St :=
  bn (seti S 5 ((gi S 5) + 1)) (fun S_1 => bn (seti S_1 8 0) (fun S_2 => bn (seti S_2 9 0) (fun S_3 => bd (f_Nt_takeAway x1 S_3) (fun q_4 => f_Nt_dig_27   FU x2 0 q_4))))
set_option maxHeartbeats 4000000 in
set_option maxRecDepth 100000 in
theorem w_Nt_dig_0 (C0 : CX p s m args c b_Nt_dig 8 R_Nt w_Nt_dig D clC cA cP A) {res : St} (hret : RTv p l e rm_Nt_dig s m args below meth c Q D clC A b_Nt_dig 0 0 (fun w => w = cw cA cP ob ad res))    : ∀ (x1 : Int32) (x2 : Int32) (S : St) (H : Heap) (locs : List Loc) (ls : Array Slot), va_P D clC (cw cA cP ob ad S) H → va_D A (cw cA cP ob ad S) → va_S A s.heap H locs → lv_has ls 8 [(0, .ref (ob 3)), (1, .int x1), (2, .int x2)] → f_Nt_dig_0   x1 x2 S = some res → W p l e rm_Nt_dig s m args below meth c H locs 0 0 Q (F0 m 0 ls []) := by
  obtain ⟨hx, hb, hml, hown, hts, hK, hA, hN, hZ⟩ := id C0
  intro x1 x2 S H locs ls hP hD hS hl hf
  rw [f_Nt_dig_0] at hf
  refine lv_aload_n hx hb d_Nt_dig_0 rfl (lv_at hl 0 rfl) ?_
  refine lv_dup hx hb d_Nt_dig_1 rfl ?_
  refine va_get (D := D) (ci := 3) (v := .int (gi S 5)) (C := R_Nt) (T := F_Nt) (N := 13) hx hb hts (fun w h => List.mem_cons_of_mem _ (in_Nt w h)) hown hK hP 3 rfl rfl 8 (by decide) (hts _ (List.mem_cons_of_mem _ wd_166)) (fun _ h9 => h9) rfl d_Nt_dig_2 ?_
  refine lv_iconst (v := 1) hx hb d_Nt_dig_5 (by decide) ?_
  refine lv_iadd hx hb d_Nt_dig_6 ?_
  obtain ⟨S_1, eS_1, hf⟩ := bn_some hf
  refine va_put (D := D) (ci := 3) (v := .int ((gi S 5) + 1)) (ty := .int) (C := R_Nt) (T := F_Nt) (N := 13) hx hb hts (fun w h => List.mem_cons_of_mem _ (in_Nt w h)) t_Nt tk_Nt nk_Nt hown hK hP hD hS 3 rfl rfl 8 (by decide) (hts _ (List.mem_cons_of_mem _ wd_166)) (fun _ h9 => h9) rfl (by decide +kernel) rfl rfl (Nat.le_of_ble_eq_true rfl) d_Nt_dig_7 (fun H locs hP hD hS => ?_)
  have hP : va_P D clC (cw cA cP ob ad S_1) H := by rw [eS_1]; exact hP
  have hD : va_D A (cw cA cP ob ad S_1) := by rw [eS_1]; exact hD
  refine lv_aload_n hx hb d_Nt_dig_10 rfl (lv_at hl 0 rfl) ?_
  refine lv_iconst (v := 0) hx hb d_Nt_dig_11 (by decide) ?_
  obtain ⟨S_2, eS_2, hf⟩ := bn_some hf
  refine va_put (D := D) (ci := 3) (v := .int 0) (ty := .int) (C := R_Nt) (T := F_Nt) (N := 13) hx hb hts (fun w h => List.mem_cons_of_mem _ (in_Nt w h)) t_Nt tk_Nt nk_Nt hown hK hP hD hS 3 rfl rfl 11 (by decide) (hts _ (List.mem_cons_of_mem _ wd_169)) (fun _ h9 => h9) rfl (by decide +kernel) rfl rfl (Nat.le_of_ble_eq_true rfl) d_Nt_dig_12 (fun H locs hP hD hS => ?_)
  have hP : va_P D clC (cw cA cP ob ad S_2) H := by rw [eS_2]; exact hP
  have hD : va_D A (cw cA cP ob ad S_2) := by rw [eS_2]; exact hD
  refine lv_aload_n hx hb d_Nt_dig_15 rfl (lv_at hl 0 rfl) ?_
  refine lv_iconst (v := 0) hx hb d_Nt_dig_16 (by decide) ?_
  obtain ⟨S_3, eS_3, hf⟩ := bn_some hf
  refine va_put (D := D) (ci := 3) (v := .int 0) (ty := .int) (C := R_Nt) (T := F_Nt) (N := 13) hx hb hts (fun w h => List.mem_cons_of_mem _ (in_Nt w h)) t_Nt tk_Nt nk_Nt hown hK hP hD hS 3 rfl rfl 12 (by decide) (hts _ (List.mem_cons_of_mem _ wd_170)) (fun _ h9 => h9) rfl (by decide +kernel) rfl rfl (Nat.le_of_ble_eq_true rfl) d_Nt_dig_17 (fun H locs hP hD hS => ?_)
  have hP : va_P D clC (cw cA cP ob ad S_3) H := by rw [eS_3]; exact hP
  have hD : va_D A (cw cA cP ob ad S_3) := by rw [eS_3]; exact hD
  refine lv_aload_n hx hb d_Nt_dig_20 rfl (lv_at hl 0 rfl) ?_
  refine lv_iload_n hx hb d_Nt_dig_21 rfl (lv_at hl 1 rfl) ?_
  obtain ⟨q_4, hq_4, hf⟩ := bd_some hf
  refine kc_v (va_runV (As := [.int x1]) (rest := []) ⟨hx, hb, hml, hown, hts⟩ (c_Nt_takeAway l D cA cP ob ad x1  S_3 hq_4 H.size) ⟨callB_of 1 hts (gd_Nt_takeAway) rfl rfl rfl (hts _ (List.mem_cons_of_mem _ wd_69)) (hts _ (List.mem_cons_of_mem _ wd_615)) dd_Nt_takeAway ⟨Nat.le_of_ble_eq_true rfl, Nat.le_of_ble_eq_true rfl⟩, (hts _ (List.mem_cons_of_mem _ wd_617)), (hts _ (List.mem_cons_of_mem _ wd_20))⟩ (kpV hK hP hD hN hZ hS 3 3 rfl rfl) rfl rfl hl.1 rfl (lv_room (Nat.le_of_ble_eq_true rfl)) d_Nt_dig_22 ⟨Nat.le_of_ble_eq_true rfl, Nat.le_of_ble_eq_true rfl⟩) hP hD hS hA (fun w H locs hw hP hD hS => ?_)
  obtain rfl := hw
  refine lv_iconst (v := 0) hx hb d_Nt_dig_25 (by decide) ?_
  refine lv_istore_n (lv' := [(3, .int 0), (0, .ref (ob 3)), (1, .int x1), (2, .int x2)]) hx hb d_Nt_dig_26 rfl hl (by decide) rfl (fun ls hl => ?_)
  exact w_Nt_dig_27 C0 hret    FU x2 0 q_4 H locs ls hP hD hS (lv_sub hl [1, 3, 0] rfl) hf
def f_Nt_dig (x1 : Int32) (x2 : Int32) (S : St) : Option St := f_Nt_dig_0  x1 x2 S
theorem c_Nt_dig (l : Launch) (D : va_G) (cA cP : ClassId) (ob : Nat → Nat) (ad : Nat → Nat → Nat) (x1 : Int32) (x2 : Int32)  (S : St) {res : St} (hf : f_Nt_dig x1 x2 S = some res) : CTv l y_Nt_dig w_Nt_dig rm_Nt_dig 0 0 D clC (TY cA cP) [.ref (ob 3), .int x1, .int x2] (cw cA cP ob ad S) (fun w => w = cw cA cP ob ad res) :=
  mk_v (cc := b_Nt_dig) (maxL := 8) (own := R_Nt) (by decide) rfl rfl (Nat.le_of_ble_eq_true rfl) (fun p e s m below meth c A Q C0 hret ls hl hP hD hS => w_Nt_dig_0 C0 hret   x1 x2 S _ _ ls hP hD hS (lv_sub hl [0, 1, 2] rfl) hf)
def f_Nt_fill_116   : Nat → Int32 → St → Option St
  | 0 => fun _ _ => none
  | n + 1 => fun x2 S => (if (gi S 9) ≤ x2 then
      some S
      else
      bd (f_Rw_get 12 x2 S) (fun q_2 => bn ((3 * q_2.1) + 1) (fun x3_3 => bd (f_Nt_startOf x3_3 q_2.2) (fun q_4 => bd (f_Nt_placeOf q_4.1 q_4.2) (fun q_5 => bd (f_Rw_get 10 q_5.1 q_5.2) (fun q_6 => bd (f_Nt_join x3_3 (q_6.1 + 2) q_6.2) (fun q_7 => bn (x2 + 1) (fun x2_8 => f_Nt_fill_116  n x2_8 q_7))))))))
set_option maxHeartbeats 4000000 in
set_option maxRecDepth 100000 in
theorem w_Nt_fill_116 (C0 : CX p s m args c b_Nt_fill 5 R_Nt w_Nt_fill D clC cA cP A) {res : St} (hret : RTv p l e rm_Nt_fill s m args below meth c Q D clC A b_Nt_fill 0 0 (fun w => w = cw cA cP ob ad res))    : ∀ (n : Nat) (x2 : Int32) (S : St) (H : Heap) (locs : List Loc) (ls : Array Slot), va_P D clC (cw cA cP ob ad S) H → va_D A (cw cA cP ob ad S) → va_S A s.heap H locs → lv_has ls 5 [(0, .ref (ob 3)), (2, .int x2)] → f_Nt_fill_116   n x2 S = some res → W p l e rm_Nt_fill s m args below meth c H locs 0 0 Q (F0 m 116 ls []) := by
  obtain ⟨hx, hb, hml, hown, hts, hK, hA, hN, hZ⟩ := id C0
  intro n
  induction n with
  | zero =>
    intro x2 S H locs ls hP hD hS hl hf
    cases hf
  | succ n ih =>
    intro x2 S H locs ls hP hD hS hl hf
    rw [f_Nt_fill_116] at hf
    try dsimp only at hf
    refine lv_iload_n hx hb d_Nt_fill_116 rfl (lv_at hl 1 rfl) ?_
    refine lv_aload_n hx hb d_Nt_fill_117 rfl (lv_at hl 0 rfl) ?_
    refine va_get (D := D) (ci := 3) (v := .int (gi S 9)) (C := R_Nt) (T := F_Nt) (N := 13) hx hb hts (fun w h => List.mem_cons_of_mem _ (in_Nt w h)) hown hK hP 3 rfl rfl 12 (by decide) (hts _ (List.mem_cons_of_mem _ wd_170)) (fun _ h9 => h9) rfl d_Nt_fill_118 ?_
    refine lv_icmp_ge (tgt := 166) hx hb d_Nt_fill_121 (by decide) (fun c_1 => ?_) (fun c_1 => ?_)
    · rw [if_pos c_1] at hf
      cases hf
      exact hret _ _ _ _ _ rfl hP hD hS d_Nt_fill_166
    · rw [if_neg c_1] at hf
      refine lv_iconst (v := 3) hx hb d_Nt_fill_124 (by decide) ?_
      refine lv_aload_n hx hb d_Nt_fill_125 rfl (lv_at hl 0 rfl) ?_
      refine va_get (D := D) (ci := 3) (v := .ref (ob 12)) (C := R_Nt) (T := F_Nt) (N := 13) hx hb hts (fun w h => List.mem_cons_of_mem _ (in_Nt w h)) hown hK hP 3 rfl rfl 6 (by decide) (hts _ (List.mem_cons_of_mem _ wd_164)) (fun _ h9 => h9) rfl d_Nt_fill_126 ?_
      refine lv_iload_n hx hb d_Nt_fill_129 rfl (lv_at hl 1 rfl) ?_
      obtain ⟨q_2, hq_2, hf⟩ := bd_some hf
      refine kc_i (va_runV (As := [.int x2]) (rest := [.int 3]) ⟨hx, hb, hml, hown, hts⟩ (c_Rw_get l D cA cP ob ad 12 x2 (by decide) S hq_2 H.size) ⟨callB_of 1 hts (gd_Rw_get) rfl rfl rfl (hts _ (List.mem_cons_of_mem _ wd_67)) (hts _ (List.mem_cons_of_mem _ wd_376)) dd_Rw_get ⟨Nat.le_of_ble_eq_true rfl, Nat.le_of_ble_eq_true rfl⟩, (hts _ (List.mem_cons_of_mem _ wd_340)), (hts _ (List.mem_cons_of_mem _ wd_341))⟩ (kpV hK hP hD hN hZ hS 6 12 rfl rfl) rfl rfl hl.1 rfl (lv_room (Nat.le_of_ble_eq_true rfl)) d_Nt_fill_130 ⟨Nat.le_of_ble_eq_true rfl, Nat.le_of_ble_eq_true rfl⟩) hP hD hS hA (fun r w H locs hw hP hD hS => ?_)
      obtain ⟨rfl, rfl⟩ := hw
      refine lv_imul hx hb d_Nt_fill_133 ?_
      refine lv_iconst (v := 1) hx hb d_Nt_fill_134 (by decide) ?_
      refine lv_iadd hx hb d_Nt_fill_135 ?_
      obtain ⟨x3_3, ex3_3, hf⟩ := bn_some hf
      refine tpi ex3_3 ?_
      refine lv_istore_n (lv' := [(3, .int x3_3), (0, .ref (ob 3)), (2, .int x2)]) hx hb d_Nt_fill_136 rfl hl (by decide) rfl (fun ls hl => ?_)
      refine lv_aload_n hx hb d_Nt_fill_137 rfl (lv_at hl 1 rfl) ?_
      refine lv_iload_n hx hb d_Nt_fill_138 rfl (lv_at hl 0 rfl) ?_
      refine lv_aload_n hx hb d_Nt_fill_139 rfl (lv_at hl 1 rfl) ?_
      refine va_get (D := D) (ci := 3) (v := .ref (ob 10)) (C := R_Nt) (T := F_Nt) (N := 13) hx hb hts (fun w h => List.mem_cons_of_mem _ (in_Nt w h)) hown hK hP 3 rfl rfl 4 (by decide) (hts _ (List.mem_cons_of_mem _ wd_162)) (fun _ h9 => h9) rfl d_Nt_fill_140 ?_
      refine lv_aload_n hx hb d_Nt_fill_143 rfl (lv_at hl 1 rfl) ?_
      refine lv_aload_n hx hb d_Nt_fill_144 rfl (lv_at hl 1 rfl) ?_
      refine lv_iload_n hx hb d_Nt_fill_145 rfl (lv_at hl 0 rfl) ?_
      obtain ⟨q_4, hq_4, hf⟩ := bd_some hf
      refine kc_i (va_runV (As := [.int x3_3]) (rest := [.ref (ob 3), .ref (ob 10), .int x3_3, .ref (ob 3)]) ⟨hx, hb, hml, hown, hts⟩ (c_Nt_startOf l D cA cP ob ad x3_3  q_2.2 hq_4 H.size) ⟨callB_of 1 hts (gd_Nt_startOf) rfl rfl rfl (hts _ (List.mem_cons_of_mem _ wd_69)) (hts _ (List.mem_cons_of_mem _ wd_609)) dd_Nt_startOf ⟨Nat.le_of_ble_eq_true rfl, Nat.le_of_ble_eq_true rfl⟩, (hts _ (List.mem_cons_of_mem _ wd_393)), (hts _ (List.mem_cons_of_mem _ wd_394))⟩ (kpV hK hP hD hN hZ hS 3 3 rfl rfl) rfl rfl hl.1 rfl (lv_room (Nat.le_of_ble_eq_true rfl)) d_Nt_fill_146 ⟨Nat.le_of_ble_eq_true rfl, Nat.le_of_ble_eq_true rfl⟩) hP hD hS hA (fun r w H locs hw hP hD hS => ?_)
      obtain ⟨rfl, rfl⟩ := hw
      obtain ⟨q_5, hq_5, hf⟩ := bd_some hf
      refine kc_i (va_runV (As := [.int q_4.1]) (rest := [.ref (ob 10), .int x3_3, .ref (ob 3)]) ⟨hx, hb, hml, hown, hts⟩ (c_Nt_placeOf l D cA cP ob ad q_4.1  q_4.2 hq_5 H.size) ⟨callB_of 1 hts (gd_Nt_placeOf) rfl rfl rfl (hts _ (List.mem_cons_of_mem _ wd_69)) (hts _ (List.mem_cons_of_mem _ wd_372)) dd_Nt_placeOf ⟨Nat.le_of_ble_eq_true rfl, Nat.le_of_ble_eq_true rfl⟩, (hts _ (List.mem_cons_of_mem _ wd_374)), (hts _ (List.mem_cons_of_mem _ wd_8))⟩ (kpV hK hP hD hN hZ hS 3 3 rfl rfl) rfl rfl hl.1 rfl (lv_room (Nat.le_of_ble_eq_true rfl)) d_Nt_fill_149 ⟨Nat.le_of_ble_eq_true rfl, Nat.le_of_ble_eq_true rfl⟩) hP hD hS hA (fun r w H locs hw hP hD hS => ?_)
      obtain ⟨rfl, rfl⟩ := hw
      obtain ⟨q_6, hq_6, hf⟩ := bd_some hf
      refine kc_i (va_runV (As := [.int q_5.1]) (rest := [.int x3_3, .ref (ob 3)]) ⟨hx, hb, hml, hown, hts⟩ (c_Rw_get l D cA cP ob ad 10 q_5.1 (by decide) q_5.2 hq_6 H.size) ⟨callB_of 1 hts (gd_Rw_get) rfl rfl rfl (hts _ (List.mem_cons_of_mem _ wd_67)) (hts _ (List.mem_cons_of_mem _ wd_376)) dd_Rw_get ⟨Nat.le_of_ble_eq_true rfl, Nat.le_of_ble_eq_true rfl⟩, (hts _ (List.mem_cons_of_mem _ wd_340)), (hts _ (List.mem_cons_of_mem _ wd_341))⟩ (kpV hK hP hD hN hZ hS 6 10 rfl rfl) rfl rfl hl.1 rfl (lv_room (Nat.le_of_ble_eq_true rfl)) d_Nt_fill_152 ⟨Nat.le_of_ble_eq_true rfl, Nat.le_of_ble_eq_true rfl⟩) hP hD hS hA (fun r w H locs hw hP hD hS => ?_)
      obtain ⟨rfl, rfl⟩ := hw
      refine lv_iconst (v := 2) hx hb d_Nt_fill_155 (by decide) ?_
      refine lv_iadd hx hb d_Nt_fill_156 ?_
      obtain ⟨q_7, hq_7, hf⟩ := bd_some hf
      refine kc_v (va_runV (As := [.int x3_3, .int (q_6.1 + 2)]) (rest := []) ⟨hx, hb, hml, hown, hts⟩ (c_Nt_join l D cA cP ob ad x3_3 (q_6.1 + 2)  q_6.2 hq_7 H.size) ⟨callB_of 2 hts (gd_Nt_join) rfl rfl rfl (hts _ (List.mem_cons_of_mem _ wd_69)) (hts _ (List.mem_cons_of_mem _ wd_583)) dd_Nt_join ⟨Nat.le_of_ble_eq_true rfl, Nat.le_of_ble_eq_true rfl⟩, (hts _ (List.mem_cons_of_mem _ wd_585)), (hts _ (List.mem_cons_of_mem _ wd_16))⟩ (kpV hK hP hD hN hZ hS 3 3 rfl rfl) rfl rfl hl.1 rfl (lv_room (Nat.le_of_ble_eq_true rfl)) d_Nt_fill_157 ⟨Nat.le_of_ble_eq_true rfl, Nat.le_of_ble_eq_true rfl⟩) hP hD hS hA (fun w H locs hw hP hD hS => ?_)
      obtain rfl := hw
      obtain ⟨x2_8, ex2_8, hf⟩ := bn_some hf
      refine lv_iinc (v := x2_8) (lv' := [(2, .int x2_8), (3, .int x3_3), (0, .ref (ob 3))]) hx hb d_Nt_fill_160 hl (k := 2) rfl (by rw [ex2_8]; rfl) (by decide) rfl (fun ls hl => ?_)
      refine lv_goto (tgt := 116) hx hb d_Nt_fill_163 (by decide) ?_
      exact ih x2_8 q_7 H locs ls hP hD hS (lv_sub hl [2, 0] rfl) hf
def f_Nt_fill_108  (k2 : Int32 → Int32 → St → Option St) (x1 : Int32) (x2 : Int32) (S : St) : Option St :=
  bn (x2 + 1) (fun x2_1 => k2 x1 x2_1 S)
set_option maxHeartbeats 4000000 in
set_option maxRecDepth 100000 in
theorem w_Nt_fill_108 (C0 : CX p s m args c b_Nt_fill 5 R_Nt w_Nt_fill D clC cA cP A) {res : St} (hret : RTv p l e rm_Nt_fill s m args below meth c Q D clC A b_Nt_fill 0 0 (fun w => w = cw cA cP ob ad res))   (k2 : Int32 → Int32 → St → Option St) (hk2 : ∀ (x1 : Int32) (x2 : Int32) (S : St) (H : Heap) (locs : List Loc) (ls : Array Slot), va_P D clC (cw cA cP ob ad S) H → va_D A (cw cA cP ob ad S) → va_S A s.heap H locs → lv_has ls 5 [(0, .ref (ob 3)), (1, .int x1), (2, .int x2)] → k2 x1 x2 S = some res → W p l e rm_Nt_fill s m args below meth c H locs 0 0 Q (F0 m 2 ls [])) : ∀ (x1 : Int32) (x2 : Int32) (S : St) (H : Heap) (locs : List Loc) (ls : Array Slot), va_P D clC (cw cA cP ob ad S) H → va_D A (cw cA cP ob ad S) → va_S A s.heap H locs → lv_has ls 5 [(0, .ref (ob 3)), (1, .int x1), (2, .int x2)] → f_Nt_fill_108  k2 x1 x2 S = some res → W p l e rm_Nt_fill s m args below meth c H locs 0 0 Q (F0 m 108 ls []) := by
  obtain ⟨hx, hb, hml, hown, hts, hK, hA, hN, hZ⟩ := id C0
  intro x1 x2 S H locs ls hP hD hS hl hf
  rw [f_Nt_fill_108] at hf
  obtain ⟨x2_1, ex2_1, hf⟩ := bn_some hf
  refine lv_iinc (v := x2_1) (lv' := [(2, .int x2_1), (0, .ref (ob 3)), (1, .int x1)]) hx hb d_Nt_fill_108 hl (k := 2) rfl (by rw [ex2_1]; rfl) (by decide) rfl (fun ls hl => ?_)
  refine lv_goto (tgt := 2) hx hb d_Nt_fill_111 (by decide) ?_
  exact hk2 x1 x2_1 S H locs ls hP hD hS (lv_sub hl [1, 2, 0] rfl) hf
def f_Nt_fill_49  (k2 : Int32 → Int32 → St → Option St) (x1 : Int32) (x2 : Int32) (x3 : Int32) (t0 : Int32) (S : St) : Option St :=
  bd (f_Nt_endOf x3 S) (fun q_1 => bd (f_Nt_startOf x3 q_1.2) (fun q_2 => bd (f_Nt_setTriangle t0 q_1.1 q_2.1 x1 q_2.2) (fun q_3 => bd (f_Nt_join (3 * t0) x3 q_3) (fun q_4 => bd (f_Rw_put 12 x2 t0 q_4) (fun q_5 => bd (f_Nt_isOuter (3 * t0) q_5) (fun q_6 => (if q_6.1 = 0 then
    f_Nt_fill_108  k2 x1 x2 q_6.2
    else
    bn (seti q_6.2 7 ((gi q_6.2 7) + 1)) (fun S_8 => f_Nt_fill_108  k2 x1 x2 S_8))))))))
set_option maxHeartbeats 4000000 in
set_option maxRecDepth 100000 in
theorem w_Nt_fill_49 (C0 : CX p s m args c b_Nt_fill 5 R_Nt w_Nt_fill D clC cA cP A) {res : St} (hret : RTv p l e rm_Nt_fill s m args below meth c Q D clC A b_Nt_fill 0 0 (fun w => w = cw cA cP ob ad res))   (k2 : Int32 → Int32 → St → Option St) (hk2 : ∀ (x1 : Int32) (x2 : Int32) (S : St) (H : Heap) (locs : List Loc) (ls : Array Slot), va_P D clC (cw cA cP ob ad S) H → va_D A (cw cA cP ob ad S) → va_S A s.heap H locs → lv_has ls 5 [(0, .ref (ob 3)), (1, .int x1), (2, .int x2)] → k2 x1 x2 S = some res → W p l e rm_Nt_fill s m args below meth c H locs 0 0 Q (F0 m 2 ls [])) : ∀ (x1 : Int32) (x2 : Int32) (x3 : Int32) (t0 : Int32) (S : St) (H : Heap) (locs : List Loc) (ls : Array Slot), va_P D clC (cw cA cP ob ad S) H → va_D A (cw cA cP ob ad S) → va_S A s.heap H locs → lv_has ls 5 [(0, .ref (ob 3)), (1, .int x1), (2, .int x2), (3, .int x3)] → f_Nt_fill_49  k2 x1 x2 x3 t0 S = some res → W p l e rm_Nt_fill s m args below meth c H locs 0 0 Q (F0 m 49 ls [.int t0]) := by
  obtain ⟨hx, hb, hml, hown, hts, hK, hA, hN, hZ⟩ := id C0
  intro x1 x2 x3 t0 S H locs ls hP hD hS hl hf
  rw [f_Nt_fill_49] at hf
  refine lv_istore (lv' := [(4, .int t0), (0, .ref (ob 3)), (1, .int x1), (2, .int x2), (3, .int x3)]) hx hb d_Nt_fill_49 hl (by decide) rfl (fun ls hl => ?_)
  refine lv_aload_n hx hb d_Nt_fill_51 rfl (lv_at hl 1 rfl) ?_
  refine lv_iload hx hb d_Nt_fill_52 (lv_at hl 0 rfl) ?_
  refine lv_aload_n hx hb d_Nt_fill_54 rfl (lv_at hl 1 rfl) ?_
  refine lv_iload_n hx hb d_Nt_fill_55 rfl (lv_at hl 4 rfl) ?_
  obtain ⟨q_1, hq_1, hf⟩ := bd_some hf
  refine kc_i (va_runV (As := [.int x3]) (rest := [.int t0, .ref (ob 3)]) ⟨hx, hb, hml, hown, hts⟩ (c_Nt_endOf l D cA cP ob ad x3  S hq_1 H.size) ⟨callB_of 1 hts (gd_Nt_endOf) rfl rfl rfl (hts _ (List.mem_cons_of_mem _ wd_69)) (hts _ (List.mem_cons_of_mem _ wd_377)) dd_Nt_endOf ⟨Nat.le_of_ble_eq_true rfl, Nat.le_of_ble_eq_true rfl⟩, (hts _ (List.mem_cons_of_mem _ wd_378)), (hts _ (List.mem_cons_of_mem _ wd_379))⟩ (kpV hK hP hD hN hZ hS 3 3 rfl rfl) rfl rfl hl.1 rfl (lv_room (Nat.le_of_ble_eq_true rfl)) d_Nt_fill_56 ⟨Nat.le_of_ble_eq_true rfl, Nat.le_of_ble_eq_true rfl⟩) hP hD hS hA (fun r w H locs hw hP hD hS => ?_)
  obtain ⟨rfl, rfl⟩ := hw
  refine lv_aload_n hx hb d_Nt_fill_59 rfl (lv_at hl 1 rfl) ?_
  refine lv_iload_n hx hb d_Nt_fill_60 rfl (lv_at hl 4 rfl) ?_
  obtain ⟨q_2, hq_2, hf⟩ := bd_some hf
  refine kc_i (va_runV (As := [.int x3]) (rest := [.int q_1.1, .int t0, .ref (ob 3)]) ⟨hx, hb, hml, hown, hts⟩ (c_Nt_startOf l D cA cP ob ad x3  q_1.2 hq_2 H.size) ⟨callB_of 1 hts (gd_Nt_startOf) rfl rfl rfl (hts _ (List.mem_cons_of_mem _ wd_69)) (hts _ (List.mem_cons_of_mem _ wd_609)) dd_Nt_startOf ⟨Nat.le_of_ble_eq_true rfl, Nat.le_of_ble_eq_true rfl⟩, (hts _ (List.mem_cons_of_mem _ wd_393)), (hts _ (List.mem_cons_of_mem _ wd_394))⟩ (kpV hK hP hD hN hZ hS 3 3 rfl rfl) rfl rfl hl.1 rfl (lv_room (Nat.le_of_ble_eq_true rfl)) d_Nt_fill_61 ⟨Nat.le_of_ble_eq_true rfl, Nat.le_of_ble_eq_true rfl⟩) hP hD hS hA (fun r w H locs hw hP hD hS => ?_)
  obtain ⟨rfl, rfl⟩ := hw
  refine lv_iload_n hx hb d_Nt_fill_64 rfl (lv_at hl 2 rfl) ?_
  obtain ⟨q_3, hq_3, hf⟩ := bd_some hf
  refine kc_v (va_runV (As := [.int t0, .int q_1.1, .int q_2.1, .int x1]) (rest := []) ⟨hx, hb, hml, hown, hts⟩ (c_Nt_setTriangle l D cA cP ob ad t0 q_1.1 q_2.1 x1  q_2.2 hq_3 H.size) ⟨callB_of 4 hts (gd_Nt_setTriangle) rfl rfl rfl (hts _ (List.mem_cons_of_mem _ wd_69)) (hts _ (List.mem_cons_of_mem _ wd_578)) dd_Nt_setTriangle ⟨Nat.le_of_ble_eq_true rfl, Nat.le_of_ble_eq_true rfl⟩, (hts _ (List.mem_cons_of_mem _ wd_580)), (hts _ (List.mem_cons_of_mem _ wd_15))⟩ (kpV hK hP hD hN hZ hS 3 3 rfl rfl) rfl rfl hl.1 rfl (lv_room (Nat.le_of_ble_eq_true rfl)) d_Nt_fill_65 ⟨Nat.le_of_ble_eq_true rfl, Nat.le_of_ble_eq_true rfl⟩) hP hD hS hA (fun w H locs hw hP hD hS => ?_)
  obtain rfl := hw
  refine lv_aload_n hx hb d_Nt_fill_68 rfl (lv_at hl 1 rfl) ?_
  refine lv_iconst (v := 3) hx hb d_Nt_fill_69 (by decide) ?_
  refine lv_iload hx hb d_Nt_fill_70 (lv_at hl 0 rfl) ?_
  refine lv_imul hx hb d_Nt_fill_72 ?_
  refine lv_iload_n hx hb d_Nt_fill_73 rfl (lv_at hl 4 rfl) ?_
  obtain ⟨q_4, hq_4, hf⟩ := bd_some hf
  refine kc_v (va_runV (As := [.int (3 * t0), .int x3]) (rest := []) ⟨hx, hb, hml, hown, hts⟩ (c_Nt_join l D cA cP ob ad (3 * t0) x3  q_3 hq_4 H.size) ⟨callB_of 2 hts (gd_Nt_join) rfl rfl rfl (hts _ (List.mem_cons_of_mem _ wd_69)) (hts _ (List.mem_cons_of_mem _ wd_583)) dd_Nt_join ⟨Nat.le_of_ble_eq_true rfl, Nat.le_of_ble_eq_true rfl⟩, (hts _ (List.mem_cons_of_mem _ wd_585)), (hts _ (List.mem_cons_of_mem _ wd_16))⟩ (kpV hK hP hD hN hZ hS 3 3 rfl rfl) rfl rfl hl.1 rfl (lv_room (Nat.le_of_ble_eq_true rfl)) d_Nt_fill_74 ⟨Nat.le_of_ble_eq_true rfl, Nat.le_of_ble_eq_true rfl⟩) hP hD hS hA (fun w H locs hw hP hD hS => ?_)
  obtain rfl := hw
  refine lv_aload_n hx hb d_Nt_fill_77 rfl (lv_at hl 1 rfl) ?_
  refine va_get (D := D) (ci := 3) (v := .ref (ob 12)) (C := R_Nt) (T := F_Nt) (N := 13) hx hb hts (fun w h => List.mem_cons_of_mem _ (in_Nt w h)) hown hK hP 3 rfl rfl 6 (by decide) (hts _ (List.mem_cons_of_mem _ wd_164)) (fun _ h9 => h9) rfl d_Nt_fill_78 ?_
  refine lv_iload_n hx hb d_Nt_fill_81 rfl (lv_at hl 3 rfl) ?_
  refine lv_iload hx hb d_Nt_fill_82 (lv_at hl 0 rfl) ?_
  obtain ⟨q_5, hq_5, hf⟩ := bd_some hf
  refine kc_v (va_runV (As := [.int x2, .int t0]) (rest := []) ⟨hx, hb, hml, hown, hts⟩ (c_Rw_put l D cA cP ob ad 12 x2 t0 (by decide) q_4 hq_5 H.size) ⟨callB_of 2 hts (gd_Rw_put) rfl rfl rfl (hts _ (List.mem_cons_of_mem _ wd_67)) (hts _ (List.mem_cons_of_mem _ wd_582)) dd_Rw_put ⟨Nat.le_of_ble_eq_true rfl, Nat.le_of_ble_eq_true rfl⟩, (hts _ (List.mem_cons_of_mem _ wd_361)), (hts _ (List.mem_cons_of_mem _ wd_362))⟩ (kpV hK hP hD hN hZ hS 6 12 rfl rfl) rfl rfl hl.1 rfl (lv_room (Nat.le_of_ble_eq_true rfl)) d_Nt_fill_84 ⟨Nat.le_of_ble_eq_true rfl, Nat.le_of_ble_eq_true rfl⟩) hP hD hS hA (fun w H locs hw hP hD hS => ?_)
  obtain rfl := hw
  refine lv_aload_n hx hb d_Nt_fill_87 rfl (lv_at hl 1 rfl) ?_
  refine lv_iconst (v := 3) hx hb d_Nt_fill_88 (by decide) ?_
  refine lv_iload hx hb d_Nt_fill_89 (lv_at hl 0 rfl) ?_
  refine lv_imul hx hb d_Nt_fill_91 ?_
  obtain ⟨q_6, hq_6, hf⟩ := bd_some hf
  refine kc_i (va_runV (As := [.int (3 * t0)]) (rest := []) ⟨hx, hb, hml, hown, hts⟩ (c_Nt_isOuter l D cA cP ob ad (3 * t0)  q_5 hq_6 H.size) ⟨callB_of 1 hts (gd_Nt_isOuter) rfl rfl rfl (hts _ (List.mem_cons_of_mem _ wd_69)) (hts _ (List.mem_cons_of_mem _ wd_597)) dd_Nt_isOuter ⟨Nat.le_of_ble_eq_true rfl, Nat.le_of_ble_eq_true rfl⟩, (hts _ (List.mem_cons_of_mem _ wd_598)), (hts _ (List.mem_cons_of_mem _ wd_599))⟩ (kpV hK hP hD hN hZ hS 3 3 rfl rfl) rfl rfl hl.1 rfl (lv_room (Nat.le_of_ble_eq_true rfl)) d_Nt_fill_92 ⟨Nat.le_of_ble_eq_true rfl, Nat.le_of_ble_eq_true rfl⟩) hP hD hS hA (fun r w H locs hw hP hD hS => ?_)
  obtain ⟨rfl, rfl⟩ := hw
  refine lv_if_eq (tgt := 108) hx hb d_Nt_fill_95 (by decide) (fun c_7 => ?_) (fun c_7 => ?_)
  · rw [if_pos c_7] at hf
    exact w_Nt_fill_108 C0 hret   k2 hk2 x1 x2 q_6.2 H locs ls hP hD hS (lv_sub hl [1, 2, 3] rfl) hf
  · rw [if_neg c_7] at hf
    refine lv_aload_n hx hb d_Nt_fill_98 rfl (lv_at hl 1 rfl) ?_
    refine lv_dup hx hb d_Nt_fill_99 rfl ?_
    refine va_get (D := D) (ci := 3) (v := .int (gi q_6.2 7)) (C := R_Nt) (T := F_Nt) (N := 13) hx hb hts (fun w h => List.mem_cons_of_mem _ (in_Nt w h)) hown hK hP 3 rfl rfl 10 (by decide) (hts _ (List.mem_cons_of_mem _ wd_168)) (fun _ h9 => h9) rfl d_Nt_fill_100 ?_
    refine lv_iconst (v := 1) hx hb d_Nt_fill_103 (by decide) ?_
    refine lv_iadd hx hb d_Nt_fill_104 ?_
    obtain ⟨S_8, eS_8, hf⟩ := bn_some hf
    refine va_put (D := D) (ci := 3) (v := .int ((gi q_6.2 7) + 1)) (ty := .int) (C := R_Nt) (T := F_Nt) (N := 13) hx hb hts (fun w h => List.mem_cons_of_mem _ (in_Nt w h)) t_Nt tk_Nt nk_Nt hown hK hP hD hS 3 rfl rfl 10 (by decide) (hts _ (List.mem_cons_of_mem _ wd_168)) (fun _ h9 => h9) rfl (by decide +kernel) rfl rfl (Nat.le_of_ble_eq_true rfl) d_Nt_fill_105 (fun H locs hP hD hS => ?_)
    have hP : va_P D clC (cw cA cP ob ad S_8) H := by rw [eS_8]; exact hP
    have hD : va_D A (cw cA cP ob ad S_8) := by rw [eS_8]; exact hD
    exact w_Nt_fill_108 C0 hret   k2 hk2 x1 x2 S_8 H locs ls hP hD hS (lv_sub hl [1, 2, 3] rfl) hf
def f_Nt_fill_2   : Nat → Int32 → Int32 → St → Option St
  | 0 => fun _ _ _ => none
  | n + 1 => fun x1 x2 S => (if (gi S 9) ≤ x2 then
      f_Nt_fill_116   FU 0 S
      else
      bd (f_Rw_get 13 x2 S) (fun q_2 => (if (gi q_2.2 8) ≤ x2 then
        bn (seti q_2.2 6 ((gi q_2.2 6) + 1)) (fun S_4 => f_Nt_fill_49  (f_Nt_fill_2  n) x1 x2 q_2.1 (gi q_2.2 6) S_4)
        else
        bd (f_Rw_get 12 x2 q_2.2) (fun q_5 => f_Nt_fill_49  (f_Nt_fill_2  n) x1 x2 q_2.1 q_5.1 q_5.2))))
set_option maxHeartbeats 4000000 in
set_option maxRecDepth 100000 in
theorem w_Nt_fill_2 (C0 : CX p s m args c b_Nt_fill 5 R_Nt w_Nt_fill D clC cA cP A) {res : St} (hret : RTv p l e rm_Nt_fill s m args below meth c Q D clC A b_Nt_fill 0 0 (fun w => w = cw cA cP ob ad res))    : ∀ (n : Nat) (x1 : Int32) (x2 : Int32) (S : St) (H : Heap) (locs : List Loc) (ls : Array Slot), va_P D clC (cw cA cP ob ad S) H → va_D A (cw cA cP ob ad S) → va_S A s.heap H locs → lv_has ls 5 [(0, .ref (ob 3)), (1, .int x1), (2, .int x2)] → f_Nt_fill_2   n x1 x2 S = some res → W p l e rm_Nt_fill s m args below meth c H locs 0 0 Q (F0 m 2 ls []) := by
  obtain ⟨hx, hb, hml, hown, hts, hK, hA, hN, hZ⟩ := id C0
  intro n
  induction n with
  | zero =>
    intro x1 x2 S H locs ls hP hD hS hl hf
    cases hf
  | succ n ih =>
    intro x1 x2 S H locs ls hP hD hS hl hf
    rw [f_Nt_fill_2] at hf
    try dsimp only at hf
    refine lv_iload_n hx hb d_Nt_fill_2 rfl (lv_at hl 2 rfl) ?_
    refine lv_aload_n hx hb d_Nt_fill_3 rfl (lv_at hl 0 rfl) ?_
    refine va_get (D := D) (ci := 3) (v := .int (gi S 9)) (C := R_Nt) (T := F_Nt) (N := 13) hx hb hts (fun w h => List.mem_cons_of_mem _ (in_Nt w h)) hown hK hP 3 rfl rfl 12 (by decide) (hts _ (List.mem_cons_of_mem _ wd_170)) (fun _ h9 => h9) rfl d_Nt_fill_4 ?_
    refine lv_icmp_ge (tgt := 114) hx hb d_Nt_fill_7 (by decide) (fun c_1 => ?_) (fun c_1 => ?_)
    · rw [if_pos c_1] at hf
      refine lv_iconst (v := 0) hx hb d_Nt_fill_114 (by decide) ?_
      refine lv_istore_n (lv' := [(2, .int 0), (0, .ref (ob 3)), (1, .int x1)]) hx hb d_Nt_fill_115 rfl hl (by decide) rfl (fun ls hl => ?_)
      exact w_Nt_fill_116 C0 hret    FU 0 S H locs ls hP hD hS (lv_sub hl [1, 0] rfl) hf
    · rw [if_neg c_1] at hf
      refine lv_aload_n hx hb d_Nt_fill_10 rfl (lv_at hl 0 rfl) ?_
      refine va_get (D := D) (ci := 3) (v := .ref (ob 13)) (C := R_Nt) (T := F_Nt) (N := 13) hx hb hts (fun w h => List.mem_cons_of_mem _ (in_Nt w h)) hown hK hP 3 rfl rfl 7 (by decide) (hts _ (List.mem_cons_of_mem _ wd_165)) (fun _ h9 => h9) rfl d_Nt_fill_11 ?_
      refine lv_iload_n hx hb d_Nt_fill_14 rfl (lv_at hl 2 rfl) ?_
      obtain ⟨q_2, hq_2, hf⟩ := bd_some hf
      refine kc_i (va_runV (As := [.int x2]) (rest := []) ⟨hx, hb, hml, hown, hts⟩ (c_Rw_get l D cA cP ob ad 13 x2 (by decide) S hq_2 H.size) ⟨callB_of 1 hts (gd_Rw_get) rfl rfl rfl (hts _ (List.mem_cons_of_mem _ wd_67)) (hts _ (List.mem_cons_of_mem _ wd_376)) dd_Rw_get ⟨Nat.le_of_ble_eq_true rfl, Nat.le_of_ble_eq_true rfl⟩, (hts _ (List.mem_cons_of_mem _ wd_340)), (hts _ (List.mem_cons_of_mem _ wd_341))⟩ (kpV hK hP hD hN hZ hS 6 13 rfl rfl) rfl rfl hl.1 rfl (lv_room (Nat.le_of_ble_eq_true rfl)) d_Nt_fill_15 ⟨Nat.le_of_ble_eq_true rfl, Nat.le_of_ble_eq_true rfl⟩) hP hD hS hA (fun r w H locs hw hP hD hS => ?_)
      obtain ⟨rfl, rfl⟩ := hw
      refine lv_istore_n (lv' := [(3, .int q_2.1), (0, .ref (ob 3)), (1, .int x1), (2, .int x2)]) hx hb d_Nt_fill_18 rfl hl (by decide) rfl (fun ls hl => ?_)
      refine lv_iload_n hx hb d_Nt_fill_19 rfl (lv_at hl 3 rfl) ?_
      refine lv_aload_n hx hb d_Nt_fill_20 rfl (lv_at hl 1 rfl) ?_
      refine va_get (D := D) (ci := 3) (v := .int (gi q_2.2 8)) (C := R_Nt) (T := F_Nt) (N := 13) hx hb hts (fun w h => List.mem_cons_of_mem _ (in_Nt w h)) hown hK hP 3 rfl rfl 11 (by decide) (hts _ (List.mem_cons_of_mem _ wd_169)) (fun _ h9 => h9) rfl d_Nt_fill_21 ?_
      refine lv_icmp_ge (tgt := 38) hx hb d_Nt_fill_24 (by decide) (fun c_3 => ?_) (fun c_3 => ?_)
      · rw [if_pos c_3] at hf
        refine lv_aload_n hx hb d_Nt_fill_38 rfl (lv_at hl 1 rfl) ?_
        refine lv_dup hx hb d_Nt_fill_39 rfl ?_
        refine va_get (D := D) (ci := 3) (v := .int (gi q_2.2 6)) (C := R_Nt) (T := F_Nt) (N := 13) hx hb hts (fun w h => List.mem_cons_of_mem _ (in_Nt w h)) hown hK hP 3 rfl rfl 9 (by decide) (hts _ (List.mem_cons_of_mem _ wd_167)) (fun _ h9 => h9) rfl d_Nt_fill_40 ?_
        refine lv_dup_x1 hx hb d_Nt_fill_43 rfl rfl ?_
        refine lv_iconst (v := 1) hx hb d_Nt_fill_44 (by decide) ?_
        refine lv_iadd hx hb d_Nt_fill_45 ?_
        obtain ⟨S_4, eS_4, hf⟩ := bn_some hf
        refine va_put (D := D) (ci := 3) (v := .int ((gi q_2.2 6) + 1)) (ty := .int) (C := R_Nt) (T := F_Nt) (N := 13) hx hb hts (fun w h => List.mem_cons_of_mem _ (in_Nt w h)) t_Nt tk_Nt nk_Nt hown hK hP hD hS 3 rfl rfl 9 (by decide) (hts _ (List.mem_cons_of_mem _ wd_167)) (fun _ h9 => h9) rfl (by decide +kernel) rfl rfl (Nat.le_of_ble_eq_true rfl) d_Nt_fill_46 (fun H locs hP hD hS => ?_)
        have hP : va_P D clC (cw cA cP ob ad S_4) H := by rw [eS_4]; exact hP
        have hD : va_D A (cw cA cP ob ad S_4) := by rw [eS_4]; exact hD
        exact w_Nt_fill_49 C0 hret   (f_Nt_fill_2  n) ih x1 x2 q_2.1 (gi q_2.2 6) S_4 H locs ls hP hD hS (lv_sub hl [1, 2, 3, 0] rfl) hf
      · rw [if_neg c_3] at hf
        refine lv_aload_n hx hb d_Nt_fill_27 rfl (lv_at hl 1 rfl) ?_
        refine va_get (D := D) (ci := 3) (v := .ref (ob 12)) (C := R_Nt) (T := F_Nt) (N := 13) hx hb hts (fun w h => List.mem_cons_of_mem _ (in_Nt w h)) hown hK hP 3 rfl rfl 6 (by decide) (hts _ (List.mem_cons_of_mem _ wd_164)) (fun _ h9 => h9) rfl d_Nt_fill_28 ?_
        refine lv_iload_n hx hb d_Nt_fill_31 rfl (lv_at hl 3 rfl) ?_
        obtain ⟨q_5, hq_5, hf⟩ := bd_some hf
        refine kc_i (va_runV (As := [.int x2]) (rest := []) ⟨hx, hb, hml, hown, hts⟩ (c_Rw_get l D cA cP ob ad 12 x2 (by decide) q_2.2 hq_5 H.size) ⟨callB_of 1 hts (gd_Rw_get) rfl rfl rfl (hts _ (List.mem_cons_of_mem _ wd_67)) (hts _ (List.mem_cons_of_mem _ wd_376)) dd_Rw_get ⟨Nat.le_of_ble_eq_true rfl, Nat.le_of_ble_eq_true rfl⟩, (hts _ (List.mem_cons_of_mem _ wd_340)), (hts _ (List.mem_cons_of_mem _ wd_341))⟩ (kpV hK hP hD hN hZ hS 6 12 rfl rfl) rfl rfl hl.1 rfl (lv_room (Nat.le_of_ble_eq_true rfl)) d_Nt_fill_32 ⟨Nat.le_of_ble_eq_true rfl, Nat.le_of_ble_eq_true rfl⟩) hP hD hS hA (fun r w H locs hw hP hD hS => ?_)
        obtain ⟨rfl, rfl⟩ := hw
        refine lv_goto (tgt := 49) hx hb d_Nt_fill_35 (by decide) ?_
        exact w_Nt_fill_49 C0 hret   (f_Nt_fill_2  n) ih x1 x2 q_2.1 q_5.1 q_5.2 H locs ls hP hD hS (lv_sub hl [1, 2, 3, 0] rfl) hf
def f_Nt_fill_0   (x1 : Int32) (S : St) : Option St :=
  f_Nt_fill_2   FU x1 0 S
set_option maxHeartbeats 4000000 in
set_option maxRecDepth 100000 in
theorem w_Nt_fill_0 (C0 : CX p s m args c b_Nt_fill 5 R_Nt w_Nt_fill D clC cA cP A) {res : St} (hret : RTv p l e rm_Nt_fill s m args below meth c Q D clC A b_Nt_fill 0 0 (fun w => w = cw cA cP ob ad res))    : ∀ (x1 : Int32) (S : St) (H : Heap) (locs : List Loc) (ls : Array Slot), va_P D clC (cw cA cP ob ad S) H → va_D A (cw cA cP ob ad S) → va_S A s.heap H locs → lv_has ls 5 [(0, .ref (ob 3)), (1, .int x1)] → f_Nt_fill_0   x1 S = some res → W p l e rm_Nt_fill s m args below meth c H locs 0 0 Q (F0 m 0 ls []) := by
  obtain ⟨hx, hb, hml, hown, hts, hK, hA, hN, hZ⟩ := id C0
  intro x1 S H locs ls hP hD hS hl hf
  rw [f_Nt_fill_0] at hf
  refine lv_iconst (v := 0) hx hb d_Nt_fill_0 (by decide) ?_
  refine lv_istore_n (lv' := [(2, .int 0), (0, .ref (ob 3)), (1, .int x1)]) hx hb d_Nt_fill_1 rfl hl (by decide) rfl (fun ls hl => ?_)
  exact w_Nt_fill_2 C0 hret    FU x1 0 S H locs ls hP hD hS (lv_sub hl [1, 2, 0] rfl) hf
def f_Nt_fill (x1 : Int32) (S : St) : Option St := f_Nt_fill_0  x1 S
theorem c_Nt_fill (l : Launch) (D : va_G) (cA cP : ClassId) (ob : Nat → Nat) (ad : Nat → Nat → Nat) (x1 : Int32)  (S : St) {res : St} (hf : f_Nt_fill x1 S = some res) : CTv l y_Nt_fill w_Nt_fill rm_Nt_fill 0 0 D clC (TY cA cP) [.ref (ob 3), .int x1] (cw cA cP ob ad S) (fun w => w = cw cA cP ob ad res) :=
  mk_v (cc := b_Nt_fill) (maxL := 5) (own := R_Nt) (by decide) rfl rfl (Nat.le_of_ble_eq_true rfl) (fun p e s m below meth c A Q C0 hret ls hl hP hD hS => w_Nt_fill_0 C0 hret   x1 S _ _ ls hP hD hS (lv_sub hl [0, 1] rfl) hf)
end
