section
variable {p : Program} {l : Launch} {e : Env} {s : State} {m : MethodId} {args : Array Value} {below : List Frame} {meth : Method} {c : Code} {Q : State → Prop} {D : va_G} {cA cP : ClassId} {ob : Nat → Nat} {ad : Nat → Nat → Nat} {A : Nat → Prop}
def f_Rl_sortInto_144 (k1 : Nat) (k2 : Nat)  : Nat → Int32 → Int32 → Int32 → St → Option St
  | 0 => fun _ _ _ _ => none
  | n + 1 => fun x3 x4 x5 S => (if x3 ≤ x5 then
      some S
      else
      bd (f_Rw_get k1 x5 S) (fun q_2 => bd (f_Nt_ahead q_2.1 x4 q_2.2) (fun q_3 => bd (f_Nt_startOf q_3.1 q_3.2) (fun q_4 => bd (f_Rw_get 16 q_4.1 q_4.2) (fun q_5 => bd (f_Rw_put k2 q_5.1 q_2.1 q_5.2) (fun q_6 => bd (f_Rw_put 16 q_4.1 (q_5.1 + 1) q_6) (fun q_7 => bn (x5 + 1) (fun x5_8 => f_Rl_sortInto_144 k1 k2 n x3 x4 x5_8 q_7))))))))
set_option maxHeartbeats 4000000 in
set_option maxRecDepth 100000 in
theorem w_Rl_sortInto_144 (C0 : CX p s m args c b_Rl_sortInto 9 R_Rl w_Rl_sortInto D clC cA cP A) {res : St} (hret : RTv p l e rm_Rl_sortInto s m args below meth c Q D clC A b_Rl_sortInto 0 0 (fun w => w = cw cA cP ob ad res)) (k1 : Nat) (k2 : Nat) (hk1 : isRow k1) (hk2 : isRow k2)  : ∀ (n : Nat) (x3 : Int32) (x4 : Int32) (x5 : Int32) (S : St) (H : Heap) (locs : List Loc) (ls : Array Slot), va_P D clC (cw cA cP ob ad S) H → va_D A (cw cA cP ob ad S) → va_S A s.heap H locs → lv_has ls 9 [(0, .ref (ob 4)), (1, .ref (ob k1)), (2, .ref (ob k2)), (3, .int x3), (4, .int x4), (5, .int x5)] → f_Rl_sortInto_144 k1 k2  n x3 x4 x5 S = some res → W p l e rm_Rl_sortInto s m args below meth c H locs 0 0 Q (F0 m 144 ls []) := by
  obtain ⟨hx, hb, hml, hown, hts, hK, hA, hN, hZ⟩ := id C0
  intro n
  induction n with
  | zero =>
    intro x3 x4 x5 S H locs ls hP hD hS hl hf
    cases hf
  | succ n ih =>
    intro x3 x4 x5 S H locs ls hP hD hS hl hf
    rw [f_Rl_sortInto_144] at hf
    try dsimp only at hf
    refine lv_iload hx hb d_Rl_sortInto_144 (lv_at hl 5 rfl) ?_
    refine lv_iload_n hx hb d_Rl_sortInto_146 rfl (lv_at hl 3 rfl) ?_
    refine lv_icmp_ge (tgt := 212) hx hb d_Rl_sortInto_147 (by decide) (fun c_1 => ?_) (fun c_1 => ?_)
    · rw [if_pos c_1] at hf
      cases hf
      exact hret _ _ _ _ _ rfl hP hD hS d_Rl_sortInto_212
    · rw [if_neg c_1] at hf
      refine lv_aload_n hx hb d_Rl_sortInto_150 rfl (lv_at hl 1 rfl) ?_
      refine lv_iload hx hb d_Rl_sortInto_151 (lv_at hl 5 rfl) ?_
      obtain ⟨q_2, hq_2, hf⟩ := bd_some hf
      refine kc_i (va_runV (As := [.int x5]) (rest := []) ⟨hx, hb, hml, hown, hts⟩ (c_Rw_get l D cA cP ob ad k1 x5 hk1 S hq_2 H.size) ⟨callB_of 1 hts (gd_Rw_get) rfl rfl rfl (hts _ (List.mem_cons_of_mem _ wd_67)) (hts _ (List.mem_cons_of_mem _ wd_708)) dd_Rw_get ⟨Nat.le_of_ble_eq_true rfl, Nat.le_of_ble_eq_true rfl⟩, (hts _ (List.mem_cons_of_mem _ wd_340)), (hts _ (List.mem_cons_of_mem _ wd_341))⟩ (kpV hK hP hD hN hZ hS 6 k1 rfl (cw_row S hk1)) rfl rfl hl.1 rfl (lv_room (Nat.le_of_ble_eq_true rfl)) d_Rl_sortInto_153 ⟨Nat.le_of_ble_eq_true rfl, Nat.le_of_ble_eq_true rfl⟩) hP hD hS hA (fun r w H locs hw hP hD hS => ?_)
      obtain ⟨rfl, rfl⟩ := hw
      refine lv_istore (lv' := [(6, .int q_2.1), (0, .ref (ob 4)), (1, .ref (ob k1)), (2, .ref (ob k2)), (3, .int x3), (4, .int x4), (5, .int x5)]) hx hb d_Rl_sortInto_156 hl (by decide) rfl (fun ls hl => ?_)
      refine lv_aload_n hx hb d_Rl_sortInto_158 rfl (lv_at hl 1 rfl) ?_
      refine va_get (D := D) (ci := 4) (v := .ref (ob 3)) (C := R_Rl) (T := F_Rl) (N := 6) hx hb hts (fun w h => List.mem_cons_of_mem _ (in_Rl w h)) hown hK hP 4 rfl rfl 1 (by decide) (hts _ (List.mem_cons_of_mem _ wd_207)) (fun _ h9 => h9) rfl d_Rl_sortInto_159 ?_
      refine lv_iload hx hb d_Rl_sortInto_162 (lv_at hl 0 rfl) ?_
      refine lv_iload hx hb d_Rl_sortInto_164 (lv_at hl 5 rfl) ?_
      obtain ⟨q_3, hq_3, hf⟩ := bd_some hf
      refine kc_i (va_runS (As := [.int q_2.1, .int x4]) (rest := [.ref (ob 3)]) ⟨hx, hb, hml, hown, hts⟩ (c_Nt_ahead l D cA cP ob ad q_2.1 x4  q_2.2 hq_3 H.size) ⟨callB_of 2 hts (gd_Nt_ahead) rfl rfl rfl (hts _ (List.mem_cons_of_mem _ wd_69)) (hts _ (List.mem_cons_of_mem _ wd_709)) dd_Nt_ahead ⟨Nat.le_of_ble_eq_true rfl, Nat.le_of_ble_eq_true rfl⟩, (hts _ (List.mem_cons_of_mem _ wd_382))⟩ (kpS hK hP hD hN hZ hS) rfl rfl hl.1 rfl (lv_room (Nat.le_of_ble_eq_true rfl)) d_Rl_sortInto_166 ⟨Nat.le_of_ble_eq_true rfl, Nat.le_of_ble_eq_true rfl⟩) hP hD hS hA (fun r w H locs hw hP hD hS => ?_)
      obtain ⟨rfl, rfl⟩ := hw
      obtain ⟨q_4, hq_4, hf⟩ := bd_some hf
      refine kc_i (va_runV (As := [.int q_3.1]) (rest := []) ⟨hx, hb, hml, hown, hts⟩ (c_Nt_startOf l D cA cP ob ad q_3.1  q_3.2 hq_4 H.size) ⟨callB_of 1 hts (gd_Nt_startOf) rfl rfl rfl (hts _ (List.mem_cons_of_mem _ wd_69)) (hts _ (List.mem_cons_of_mem _ wd_710)) dd_Nt_startOf ⟨Nat.le_of_ble_eq_true rfl, Nat.le_of_ble_eq_true rfl⟩, (hts _ (List.mem_cons_of_mem _ wd_393)), (hts _ (List.mem_cons_of_mem _ wd_394))⟩ (kpV hK hP hD hN hZ hS 3 3 rfl rfl) rfl rfl hl.1 rfl (lv_room (Nat.le_of_ble_eq_true rfl)) d_Rl_sortInto_169 ⟨Nat.le_of_ble_eq_true rfl, Nat.le_of_ble_eq_true rfl⟩) hP hD hS hA (fun r w H locs hw hP hD hS => ?_)
      obtain ⟨rfl, rfl⟩ := hw
      refine lv_istore (lv' := [(7, .int q_4.1), (6, .int q_2.1), (0, .ref (ob 4)), (1, .ref (ob k1)), (2, .ref (ob k2)), (3, .int x3), (4, .int x4), (5, .int x5)]) hx hb d_Rl_sortInto_172 hl (by decide) rfl (fun ls hl => ?_)
      refine lv_aload_n hx hb d_Rl_sortInto_174 rfl (lv_at hl 2 rfl) ?_
      refine va_get (D := D) (ci := 4) (v := .ref (ob 16)) (C := R_Rl) (T := F_Rl) (N := 6) hx hb hts (fun w h => List.mem_cons_of_mem _ (in_Rl w h)) hown hK hP 4 rfl rfl 4 (by decide) (hts _ (List.mem_cons_of_mem _ wd_210)) (fun _ h9 => h9) rfl d_Rl_sortInto_175 ?_
      refine lv_iload hx hb d_Rl_sortInto_178 (lv_at hl 0 rfl) ?_
      obtain ⟨q_5, hq_5, hf⟩ := bd_some hf
      refine kc_i (va_runV (As := [.int q_4.1]) (rest := []) ⟨hx, hb, hml, hown, hts⟩ (c_Rw_get l D cA cP ob ad 16 q_4.1 (by decide) q_4.2 hq_5 H.size) ⟨callB_of 1 hts (gd_Rw_get) rfl rfl rfl (hts _ (List.mem_cons_of_mem _ wd_67)) (hts _ (List.mem_cons_of_mem _ wd_708)) dd_Rw_get ⟨Nat.le_of_ble_eq_true rfl, Nat.le_of_ble_eq_true rfl⟩, (hts _ (List.mem_cons_of_mem _ wd_340)), (hts _ (List.mem_cons_of_mem _ wd_341))⟩ (kpV hK hP hD hN hZ hS 6 16 rfl rfl) rfl rfl hl.1 rfl (lv_room (Nat.le_of_ble_eq_true rfl)) d_Rl_sortInto_180 ⟨Nat.le_of_ble_eq_true rfl, Nat.le_of_ble_eq_true rfl⟩) hP hD hS hA (fun r w H locs hw hP hD hS => ?_)
      obtain ⟨rfl, rfl⟩ := hw
      refine lv_istore (lv' := [(8, .int q_5.1), (7, .int q_4.1), (6, .int q_2.1), (0, .ref (ob 4)), (1, .ref (ob k1)), (2, .ref (ob k2)), (3, .int x3), (4, .int x4), (5, .int x5)]) hx hb d_Rl_sortInto_183 hl (by decide) rfl (fun ls hl => ?_)
      refine lv_aload_n hx hb d_Rl_sortInto_185 rfl (lv_at hl 5 rfl) ?_
      refine lv_iload hx hb d_Rl_sortInto_186 (lv_at hl 0 rfl) ?_
      refine lv_iload hx hb d_Rl_sortInto_188 (lv_at hl 2 rfl) ?_
      obtain ⟨q_6, hq_6, hf⟩ := bd_some hf
      refine kc_v (va_runV (As := [.int q_5.1, .int q_2.1]) (rest := []) ⟨hx, hb, hml, hown, hts⟩ (c_Rw_put l D cA cP ob ad k2 q_5.1 q_2.1 hk2 q_5.2 hq_6 H.size) ⟨callB_of 2 hts (gd_Rw_put) rfl rfl rfl (hts _ (List.mem_cons_of_mem _ wd_67)) (hts _ (List.mem_cons_of_mem _ wd_703)) dd_Rw_put ⟨Nat.le_of_ble_eq_true rfl, Nat.le_of_ble_eq_true rfl⟩, (hts _ (List.mem_cons_of_mem _ wd_361)), (hts _ (List.mem_cons_of_mem _ wd_362))⟩ (kpV hK hP hD hN hZ hS 6 k2 rfl (cw_row q_5.2 hk2)) rfl rfl hl.1 rfl (lv_room (Nat.le_of_ble_eq_true rfl)) d_Rl_sortInto_190 ⟨Nat.le_of_ble_eq_true rfl, Nat.le_of_ble_eq_true rfl⟩) hP hD hS hA (fun w H locs hw hP hD hS => ?_)
      obtain rfl := hw
      refine lv_aload_n hx hb d_Rl_sortInto_193 rfl (lv_at hl 3 rfl) ?_
      refine va_get (D := D) (ci := 4) (v := .ref (ob 16)) (C := R_Rl) (T := F_Rl) (N := 6) hx hb hts (fun w h => List.mem_cons_of_mem _ (in_Rl w h)) hown hK hP 4 rfl rfl 4 (by decide) (hts _ (List.mem_cons_of_mem _ wd_210)) (fun _ h9 => h9) rfl d_Rl_sortInto_194 ?_
      refine lv_iload hx hb d_Rl_sortInto_197 (lv_at hl 1 rfl) ?_
      refine lv_iload hx hb d_Rl_sortInto_199 (lv_at hl 0 rfl) ?_
      refine lv_iconst (v := 1) hx hb d_Rl_sortInto_201 (by decide) ?_
      refine lv_iadd hx hb d_Rl_sortInto_202 ?_
      obtain ⟨q_7, hq_7, hf⟩ := bd_some hf
      refine kc_v (va_runV (As := [.int q_4.1, .int (q_5.1 + 1)]) (rest := []) ⟨hx, hb, hml, hown, hts⟩ (c_Rw_put l D cA cP ob ad 16 q_4.1 (q_5.1 + 1) (by decide) q_6 hq_7 H.size) ⟨callB_of 2 hts (gd_Rw_put) rfl rfl rfl (hts _ (List.mem_cons_of_mem _ wd_67)) (hts _ (List.mem_cons_of_mem _ wd_703)) dd_Rw_put ⟨Nat.le_of_ble_eq_true rfl, Nat.le_of_ble_eq_true rfl⟩, (hts _ (List.mem_cons_of_mem _ wd_361)), (hts _ (List.mem_cons_of_mem _ wd_362))⟩ (kpV hK hP hD hN hZ hS 6 16 rfl rfl) rfl rfl hl.1 rfl (lv_room (Nat.le_of_ble_eq_true rfl)) d_Rl_sortInto_203 ⟨Nat.le_of_ble_eq_true rfl, Nat.le_of_ble_eq_true rfl⟩) hP hD hS hA (fun w H locs hw hP hD hS => ?_)
      obtain rfl := hw
      obtain ⟨x5_8, ex5_8, hf⟩ := bn_some hf
      refine lv_iinc (v := x5_8) (lv' := [(5, .int x5_8), (8, .int q_5.1), (7, .int q_4.1), (6, .int q_2.1), (0, .ref (ob 4)), (1, .ref (ob k1)), (2, .ref (ob k2)), (3, .int x3), (4, .int x4)]) hx hb d_Rl_sortInto_206 hl (k := 8) rfl (by rw [ex5_8]; rfl) (by decide) rfl (fun ls hl => ?_)
      refine lv_goto (tgt := 144) hx hb d_Rl_sortInto_209 (by decide) ?_
      exact ih x3 x4 x5_8 q_7 H locs ls hP hD hS (lv_sub hl [4, 5, 6, 7, 8, 0] rfl) hf
def f_Rl_sortInto_93 (k1 : Nat) (k2 : Nat)  : Nat → Int32 → Int32 → Int32 → St → Option St
  | 0 => fun _ _ _ _ => none
  | n + 1 => fun x3 x4 x5 S => (if (gi S 3) ≤ x5 then
      f_Rl_sortInto_144 k1 k2  FU x3 x4 0 S
      else
      bd (f_Rw_get 16 x5 S) (fun q_2 => bd (f_Rw_get 16 (x5 - 1) q_2.2) (fun q_3 => bd (f_Rw_put 16 x5 (q_2.1 + q_3.1) q_3.2) (fun q_4 => bn (x5 + 1) (fun x5_5 => f_Rl_sortInto_93 k1 k2 n x3 x4 x5_5 q_4)))))
set_option maxHeartbeats 4000000 in
set_option maxRecDepth 100000 in
theorem w_Rl_sortInto_93 (C0 : CX p s m args c b_Rl_sortInto 9 R_Rl w_Rl_sortInto D clC cA cP A) {res : St} (hret : RTv p l e rm_Rl_sortInto s m args below meth c Q D clC A b_Rl_sortInto 0 0 (fun w => w = cw cA cP ob ad res)) (k1 : Nat) (k2 : Nat) (hk1 : isRow k1) (hk2 : isRow k2)  : ∀ (n : Nat) (x3 : Int32) (x4 : Int32) (x5 : Int32) (S : St) (H : Heap) (locs : List Loc) (ls : Array Slot), va_P D clC (cw cA cP ob ad S) H → va_D A (cw cA cP ob ad S) → va_S A s.heap H locs → lv_has ls 9 [(0, .ref (ob 4)), (1, .ref (ob k1)), (2, .ref (ob k2)), (3, .int x3), (4, .int x4), (5, .int x5)] → f_Rl_sortInto_93 k1 k2  n x3 x4 x5 S = some res → W p l e rm_Rl_sortInto s m args below meth c H locs 0 0 Q (F0 m 93 ls []) := by
  obtain ⟨hx, hb, hml, hown, hts, hK, hA, hN, hZ⟩ := id C0
  intro n
  induction n with
  | zero =>
    intro x3 x4 x5 S H locs ls hP hD hS hl hf
    cases hf
  | succ n ih =>
    intro x3 x4 x5 S H locs ls hP hD hS hl hf
    rw [f_Rl_sortInto_93] at hf
    try dsimp only at hf
    refine lv_iload hx hb d_Rl_sortInto_93 (lv_at hl 5 rfl) ?_
    refine lv_aload_n hx hb d_Rl_sortInto_95 rfl (lv_at hl 0 rfl) ?_
    refine va_get (D := D) (ci := 4) (v := .ref (ob 1)) (C := R_Rl) (T := F_Rl) (N := 6) hx hb hts (fun w h => List.mem_cons_of_mem _ (in_Rl w h)) hown hK hP 4 rfl rfl 0 (by decide) (hts _ (List.mem_cons_of_mem _ wd_206)) (fun _ h9 => h9) rfl d_Rl_sortInto_96 ?_
    refine va_get (D := D) (ci := 1) (v := .int (gi S 3)) (C := R_Pt) (T := F_Pt) (N := 5) hx hb hts (fun w h => List.mem_cons_of_mem _ (in_Pt w h)) hown hK hP 1 rfl rfl 1 (by decide) (hts _ (List.mem_cons_of_mem _ wd_134)) (fun _ h9 => h9) rfl d_Rl_sortInto_99 ?_
    refine lv_icmp_ge (tgt := 141) hx hb d_Rl_sortInto_102 (by decide) (fun c_1 => ?_) (fun c_1 => ?_)
    · rw [if_pos c_1] at hf
      refine lv_iconst (v := 0) hx hb d_Rl_sortInto_141 (by decide) ?_
      refine lv_istore (lv' := [(5, .int 0), (0, .ref (ob 4)), (1, .ref (ob k1)), (2, .ref (ob k2)), (3, .int x3), (4, .int x4)]) hx hb d_Rl_sortInto_142 hl (by decide) rfl (fun ls hl => ?_)
      exact w_Rl_sortInto_144 C0 hret k1 k2 hk1 hk2  FU x3 x4 0 S H locs ls hP hD hS (lv_sub hl [1, 2, 3, 4, 5, 0] rfl) hf
    · rw [if_neg c_1] at hf
      refine lv_aload_n hx hb d_Rl_sortInto_105 rfl (lv_at hl 0 rfl) ?_
      refine va_get (D := D) (ci := 4) (v := .ref (ob 16)) (C := R_Rl) (T := F_Rl) (N := 6) hx hb hts (fun w h => List.mem_cons_of_mem _ (in_Rl w h)) hown hK hP 4 rfl rfl 4 (by decide) (hts _ (List.mem_cons_of_mem _ wd_210)) (fun _ h9 => h9) rfl d_Rl_sortInto_106 ?_
      refine lv_iload hx hb d_Rl_sortInto_109 (lv_at hl 5 rfl) ?_
      refine lv_aload_n hx hb d_Rl_sortInto_111 rfl (lv_at hl 0 rfl) ?_
      refine va_get (D := D) (ci := 4) (v := .ref (ob 16)) (C := R_Rl) (T := F_Rl) (N := 6) hx hb hts (fun w h => List.mem_cons_of_mem _ (in_Rl w h)) hown hK hP 4 rfl rfl 4 (by decide) (hts _ (List.mem_cons_of_mem _ wd_210)) (fun _ h9 => h9) rfl d_Rl_sortInto_112 ?_
      refine lv_iload hx hb d_Rl_sortInto_115 (lv_at hl 5 rfl) ?_
      obtain ⟨q_2, hq_2, hf⟩ := bd_some hf
      refine kc_i (va_runV (As := [.int x5]) (rest := [.int x5, .ref (ob 16)]) ⟨hx, hb, hml, hown, hts⟩ (c_Rw_get l D cA cP ob ad 16 x5 (by decide) S hq_2 H.size) ⟨callB_of 1 hts (gd_Rw_get) rfl rfl rfl (hts _ (List.mem_cons_of_mem _ wd_67)) (hts _ (List.mem_cons_of_mem _ wd_708)) dd_Rw_get ⟨Nat.le_of_ble_eq_true rfl, Nat.le_of_ble_eq_true rfl⟩, (hts _ (List.mem_cons_of_mem _ wd_340)), (hts _ (List.mem_cons_of_mem _ wd_341))⟩ (kpV hK hP hD hN hZ hS 6 16 rfl rfl) rfl rfl hl.1 rfl (lv_room (Nat.le_of_ble_eq_true rfl)) d_Rl_sortInto_117 ⟨Nat.le_of_ble_eq_true rfl, Nat.le_of_ble_eq_true rfl⟩) hP hD hS hA (fun r w H locs hw hP hD hS => ?_)
      obtain ⟨rfl, rfl⟩ := hw
      refine lv_aload_n hx hb d_Rl_sortInto_120 rfl (lv_at hl 0 rfl) ?_
      refine va_get (D := D) (ci := 4) (v := .ref (ob 16)) (C := R_Rl) (T := F_Rl) (N := 6) hx hb hts (fun w h => List.mem_cons_of_mem _ (in_Rl w h)) hown hK hP 4 rfl rfl 4 (by decide) (hts _ (List.mem_cons_of_mem _ wd_210)) (fun _ h9 => h9) rfl d_Rl_sortInto_121 ?_
      refine lv_iload hx hb d_Rl_sortInto_124 (lv_at hl 5 rfl) ?_
      refine lv_iconst (v := 1) hx hb d_Rl_sortInto_126 (by decide) ?_
      refine lv_isub hx hb d_Rl_sortInto_127 ?_
      obtain ⟨q_3, hq_3, hf⟩ := bd_some hf
      refine kc_i (va_runV (As := [.int (x5 - 1)]) (rest := [.int q_2.1, .int x5, .ref (ob 16)]) ⟨hx, hb, hml, hown, hts⟩ (c_Rw_get l D cA cP ob ad 16 (x5 - 1) (by decide) q_2.2 hq_3 H.size) ⟨callB_of 1 hts (gd_Rw_get) rfl rfl rfl (hts _ (List.mem_cons_of_mem _ wd_67)) (hts _ (List.mem_cons_of_mem _ wd_708)) dd_Rw_get ⟨Nat.le_of_ble_eq_true rfl, Nat.le_of_ble_eq_true rfl⟩, (hts _ (List.mem_cons_of_mem _ wd_340)), (hts _ (List.mem_cons_of_mem _ wd_341))⟩ (kpV hK hP hD hN hZ hS 6 16 rfl rfl) rfl rfl hl.1 rfl (lv_room (Nat.le_of_ble_eq_true rfl)) d_Rl_sortInto_128 ⟨Nat.le_of_ble_eq_true rfl, Nat.le_of_ble_eq_true rfl⟩) hP hD hS hA (fun r w H locs hw hP hD hS => ?_)
      obtain ⟨rfl, rfl⟩ := hw
      refine lv_iadd hx hb d_Rl_sortInto_131 ?_
      obtain ⟨q_4, hq_4, hf⟩ := bd_some hf
      refine kc_v (va_runV (As := [.int x5, .int (q_2.1 + q_3.1)]) (rest := []) ⟨hx, hb, hml, hown, hts⟩ (c_Rw_put l D cA cP ob ad 16 x5 (q_2.1 + q_3.1) (by decide) q_3.2 hq_4 H.size) ⟨callB_of 2 hts (gd_Rw_put) rfl rfl rfl (hts _ (List.mem_cons_of_mem _ wd_67)) (hts _ (List.mem_cons_of_mem _ wd_703)) dd_Rw_put ⟨Nat.le_of_ble_eq_true rfl, Nat.le_of_ble_eq_true rfl⟩, (hts _ (List.mem_cons_of_mem _ wd_361)), (hts _ (List.mem_cons_of_mem _ wd_362))⟩ (kpV hK hP hD hN hZ hS 6 16 rfl rfl) rfl rfl hl.1 rfl (lv_room (Nat.le_of_ble_eq_true rfl)) d_Rl_sortInto_132 ⟨Nat.le_of_ble_eq_true rfl, Nat.le_of_ble_eq_true rfl⟩) hP hD hS hA (fun w H locs hw hP hD hS => ?_)
      obtain rfl := hw
      obtain ⟨x5_5, ex5_5, hf⟩ := bn_some hf
      refine lv_iinc (v := x5_5) (lv' := [(5, .int x5_5), (0, .ref (ob 4)), (1, .ref (ob k1)), (2, .ref (ob k2)), (3, .int x3), (4, .int x4)]) hx hb d_Rl_sortInto_135 hl (k := 5) rfl (by rw [ex5_5]; rfl) (by decide) rfl (fun ls hl => ?_)
      refine lv_goto (tgt := 93) hx hb d_Rl_sortInto_138 (by decide) ?_
      exact ih x3 x4 x5_5 q_4 H locs ls hP hD hS (lv_sub hl [1, 2, 3, 4, 5, 0] rfl) hf
def f_Rl_sortInto_34 (k1 : Nat) (k2 : Nat)  : Nat → Int32 → Int32 → Int32 → St → Option St
  | 0 => fun _ _ _ _ => none
  | n + 1 => fun x3 x4 x5 S => (if x3 ≤ x5 then
      f_Rl_sortInto_93 k1 k2  FU x3 x4 1 S
      else
      bd (f_Rw_get k1 x5 S) (fun q_2 => bd (f_Nt_ahead q_2.1 x4 q_2.2) (fun q_3 => bd (f_Nt_startOf q_3.1 q_3.2) (fun q_4 => bd (f_Rw_get 16 (q_4.1 + 1) q_4.2) (fun q_5 => bd (f_Rw_put 16 (q_4.1 + 1) (q_5.1 + 1) q_5.2) (fun q_6 => bn (x5 + 1) (fun x5_7 => f_Rl_sortInto_34 k1 k2 n x3 x4 x5_7 q_6)))))))
set_option maxHeartbeats 4000000 in
set_option maxRecDepth 100000 in
theorem w_Rl_sortInto_34 (C0 : CX p s m args c b_Rl_sortInto 9 R_Rl w_Rl_sortInto D clC cA cP A) {res : St} (hret : RTv p l e rm_Rl_sortInto s m args below meth c Q D clC A b_Rl_sortInto 0 0 (fun w => w = cw cA cP ob ad res)) (k1 : Nat) (k2 : Nat) (hk1 : isRow k1) (hk2 : isRow k2)  : ∀ (n : Nat) (x3 : Int32) (x4 : Int32) (x5 : Int32) (S : St) (H : Heap) (locs : List Loc) (ls : Array Slot), va_P D clC (cw cA cP ob ad S) H → va_D A (cw cA cP ob ad S) → va_S A s.heap H locs → lv_has ls 9 [(0, .ref (ob 4)), (1, .ref (ob k1)), (2, .ref (ob k2)), (3, .int x3), (4, .int x4), (5, .int x5)] → f_Rl_sortInto_34 k1 k2  n x3 x4 x5 S = some res → W p l e rm_Rl_sortInto s m args below meth c H locs 0 0 Q (F0 m 34 ls []) := by
  obtain ⟨hx, hb, hml, hown, hts, hK, hA, hN, hZ⟩ := id C0
  intro n
  induction n with
  | zero =>
    intro x3 x4 x5 S H locs ls hP hD hS hl hf
    cases hf
  | succ n ih =>
    intro x3 x4 x5 S H locs ls hP hD hS hl hf
    rw [f_Rl_sortInto_34] at hf
    try dsimp only at hf
    refine lv_iload hx hb d_Rl_sortInto_34 (lv_at hl 5 rfl) ?_
    refine lv_iload_n hx hb d_Rl_sortInto_36 rfl (lv_at hl 3 rfl) ?_
    refine lv_icmp_ge (tgt := 90) hx hb d_Rl_sortInto_37 (by decide) (fun c_1 => ?_) (fun c_1 => ?_)
    · rw [if_pos c_1] at hf
      refine lv_iconst (v := 1) hx hb d_Rl_sortInto_90 (by decide) ?_
      refine lv_istore (lv' := [(5, .int 1), (0, .ref (ob 4)), (1, .ref (ob k1)), (2, .ref (ob k2)), (3, .int x3), (4, .int x4)]) hx hb d_Rl_sortInto_91 hl (by decide) rfl (fun ls hl => ?_)
      exact w_Rl_sortInto_93 C0 hret k1 k2 hk1 hk2  FU x3 x4 1 S H locs ls hP hD hS (lv_sub hl [1, 2, 3, 4, 5, 0] rfl) hf
    · rw [if_neg c_1] at hf
      refine lv_aload_n hx hb d_Rl_sortInto_40 rfl (lv_at hl 0 rfl) ?_
      refine va_get (D := D) (ci := 4) (v := .ref (ob 3)) (C := R_Rl) (T := F_Rl) (N := 6) hx hb hts (fun w h => List.mem_cons_of_mem _ (in_Rl w h)) hown hK hP 4 rfl rfl 1 (by decide) (hts _ (List.mem_cons_of_mem _ wd_207)) (fun _ h9 => h9) rfl d_Rl_sortInto_41 ?_
      refine lv_aload_n hx hb d_Rl_sortInto_44 rfl (lv_at hl 1 rfl) ?_
      refine lv_iload hx hb d_Rl_sortInto_45 (lv_at hl 5 rfl) ?_
      obtain ⟨q_2, hq_2, hf⟩ := bd_some hf
      refine kc_i (va_runV (As := [.int x5]) (rest := [.ref (ob 3)]) ⟨hx, hb, hml, hown, hts⟩ (c_Rw_get l D cA cP ob ad k1 x5 hk1 S hq_2 H.size) ⟨callB_of 1 hts (gd_Rw_get) rfl rfl rfl (hts _ (List.mem_cons_of_mem _ wd_67)) (hts _ (List.mem_cons_of_mem _ wd_708)) dd_Rw_get ⟨Nat.le_of_ble_eq_true rfl, Nat.le_of_ble_eq_true rfl⟩, (hts _ (List.mem_cons_of_mem _ wd_340)), (hts _ (List.mem_cons_of_mem _ wd_341))⟩ (kpV hK hP hD hN hZ hS 6 k1 rfl (cw_row S hk1)) rfl rfl hl.1 rfl (lv_room (Nat.le_of_ble_eq_true rfl)) d_Rl_sortInto_47 ⟨Nat.le_of_ble_eq_true rfl, Nat.le_of_ble_eq_true rfl⟩) hP hD hS hA (fun r w H locs hw hP hD hS => ?_)
      obtain ⟨rfl, rfl⟩ := hw
      refine lv_iload hx hb d_Rl_sortInto_50 (lv_at hl 4 rfl) ?_
      obtain ⟨q_3, hq_3, hf⟩ := bd_some hf
      refine kc_i (va_runS (As := [.int q_2.1, .int x4]) (rest := [.ref (ob 3)]) ⟨hx, hb, hml, hown, hts⟩ (c_Nt_ahead l D cA cP ob ad q_2.1 x4  q_2.2 hq_3 H.size) ⟨callB_of 2 hts (gd_Nt_ahead) rfl rfl rfl (hts _ (List.mem_cons_of_mem _ wd_69)) (hts _ (List.mem_cons_of_mem _ wd_709)) dd_Nt_ahead ⟨Nat.le_of_ble_eq_true rfl, Nat.le_of_ble_eq_true rfl⟩, (hts _ (List.mem_cons_of_mem _ wd_382))⟩ (kpS hK hP hD hN hZ hS) rfl rfl hl.1 rfl (lv_room (Nat.le_of_ble_eq_true rfl)) d_Rl_sortInto_52 ⟨Nat.le_of_ble_eq_true rfl, Nat.le_of_ble_eq_true rfl⟩) hP hD hS hA (fun r w H locs hw hP hD hS => ?_)
      obtain ⟨rfl, rfl⟩ := hw
      obtain ⟨q_4, hq_4, hf⟩ := bd_some hf
      refine kc_i (va_runV (As := [.int q_3.1]) (rest := []) ⟨hx, hb, hml, hown, hts⟩ (c_Nt_startOf l D cA cP ob ad q_3.1  q_3.2 hq_4 H.size) ⟨callB_of 1 hts (gd_Nt_startOf) rfl rfl rfl (hts _ (List.mem_cons_of_mem _ wd_69)) (hts _ (List.mem_cons_of_mem _ wd_710)) dd_Nt_startOf ⟨Nat.le_of_ble_eq_true rfl, Nat.le_of_ble_eq_true rfl⟩, (hts _ (List.mem_cons_of_mem _ wd_393)), (hts _ (List.mem_cons_of_mem _ wd_394))⟩ (kpV hK hP hD hN hZ hS 3 3 rfl rfl) rfl rfl hl.1 rfl (lv_room (Nat.le_of_ble_eq_true rfl)) d_Rl_sortInto_55 ⟨Nat.le_of_ble_eq_true rfl, Nat.le_of_ble_eq_true rfl⟩) hP hD hS hA (fun r w H locs hw hP hD hS => ?_)
      obtain ⟨rfl, rfl⟩ := hw
      refine lv_istore (lv' := [(6, .int q_4.1), (0, .ref (ob 4)), (1, .ref (ob k1)), (2, .ref (ob k2)), (3, .int x3), (4, .int x4), (5, .int x5)]) hx hb d_Rl_sortInto_58 hl (by decide) rfl (fun ls hl => ?_)
      refine lv_aload_n hx hb d_Rl_sortInto_60 rfl (lv_at hl 1 rfl) ?_
      refine va_get (D := D) (ci := 4) (v := .ref (ob 16)) (C := R_Rl) (T := F_Rl) (N := 6) hx hb hts (fun w h => List.mem_cons_of_mem _ (in_Rl w h)) hown hK hP 4 rfl rfl 4 (by decide) (hts _ (List.mem_cons_of_mem _ wd_210)) (fun _ h9 => h9) rfl d_Rl_sortInto_61 ?_
      refine lv_iload hx hb d_Rl_sortInto_64 (lv_at hl 0 rfl) ?_
      refine lv_iconst (v := 1) hx hb d_Rl_sortInto_66 (by decide) ?_
      refine lv_iadd hx hb d_Rl_sortInto_67 ?_
      refine lv_aload_n hx hb d_Rl_sortInto_68 rfl (lv_at hl 1 rfl) ?_
      refine va_get (D := D) (ci := 4) (v := .ref (ob 16)) (C := R_Rl) (T := F_Rl) (N := 6) hx hb hts (fun w h => List.mem_cons_of_mem _ (in_Rl w h)) hown hK hP 4 rfl rfl 4 (by decide) (hts _ (List.mem_cons_of_mem _ wd_210)) (fun _ h9 => h9) rfl d_Rl_sortInto_69 ?_
      refine lv_iload hx hb d_Rl_sortInto_72 (lv_at hl 0 rfl) ?_
      refine lv_iconst (v := 1) hx hb d_Rl_sortInto_74 (by decide) ?_
      refine lv_iadd hx hb d_Rl_sortInto_75 ?_
      obtain ⟨q_5, hq_5, hf⟩ := bd_some hf
      refine kc_i (va_runV (As := [.int (q_4.1 + 1)]) (rest := [.int (q_4.1 + 1), .ref (ob 16)]) ⟨hx, hb, hml, hown, hts⟩ (c_Rw_get l D cA cP ob ad 16 (q_4.1 + 1) (by decide) q_4.2 hq_5 H.size) ⟨callB_of 1 hts (gd_Rw_get) rfl rfl rfl (hts _ (List.mem_cons_of_mem _ wd_67)) (hts _ (List.mem_cons_of_mem _ wd_708)) dd_Rw_get ⟨Nat.le_of_ble_eq_true rfl, Nat.le_of_ble_eq_true rfl⟩, (hts _ (List.mem_cons_of_mem _ wd_340)), (hts _ (List.mem_cons_of_mem _ wd_341))⟩ (kpV hK hP hD hN hZ hS 6 16 rfl rfl) rfl rfl hl.1 rfl (lv_room (Nat.le_of_ble_eq_true rfl)) d_Rl_sortInto_76 ⟨Nat.le_of_ble_eq_true rfl, Nat.le_of_ble_eq_true rfl⟩) hP hD hS hA (fun r w H locs hw hP hD hS => ?_)
      obtain ⟨rfl, rfl⟩ := hw
      refine lv_iconst (v := 1) hx hb d_Rl_sortInto_79 (by decide) ?_
      refine lv_iadd hx hb d_Rl_sortInto_80 ?_
      obtain ⟨q_6, hq_6, hf⟩ := bd_some hf
      refine kc_v (va_runV (As := [.int (q_4.1 + 1), .int (q_5.1 + 1)]) (rest := []) ⟨hx, hb, hml, hown, hts⟩ (c_Rw_put l D cA cP ob ad 16 (q_4.1 + 1) (q_5.1 + 1) (by decide) q_5.2 hq_6 H.size) ⟨callB_of 2 hts (gd_Rw_put) rfl rfl rfl (hts _ (List.mem_cons_of_mem _ wd_67)) (hts _ (List.mem_cons_of_mem _ wd_703)) dd_Rw_put ⟨Nat.le_of_ble_eq_true rfl, Nat.le_of_ble_eq_true rfl⟩, (hts _ (List.mem_cons_of_mem _ wd_361)), (hts _ (List.mem_cons_of_mem _ wd_362))⟩ (kpV hK hP hD hN hZ hS 6 16 rfl rfl) rfl rfl hl.1 rfl (lv_room (Nat.le_of_ble_eq_true rfl)) d_Rl_sortInto_81 ⟨Nat.le_of_ble_eq_true rfl, Nat.le_of_ble_eq_true rfl⟩) hP hD hS hA (fun w H locs hw hP hD hS => ?_)
      obtain rfl := hw
      obtain ⟨x5_7, ex5_7, hf⟩ := bn_some hf
      refine lv_iinc (v := x5_7) (lv' := [(5, .int x5_7), (6, .int q_4.1), (0, .ref (ob 4)), (1, .ref (ob k1)), (2, .ref (ob k2)), (3, .int x3), (4, .int x4)]) hx hb d_Rl_sortInto_84 hl (k := 6) rfl (by rw [ex5_7]; rfl) (by decide) rfl (fun ls hl => ?_)
      refine lv_goto (tgt := 34) hx hb d_Rl_sortInto_87 (by decide) ?_
      exact ih x3 x4 x5_7 q_6 H locs ls hP hD hS (lv_sub hl [2, 3, 4, 5, 6, 0] rfl) hf
def f_Rl_sortInto_3 (k1 : Nat) (k2 : Nat)  : Nat → Int32 → Int32 → Int32 → St → Option St
  | 0 => fun _ _ _ _ => none
  | n + 1 => fun x3 x4 x5 S => (if (gi S 3) < x5 then
      f_Rl_sortInto_34 k1 k2  FU x3 x4 0 S
      else
      bd (f_Rw_put 16 x5 0 S) (fun q_2 => bn (x5 + 1) (fun x5_3 => f_Rl_sortInto_3 k1 k2 n x3 x4 x5_3 q_2)))
set_option maxHeartbeats 4000000 in
set_option maxRecDepth 100000 in
theorem w_Rl_sortInto_3 (C0 : CX p s m args c b_Rl_sortInto 9 R_Rl w_Rl_sortInto D clC cA cP A) {res : St} (hret : RTv p l e rm_Rl_sortInto s m args below meth c Q D clC A b_Rl_sortInto 0 0 (fun w => w = cw cA cP ob ad res)) (k1 : Nat) (k2 : Nat) (hk1 : isRow k1) (hk2 : isRow k2)  : ∀ (n : Nat) (x3 : Int32) (x4 : Int32) (x5 : Int32) (S : St) (H : Heap) (locs : List Loc) (ls : Array Slot), va_P D clC (cw cA cP ob ad S) H → va_D A (cw cA cP ob ad S) → va_S A s.heap H locs → lv_has ls 9 [(0, .ref (ob 4)), (1, .ref (ob k1)), (2, .ref (ob k2)), (3, .int x3), (4, .int x4), (5, .int x5)] → f_Rl_sortInto_3 k1 k2  n x3 x4 x5 S = some res → W p l e rm_Rl_sortInto s m args below meth c H locs 0 0 Q (F0 m 3 ls []) := by
  obtain ⟨hx, hb, hml, hown, hts, hK, hA, hN, hZ⟩ := id C0
  intro n
  induction n with
  | zero =>
    intro x3 x4 x5 S H locs ls hP hD hS hl hf
    cases hf
  | succ n ih =>
    intro x3 x4 x5 S H locs ls hP hD hS hl hf
    rw [f_Rl_sortInto_3] at hf
    try dsimp only at hf
    refine lv_iload hx hb d_Rl_sortInto_3 (lv_at hl 5 rfl) ?_
    refine lv_aload_n hx hb d_Rl_sortInto_5 rfl (lv_at hl 0 rfl) ?_
    refine va_get (D := D) (ci := 4) (v := .ref (ob 1)) (C := R_Rl) (T := F_Rl) (N := 6) hx hb hts (fun w h => List.mem_cons_of_mem _ (in_Rl w h)) hown hK hP 4 rfl rfl 0 (by decide) (hts _ (List.mem_cons_of_mem _ wd_206)) (fun _ h9 => h9) rfl d_Rl_sortInto_6 ?_
    refine va_get (D := D) (ci := 1) (v := .int (gi S 3)) (C := R_Pt) (T := F_Pt) (N := 5) hx hb hts (fun w h => List.mem_cons_of_mem _ (in_Pt w h)) hown hK hP 1 rfl rfl 1 (by decide) (hts _ (List.mem_cons_of_mem _ wd_134)) (fun _ h9 => h9) rfl d_Rl_sortInto_9 ?_
    refine lv_icmp_gt (tgt := 31) hx hb d_Rl_sortInto_12 (by decide) (fun c_1 => ?_) (fun c_1 => ?_)
    · rw [if_pos c_1] at hf
      refine lv_iconst (v := 0) hx hb d_Rl_sortInto_31 (by decide) ?_
      refine lv_istore (lv' := [(5, .int 0), (0, .ref (ob 4)), (1, .ref (ob k1)), (2, .ref (ob k2)), (3, .int x3), (4, .int x4)]) hx hb d_Rl_sortInto_32 hl (by decide) rfl (fun ls hl => ?_)
      exact w_Rl_sortInto_34 C0 hret k1 k2 hk1 hk2  FU x3 x4 0 S H locs ls hP hD hS (lv_sub hl [1, 2, 3, 4, 5, 0] rfl) hf
    · rw [if_neg c_1] at hf
      refine lv_aload_n hx hb d_Rl_sortInto_15 rfl (lv_at hl 0 rfl) ?_
      refine va_get (D := D) (ci := 4) (v := .ref (ob 16)) (C := R_Rl) (T := F_Rl) (N := 6) hx hb hts (fun w h => List.mem_cons_of_mem _ (in_Rl w h)) hown hK hP 4 rfl rfl 4 (by decide) (hts _ (List.mem_cons_of_mem _ wd_210)) (fun _ h9 => h9) rfl d_Rl_sortInto_16 ?_
      refine lv_iload hx hb d_Rl_sortInto_19 (lv_at hl 5 rfl) ?_
      refine lv_iconst (v := 0) hx hb d_Rl_sortInto_21 (by decide) ?_
      obtain ⟨q_2, hq_2, hf⟩ := bd_some hf
      refine kc_v (va_runV (As := [.int x5, .int 0]) (rest := []) ⟨hx, hb, hml, hown, hts⟩ (c_Rw_put l D cA cP ob ad 16 x5 0 (by decide) S hq_2 H.size) ⟨callB_of 2 hts (gd_Rw_put) rfl rfl rfl (hts _ (List.mem_cons_of_mem _ wd_67)) (hts _ (List.mem_cons_of_mem _ wd_703)) dd_Rw_put ⟨Nat.le_of_ble_eq_true rfl, Nat.le_of_ble_eq_true rfl⟩, (hts _ (List.mem_cons_of_mem _ wd_361)), (hts _ (List.mem_cons_of_mem _ wd_362))⟩ (kpV hK hP hD hN hZ hS 6 16 rfl rfl) rfl rfl hl.1 rfl (lv_room (Nat.le_of_ble_eq_true rfl)) d_Rl_sortInto_22 ⟨Nat.le_of_ble_eq_true rfl, Nat.le_of_ble_eq_true rfl⟩) hP hD hS hA (fun w H locs hw hP hD hS => ?_)
      obtain rfl := hw
      obtain ⟨x5_3, ex5_3, hf⟩ := bn_some hf
      refine lv_iinc (v := x5_3) (lv' := [(5, .int x5_3), (0, .ref (ob 4)), (1, .ref (ob k1)), (2, .ref (ob k2)), (3, .int x3), (4, .int x4)]) hx hb d_Rl_sortInto_25 hl (k := 5) rfl (by rw [ex5_3]; rfl) (by decide) rfl (fun ls hl => ?_)
      refine lv_goto (tgt := 3) hx hb d_Rl_sortInto_28 (by decide) ?_
      exact ih x3 x4 x5_3 q_2 H locs ls hP hD hS (lv_sub hl [1, 2, 3, 4, 5, 0] rfl) hf
def f_Rl_sortInto_0 (k1 : Nat) (k2 : Nat)  (x3 : Int32) (x4 : Int32) (S : St) : Option St :=
  f_Rl_sortInto_3 k1 k2  FU x3 x4 0 S
set_option maxHeartbeats 4000000 in
set_option maxRecDepth 100000 in
theorem w_Rl_sortInto_0 (C0 : CX p s m args c b_Rl_sortInto 9 R_Rl w_Rl_sortInto D clC cA cP A) {res : St} (hret : RTv p l e rm_Rl_sortInto s m args below meth c Q D clC A b_Rl_sortInto 0 0 (fun w => w = cw cA cP ob ad res)) (k1 : Nat) (k2 : Nat) (hk1 : isRow k1) (hk2 : isRow k2)  : ∀ (x3 : Int32) (x4 : Int32) (S : St) (H : Heap) (locs : List Loc) (ls : Array Slot), va_P D clC (cw cA cP ob ad S) H → va_D A (cw cA cP ob ad S) → va_S A s.heap H locs → lv_has ls 9 [(0, .ref (ob 4)), (1, .ref (ob k1)), (2, .ref (ob k2)), (3, .int x3), (4, .int x4)] → f_Rl_sortInto_0 k1 k2  x3 x4 S = some res → W p l e rm_Rl_sortInto s m args below meth c H locs 0 0 Q (F0 m 0 ls []) := by
  obtain ⟨hx, hb, hml, hown, hts, hK, hA, hN, hZ⟩ := id C0
  intro x3 x4 S H locs ls hP hD hS hl hf
  rw [f_Rl_sortInto_0] at hf
  refine lv_iconst (v := 0) hx hb d_Rl_sortInto_0 (by decide) ?_
  refine lv_istore (lv' := [(5, .int 0), (0, .ref (ob 4)), (1, .ref (ob k1)), (2, .ref (ob k2)), (3, .int x3), (4, .int x4)]) hx hb d_Rl_sortInto_1 hl (by decide) rfl (fun ls hl => ?_)
  exact w_Rl_sortInto_3 C0 hret k1 k2 hk1 hk2  FU x3 x4 0 S H locs ls hP hD hS (lv_sub hl [1, 2, 3, 4, 5, 0] rfl) hf
def f_Rl_sortInto (k1 : Nat) (k2 : Nat) (x3 : Int32) (x4 : Int32) (S : St) : Option St := f_Rl_sortInto_0 k1 k2 x3 x4 S
theorem c_Rl_sortInto (l : Launch) (D : va_G) (cA cP : ClassId) (ob : Nat → Nat) (ad : Nat → Nat → Nat) (k1 : Nat) (k2 : Nat) (x3 : Int32) (x4 : Int32) (hk1 : isRow k1) (hk2 : isRow k2) (S : St) {res : St} (hf : f_Rl_sortInto k1 k2 x3 x4 S = some res) : CTv l y_Rl_sortInto w_Rl_sortInto rm_Rl_sortInto 0 0 D clC (TY cA cP) [.ref (ob 4), .ref (ob k1), .ref (ob k2), .int x3, .int x4] (cw cA cP ob ad S) (fun w => w = cw cA cP ob ad res) :=
  mk_v (cc := b_Rl_sortInto) (maxL := 9) (own := R_Rl) (by decide) rfl rfl (Nat.le_of_ble_eq_true rfl) (fun p e s m below meth c A Q C0 hret ls hl hP hD hS => w_Rl_sortInto_0 C0 hret k1 k2 hk1 hk2 x3 x4 S _ _ ls hP hD hS (lv_sub hl [0, 1, 2, 3, 4] rfl) hf)
def f_Rl_sortAll_0    (S : St) : Option St :=
  bd (f_Rl_gather  S) (fun q_1 => bd (f_Rl_sortInto 14 15 q_1.1 1 q_1.2) (fun q_2 => bd (f_Rl_sortInto 15 14 q_1.1 0 q_2) (fun q_3 => bn (seti q_3 10 1) (fun S_4 => some S_4))))
set_option maxHeartbeats 4000000 in
set_option maxRecDepth 100000 in
theorem w_Rl_sortAll_0 (C0 : CX p s m args c b_Rl_sortAll 2 R_Rl w_Rl_sortAll D clC cA cP A) {res : St} (hret : RTv p l e rm_Rl_sortAll s m args below meth c Q D clC A b_Rl_sortAll 0 0 (fun w => w = cw cA cP ob ad res))    : ∀  (S : St) (H : Heap) (locs : List Loc) (ls : Array Slot), va_P D clC (cw cA cP ob ad S) H → va_D A (cw cA cP ob ad S) → va_S A s.heap H locs → lv_has ls 2 [(0, .ref (ob 4))] → f_Rl_sortAll_0    S = some res → W p l e rm_Rl_sortAll s m args below meth c H locs 0 0 Q (F0 m 0 ls []) := by
  obtain ⟨hx, hb, hml, hown, hts, hK, hA, hN, hZ⟩ := id C0
  intro  S H locs ls hP hD hS hl hf
  rw [f_Rl_sortAll_0] at hf
  refine lv_aload_n hx hb d_Rl_sortAll_0 rfl (lv_at hl 0 rfl) ?_
  obtain ⟨q_1, hq_1, hf⟩ := bd_some hf
  refine kc_i (va_runV (As := []) (rest := []) ⟨hx, hb, hml, hown, hts⟩ (c_Rl_gather l D cA cP ob ad   S hq_1 H.size) ⟨callB_of 0 hts (gd_Rl_gather) rfl rfl rfl (hts _ (List.mem_cons_of_mem _ wd_70)) (hts _ (List.mem_cons_of_mem _ wd_690)) dd_Rl_gather ⟨Nat.le_of_ble_eq_true rfl, Nat.le_of_ble_eq_true rfl⟩, (hts _ (List.mem_cons_of_mem _ wd_692)), (hts _ (List.mem_cons_of_mem _ wd_25))⟩ (kpV hK hP hD hN hZ hS 4 4 rfl rfl) rfl rfl hl.1 rfl (lv_room (Nat.le_of_ble_eq_true rfl)) d_Rl_sortAll_1 ⟨Nat.le_of_ble_eq_true rfl, Nat.le_of_ble_eq_true rfl⟩) hP hD hS hA (fun r w H locs hw hP hD hS => ?_)
  obtain ⟨rfl, rfl⟩ := hw
  refine lv_istore_n (lv' := [(1, .int q_1.1), (0, .ref (ob 4))]) hx hb d_Rl_sortAll_4 rfl hl (by decide) rfl (fun ls hl => ?_)
  refine lv_aload_n hx hb d_Rl_sortAll_5 rfl (lv_at hl 1 rfl) ?_
  refine lv_aload_n hx hb d_Rl_sortAll_6 rfl (lv_at hl 1 rfl) ?_
  refine va_get (D := D) (ci := 4) (v := .ref (ob 14)) (C := R_Rl) (T := F_Rl) (N := 6) hx hb hts (fun w h => List.mem_cons_of_mem _ (in_Rl w h)) hown hK hP 4 rfl rfl 2 (by decide) (hts _ (List.mem_cons_of_mem _ wd_208)) (fun _ h9 => h9) rfl d_Rl_sortAll_7 ?_
  refine lv_aload_n hx hb d_Rl_sortAll_10 rfl (lv_at hl 1 rfl) ?_
  refine va_get (D := D) (ci := 4) (v := .ref (ob 15)) (C := R_Rl) (T := F_Rl) (N := 6) hx hb hts (fun w h => List.mem_cons_of_mem _ (in_Rl w h)) hown hK hP 4 rfl rfl 3 (by decide) (hts _ (List.mem_cons_of_mem _ wd_209)) (fun _ h9 => h9) rfl d_Rl_sortAll_11 ?_
  refine lv_iload_n hx hb d_Rl_sortAll_14 rfl (lv_at hl 0 rfl) ?_
  refine lv_iconst (v := 1) hx hb d_Rl_sortAll_15 (by decide) ?_
  obtain ⟨q_2, hq_2, hf⟩ := bd_some hf
  refine kc_v (va_runV (As := [.ref (ob 14), .ref (ob 15), .int q_1.1, .int 1]) (rest := []) ⟨hx, hb, hml, hown, hts⟩ (c_Rl_sortInto l D cA cP ob ad 14 15 q_1.1 1 (by decide) (by decide) q_1.2 hq_2 H.size) ⟨callB_of 4 hts (gd_Rl_sortInto) rfl rfl rfl (hts _ (List.mem_cons_of_mem _ wd_70)) (hts _ (List.mem_cons_of_mem _ wd_704)) dd_Rl_sortInto ⟨Nat.le_of_ble_eq_true rfl, Nat.le_of_ble_eq_true rfl⟩, (hts _ (List.mem_cons_of_mem _ wd_706)), (hts _ (List.mem_cons_of_mem _ wd_26))⟩ (kpV hK hP hD hN hZ hS 4 4 rfl rfl) rfl rfl hl.1 rfl (lv_room (Nat.le_of_ble_eq_true rfl)) d_Rl_sortAll_16 ⟨Nat.le_of_ble_eq_true rfl, Nat.le_of_ble_eq_true rfl⟩) hP hD hS hA (fun w H locs hw hP hD hS => ?_)
  obtain rfl := hw
  refine lv_aload_n hx hb d_Rl_sortAll_19 rfl (lv_at hl 1 rfl) ?_
  refine lv_aload_n hx hb d_Rl_sortAll_20 rfl (lv_at hl 1 rfl) ?_
  refine va_get (D := D) (ci := 4) (v := .ref (ob 15)) (C := R_Rl) (T := F_Rl) (N := 6) hx hb hts (fun w h => List.mem_cons_of_mem _ (in_Rl w h)) hown hK hP 4 rfl rfl 3 (by decide) (hts _ (List.mem_cons_of_mem _ wd_209)) (fun _ h9 => h9) rfl d_Rl_sortAll_21 ?_
  refine lv_aload_n hx hb d_Rl_sortAll_24 rfl (lv_at hl 1 rfl) ?_
  refine va_get (D := D) (ci := 4) (v := .ref (ob 14)) (C := R_Rl) (T := F_Rl) (N := 6) hx hb hts (fun w h => List.mem_cons_of_mem _ (in_Rl w h)) hown hK hP 4 rfl rfl 2 (by decide) (hts _ (List.mem_cons_of_mem _ wd_208)) (fun _ h9 => h9) rfl d_Rl_sortAll_25 ?_
  refine lv_iload_n hx hb d_Rl_sortAll_28 rfl (lv_at hl 0 rfl) ?_
  refine lv_iconst (v := 0) hx hb d_Rl_sortAll_29 (by decide) ?_
  obtain ⟨q_3, hq_3, hf⟩ := bd_some hf
  refine kc_v (va_runV (As := [.ref (ob 15), .ref (ob 14), .int q_1.1, .int 0]) (rest := []) ⟨hx, hb, hml, hown, hts⟩ (c_Rl_sortInto l D cA cP ob ad 15 14 q_1.1 0 (by decide) (by decide) q_2 hq_3 H.size) ⟨callB_of 4 hts (gd_Rl_sortInto) rfl rfl rfl (hts _ (List.mem_cons_of_mem _ wd_70)) (hts _ (List.mem_cons_of_mem _ wd_704)) dd_Rl_sortInto ⟨Nat.le_of_ble_eq_true rfl, Nat.le_of_ble_eq_true rfl⟩, (hts _ (List.mem_cons_of_mem _ wd_706)), (hts _ (List.mem_cons_of_mem _ wd_26))⟩ (kpV hK hP hD hN hZ hS 4 4 rfl rfl) rfl rfl hl.1 rfl (lv_room (Nat.le_of_ble_eq_true rfl)) d_Rl_sortAll_30 ⟨Nat.le_of_ble_eq_true rfl, Nat.le_of_ble_eq_true rfl⟩) hP hD hS hA (fun w H locs hw hP hD hS => ?_)
  obtain rfl := hw
  refine lv_aload_n hx hb d_Rl_sortAll_33 rfl (lv_at hl 1 rfl) ?_
  refine lv_iconst (v := 1) hx hb d_Rl_sortAll_34 (by decide) ?_
  obtain ⟨S_4, eS_4, hf⟩ := bn_some hf
  refine va_put (D := D) (ci := 4) (v := .int 1) (ty := .boolean) (C := R_Rl) (T := F_Rl) (N := 6) hx hb hts (fun w h => List.mem_cons_of_mem _ (in_Rl w h)) t_Rl tk_Rl nk_Rl hown hK hP hD hS 4 rfl rfl 5 (by decide) (hts _ (List.mem_cons_of_mem _ wd_211)) (fun _ h9 => h9) rfl (by decide +kernel) rfl rfl (Nat.le_of_ble_eq_true rfl) d_Rl_sortAll_35 (fun H locs hP hD hS => ?_)
  have hP : va_P D clC (cw cA cP ob ad S_4) H := by rw [eS_4]; exact hP
  have hD : va_D A (cw cA cP ob ad S_4) := by rw [eS_4]; exact hD
  cases hf
  exact hret _ _ _ _ _ rfl hP hD hS d_Rl_sortAll_38
def f_Rl_sortAll  (S : St) : Option St := f_Rl_sortAll_0   S
theorem c_Rl_sortAll (l : Launch) (D : va_G) (cA cP : ClassId) (ob : Nat → Nat) (ad : Nat → Nat → Nat)   (S : St) {res : St} (hf : f_Rl_sortAll  S = some res) : CTv l y_Rl_sortAll w_Rl_sortAll rm_Rl_sortAll 0 0 D clC (TY cA cP) [.ref (ob 4)] (cw cA cP ob ad S) (fun w => w = cw cA cP ob ad res) :=
  mk_v (cc := b_Rl_sortAll) (maxL := 2) (own := R_Rl) (by decide) rfl rfl (Nat.le_of_ble_eq_true rfl) (fun p e s m below meth c A Q C0 hret ls hl hP hD hS => w_Rl_sortAll_0 C0 hret    S _ _ ls hP hD hS (lv_sub hl [0] rfl) hf)
def f_Rl_edge_11   (x1 : Int32) (S : St) : Option (Int32 × St) :=
  bd (f_Rw_get 14 x1 S) (fun q_1 => some (q_1.1, q_1.2))
set_option maxHeartbeats 4000000 in
set_option maxRecDepth 100000 in
theorem w_Rl_edge_11 (C0 : CX p s m args c b_Rl_edge 2 R_Rl w_Rl_edge D clC cA cP A) {res : (Int32 × St)} (hret : RTi p l e rm_Rl_edge s m args below meth c Q D clC A b_Rl_edge 0 0 (fun r w => r = res.1 ∧ w = cw cA cP ob ad res.2))    : ∀ (x1 : Int32) (S : St) (H : Heap) (locs : List Loc) (ls : Array Slot), va_P D clC (cw cA cP ob ad S) H → va_D A (cw cA cP ob ad S) → va_S A s.heap H locs → lv_has ls 2 [(0, .ref (ob 4)), (1, .int x1)] → f_Rl_edge_11   x1 S = some res → W p l e rm_Rl_edge s m args below meth c H locs 0 0 Q (F0 m 11 ls []) := by
  obtain ⟨hx, hb, hml, hown, hts, hK, hA, hN, hZ⟩ := id C0
  intro x1 S H locs ls hP hD hS hl hf
  rw [f_Rl_edge_11] at hf
  refine lv_aload_n hx hb d_Rl_edge_11 rfl (lv_at hl 0 rfl) ?_
  refine va_get (D := D) (ci := 4) (v := .ref (ob 14)) (C := R_Rl) (T := F_Rl) (N := 6) hx hb hts (fun w h => List.mem_cons_of_mem _ (in_Rl w h)) hown hK hP 4 rfl rfl 2 (by decide) (hts _ (List.mem_cons_of_mem _ wd_208)) (fun _ h9 => h9) rfl d_Rl_edge_12 ?_
  refine lv_iload_n hx hb d_Rl_edge_15 rfl (lv_at hl 1 rfl) ?_
  obtain ⟨q_1, hq_1, hf⟩ := bd_some hf
  refine kc_i (va_runV (As := [.int x1]) (rest := []) ⟨hx, hb, hml, hown, hts⟩ (c_Rw_get l D cA cP ob ad 14 x1 (by decide) S hq_1 H.size) ⟨callB_of 1 hts (gd_Rw_get) rfl rfl rfl (hts _ (List.mem_cons_of_mem _ wd_67)) (hts _ (List.mem_cons_of_mem _ wd_708)) dd_Rw_get ⟨Nat.le_of_ble_eq_true rfl, Nat.le_of_ble_eq_true rfl⟩, (hts _ (List.mem_cons_of_mem _ wd_340)), (hts _ (List.mem_cons_of_mem _ wd_341))⟩ (kpV hK hP hD hN hZ hS 6 14 rfl rfl) rfl rfl hl.1 rfl (lv_room (Nat.le_of_ble_eq_true rfl)) d_Rl_edge_16 ⟨Nat.le_of_ble_eq_true rfl, Nat.le_of_ble_eq_true rfl⟩) hP hD hS hA (fun r w H locs hw hP hD hS => ?_)
  obtain ⟨rfl, rfl⟩ := hw
  cases hf
  exact hret _ _ _ _ _ _ ⟨rfl, rfl⟩ hP hD hS d_Rl_edge_19
def f_Rl_edge_0   (x1 : Int32) (S : St) : Option (Int32 × St) :=
  (if (gi S 10) = 0 then
    bd (f_Rl_sortAll  S) (fun q_2 => f_Rl_edge_11   x1 q_2)
    else
    f_Rl_edge_11   x1 S)
set_option maxHeartbeats 4000000 in
set_option maxRecDepth 100000 in
theorem w_Rl_edge_0 (C0 : CX p s m args c b_Rl_edge 2 R_Rl w_Rl_edge D clC cA cP A) {res : (Int32 × St)} (hret : RTi p l e rm_Rl_edge s m args below meth c Q D clC A b_Rl_edge 0 0 (fun r w => r = res.1 ∧ w = cw cA cP ob ad res.2))    : ∀ (x1 : Int32) (S : St) (H : Heap) (locs : List Loc) (ls : Array Slot), va_P D clC (cw cA cP ob ad S) H → va_D A (cw cA cP ob ad S) → va_S A s.heap H locs → lv_has ls 2 [(0, .ref (ob 4)), (1, .int x1)] → f_Rl_edge_0   x1 S = some res → W p l e rm_Rl_edge s m args below meth c H locs 0 0 Q (F0 m 0 ls []) := by
  obtain ⟨hx, hb, hml, hown, hts, hK, hA, hN, hZ⟩ := id C0
  intro x1 S H locs ls hP hD hS hl hf
  rw [f_Rl_edge_0] at hf
  refine lv_aload_n hx hb d_Rl_edge_0 rfl (lv_at hl 0 rfl) ?_
  refine va_get (D := D) (ci := 4) (v := .int (gi S 10)) (C := R_Rl) (T := F_Rl) (N := 6) hx hb hts (fun w h => List.mem_cons_of_mem _ (in_Rl w h)) hown hK hP 4 rfl rfl 5 (by decide) (hts _ (List.mem_cons_of_mem _ wd_211)) (fun _ h9 => h9) rfl d_Rl_edge_1 ?_
  refine lv_if_ne (tgt := 11) hx hb d_Rl_edge_4 (by decide) (fun c_1 => ?_) (fun c_1 => ?_)
  · rw [if_neg c_1] at hf
    exact w_Rl_edge_11 C0 hret    x1 S H locs ls hP hD hS (lv_sub hl [0, 1] rfl) hf
  · rw [if_pos c_1] at hf
    refine lv_aload_n hx hb d_Rl_edge_7 rfl (lv_at hl 0 rfl) ?_
    obtain ⟨q_2, hq_2, hf⟩ := bd_some hf
    refine kc_v (va_runV (As := []) (rest := []) ⟨hx, hb, hml, hown, hts⟩ (c_Rl_sortAll l D cA cP ob ad   S hq_2 H.size) ⟨callB_of 0 hts (gd_Rl_sortAll) rfl rfl rfl (hts _ (List.mem_cons_of_mem _ wd_70)) (hts _ (List.mem_cons_of_mem _ wd_686)) dd_Rl_sortAll ⟨Nat.le_of_ble_eq_true rfl, Nat.le_of_ble_eq_true rfl⟩, (hts _ (List.mem_cons_of_mem _ wd_688)), (hts _ (List.mem_cons_of_mem _ wd_24))⟩ (kpV hK hP hD hN hZ hS 4 4 rfl rfl) rfl rfl hl.1 rfl (lv_room (Nat.le_of_ble_eq_true rfl)) d_Rl_edge_8 ⟨Nat.le_of_ble_eq_true rfl, Nat.le_of_ble_eq_true rfl⟩) hP hD hS hA (fun w H locs hw hP hD hS => ?_)
    obtain rfl := hw
    exact w_Rl_edge_11 C0 hret    x1 q_2 H locs ls hP hD hS (lv_sub hl [0, 1] rfl) hf
def f_Rl_edge (x1 : Int32) (S : St) : Option (Int32 × St) := f_Rl_edge_0  x1 S
theorem c_Rl_edge (l : Launch) (D : va_G) (cA cP : ClassId) (ob : Nat → Nat) (ad : Nat → Nat → Nat) (x1 : Int32)  (S : St) {res : (Int32 × St)} (hf : f_Rl_edge x1 S = some res) : CTi l y_Rl_edge w_Rl_edge rm_Rl_edge 0 0 D clC (TY cA cP) [.ref (ob 4), .int x1] (cw cA cP ob ad S) (fun r w => r = res.1 ∧ w = cw cA cP ob ad res.2) :=
  mk_i (cc := b_Rl_edge) (maxL := 2) (own := R_Rl) (by decide) rfl rfl (Nat.le_of_ble_eq_true rfl) (fun p e s m below meth c A Q C0 hret ls hl hP hD hS => w_Rl_edge_0 C0 hret   x1 S _ _ ls hP hD hS (lv_sub hl [0, 1] rfl) hf)
def f_Pn_triangle_24    (S : St) : Option (Int32 × St) :=
  none
set_option maxHeartbeats 4000000 in
set_option maxRecDepth 100000 in
theorem w_Pn_triangle_24 (C0 : CX p s m args c b_Pn_triangle 3 R_Pn w_Pn_triangle D clC cA cP A) {res : (Int32 × St)} (hret : RTi p l e rm_Pn_triangle s m args below meth c Q D clC A b_Pn_triangle 0 0 (fun r w => r = res.1 ∧ w = cw cA cP ob ad res.2))    : ∀  (S : St) (H : Heap) (locs : List Loc) (ls : Array Slot), va_P D clC (cw cA cP ob ad S) H → va_D A (cw cA cP ob ad S) → va_S A s.heap H locs → lv_has ls 3 [] → f_Pn_triangle_24    S = some res → W p l e rm_Pn_triangle s m args below meth c H locs 0 0 Q (F0 m 24 ls []) := by
  obtain ⟨hx, hb, hml, hown, hts, hK, hA, hN, hZ⟩ := id C0
  intro  S H locs ls hP hD hS hl hf
  rw [f_Pn_triangle_24] at hf
  cases hf
def f_Pn_triangle_0   (x1 : Int32) (x2 : Int32) (S : St) : Option (Int32 × St) :=
  (if x1 < 0 then
    f_Pn_triangle_24    S
    else
    bd (f_Nt_solidCount  S) (fun q_2 => (if q_2.1 ≤ x1 then
      f_Pn_triangle_24    q_2.2
      else
      (if x2 < 0 then
        f_Pn_triangle_24    q_2.2
        else
        (if x2 ≤ 2 then
          bd (f_Rl_edge x1 q_2.2) (fun q_6 => bd (f_Nt_ahead q_6.1 x2 q_6.2) (fun q_7 => bd (f_Nt_startOf q_7.1 q_7.2) (fun q_8 => some (q_8.1, q_8.2))))
          else
          f_Pn_triangle_24    q_2.2)))))
set_option maxHeartbeats 4000000 in
set_option maxRecDepth 100000 in
theorem w_Pn_triangle_0 (C0 : CX p s m args c b_Pn_triangle 3 R_Pn w_Pn_triangle D clC cA cP A) {res : (Int32 × St)} (hret : RTi p l e rm_Pn_triangle s m args below meth c Q D clC A b_Pn_triangle 0 0 (fun r w => r = res.1 ∧ w = cw cA cP ob ad res.2))    : ∀ (x1 : Int32) (x2 : Int32) (S : St) (H : Heap) (locs : List Loc) (ls : Array Slot), va_P D clC (cw cA cP ob ad S) H → va_D A (cw cA cP ob ad S) → va_S A s.heap H locs → lv_has ls 3 [(0, .ref (ob 0)), (1, .int x1), (2, .int x2)] → f_Pn_triangle_0   x1 x2 S = some res → W p l e rm_Pn_triangle s m args below meth c H locs 0 0 Q (F0 m 0 ls []) := by
  obtain ⟨hx, hb, hml, hown, hts, hK, hA, hN, hZ⟩ := id C0
  intro x1 x2 S H locs ls hP hD hS hl hf
  rw [f_Pn_triangle_0] at hf
  refine lv_iload_n hx hb d_Pn_triangle_0 rfl (lv_at hl 1 rfl) ?_
  refine lv_if_lt (tgt := 24) hx hb d_Pn_triangle_1 (by decide) (fun c_1 => ?_) (fun c_1 => ?_)
  · rw [if_pos c_1] at hf
    exact w_Pn_triangle_24 C0 hret     S H locs ls hP hD hS (lv_sub hl [] rfl) hf
  · rw [if_neg c_1] at hf
    refine lv_iload_n hx hb d_Pn_triangle_4 rfl (lv_at hl 1 rfl) ?_
    refine lv_aload_n hx hb d_Pn_triangle_5 rfl (lv_at hl 0 rfl) ?_
    refine va_get (D := D) (ci := 0) (v := .ref (ob 3)) (C := R_Pn) (T := F_Pn) (N := 8) hx hb hts (fun w h => List.mem_cons_of_mem _ (in_Pn w h)) hown hK hP 0 rfl rfl 1 (by decide) (hts _ (List.mem_cons_of_mem _ wd_250)) (fun _ h9 => h9) rfl d_Pn_triangle_6 ?_
    obtain ⟨q_2, hq_2, hf⟩ := bd_some hf
    refine kc_i (va_runV (As := []) (rest := [.int x1]) ⟨hx, hb, hml, hown, hts⟩ (c_Nt_solidCount l D cA cP ob ad   S hq_2 H.size) ⟨callB_of 0 hts (gd_Nt_solidCount) rfl rfl rfl (hts _ (List.mem_cons_of_mem _ wd_69)) (hts _ (List.mem_cons_of_mem _ wd_310)) dd_Nt_solidCount ⟨Nat.le_of_ble_eq_true rfl, Nat.le_of_ble_eq_true rfl⟩, (hts _ (List.mem_cons_of_mem _ wd_311)), (hts _ (List.mem_cons_of_mem _ wd_312))⟩ (kpV hK hP hD hN hZ hS 3 3 rfl rfl) rfl rfl hl.1 rfl (lv_room (Nat.le_of_ble_eq_true rfl)) d_Pn_triangle_9 ⟨Nat.le_of_ble_eq_true rfl, Nat.le_of_ble_eq_true rfl⟩) hP hD hS hA (fun r w H locs hw hP hD hS => ?_)
    obtain ⟨rfl, rfl⟩ := hw
    refine lv_icmp_ge (tgt := 24) hx hb d_Pn_triangle_12 (by decide) (fun c_3 => ?_) (fun c_3 => ?_)
    · rw [if_pos c_3] at hf
      exact w_Pn_triangle_24 C0 hret     q_2.2 H locs ls hP hD hS (lv_sub hl [] rfl) hf
    · rw [if_neg c_3] at hf
      refine lv_iload_n hx hb d_Pn_triangle_15 rfl (lv_at hl 2 rfl) ?_
      refine lv_if_lt (tgt := 24) hx hb d_Pn_triangle_16 (by decide) (fun c_4 => ?_) (fun c_4 => ?_)
      · rw [if_pos c_4] at hf
        exact w_Pn_triangle_24 C0 hret     q_2.2 H locs ls hP hD hS (lv_sub hl [] rfl) hf
      · rw [if_neg c_4] at hf
        refine lv_iload_n hx hb d_Pn_triangle_19 rfl (lv_at hl 2 rfl) ?_
        refine lv_iconst (v := 2) hx hb d_Pn_triangle_20 (by decide) ?_
        refine lv_icmp_le (tgt := 34) hx hb d_Pn_triangle_21 (by decide) (fun c_5 => ?_) (fun c_5 => ?_)
        · rw [if_pos c_5] at hf
          refine lv_aload_n hx hb d_Pn_triangle_34 rfl (lv_at hl 0 rfl) ?_
          refine va_get (D := D) (ci := 0) (v := .ref (ob 3)) (C := R_Pn) (T := F_Pn) (N := 8) hx hb hts (fun w h => List.mem_cons_of_mem _ (in_Pn w h)) hown hK hP 0 rfl rfl 1 (by decide) (hts _ (List.mem_cons_of_mem _ wd_250)) (fun _ h9 => h9) rfl d_Pn_triangle_35 ?_
          refine lv_aload_n hx hb d_Pn_triangle_38 rfl (lv_at hl 0 rfl) ?_
          refine va_get (D := D) (ci := 0) (v := .ref (ob 4)) (C := R_Pn) (T := F_Pn) (N := 8) hx hb hts (fun w h => List.mem_cons_of_mem _ (in_Pn w h)) hown hK hP 0 rfl rfl 2 (by decide) (hts _ (List.mem_cons_of_mem _ wd_251)) (fun _ h9 => h9) rfl d_Pn_triangle_39 ?_
          refine lv_iload_n hx hb d_Pn_triangle_42 rfl (lv_at hl 1 rfl) ?_
          obtain ⟨q_6, hq_6, hf⟩ := bd_some hf
          refine kc_i (va_runV (As := [.int x1]) (rest := [.ref (ob 3)]) ⟨hx, hb, hml, hown, hts⟩ (c_Rl_edge l D cA cP ob ad x1  q_2.2 hq_6 H.size) ⟨callB_of 1 hts (gd_Rl_edge) rfl rfl rfl (hts _ (List.mem_cons_of_mem _ wd_70)) (hts _ (List.mem_cons_of_mem _ wd_682)) dd_Rl_edge ⟨Nat.le_of_ble_eq_true rfl, Nat.le_of_ble_eq_true rfl⟩, (hts _ (List.mem_cons_of_mem _ wd_683)), (hts _ (List.mem_cons_of_mem _ wd_684))⟩ (kpV hK hP hD hN hZ hS 4 4 rfl rfl) rfl rfl hl.1 rfl (lv_room (Nat.le_of_ble_eq_true rfl)) d_Pn_triangle_43 ⟨Nat.le_of_ble_eq_true rfl, Nat.le_of_ble_eq_true rfl⟩) hP hD hS hA (fun r w H locs hw hP hD hS => ?_)
          obtain ⟨rfl, rfl⟩ := hw
          refine lv_iload_n hx hb d_Pn_triangle_46 rfl (lv_at hl 2 rfl) ?_
          obtain ⟨q_7, hq_7, hf⟩ := bd_some hf
          refine kc_i (va_runS (As := [.int q_6.1, .int x2]) (rest := [.ref (ob 3)]) ⟨hx, hb, hml, hown, hts⟩ (c_Nt_ahead l D cA cP ob ad q_6.1 x2  q_6.2 hq_7 H.size) ⟨callB_of 2 hts (gd_Nt_ahead) rfl rfl rfl (hts _ (List.mem_cons_of_mem _ wd_69)) (hts _ (List.mem_cons_of_mem _ wd_711)) dd_Nt_ahead ⟨Nat.le_of_ble_eq_true rfl, Nat.le_of_ble_eq_true rfl⟩, (hts _ (List.mem_cons_of_mem _ wd_382))⟩ (kpS hK hP hD hN hZ hS) rfl rfl hl.1 rfl (lv_room (Nat.le_of_ble_eq_true rfl)) d_Pn_triangle_47 ⟨Nat.le_of_ble_eq_true rfl, Nat.le_of_ble_eq_true rfl⟩) hP hD hS hA (fun r w H locs hw hP hD hS => ?_)
          obtain ⟨rfl, rfl⟩ := hw
          obtain ⟨q_8, hq_8, hf⟩ := bd_some hf
          refine kc_i (va_runV (As := [.int q_7.1]) (rest := []) ⟨hx, hb, hml, hown, hts⟩ (c_Nt_startOf l D cA cP ob ad q_7.1  q_7.2 hq_8 H.size) ⟨callB_of 1 hts (gd_Nt_startOf) rfl rfl rfl (hts _ (List.mem_cons_of_mem _ wd_69)) (hts _ (List.mem_cons_of_mem _ wd_712)) dd_Nt_startOf ⟨Nat.le_of_ble_eq_true rfl, Nat.le_of_ble_eq_true rfl⟩, (hts _ (List.mem_cons_of_mem _ wd_393)), (hts _ (List.mem_cons_of_mem _ wd_394))⟩ (kpV hK hP hD hN hZ hS 3 3 rfl rfl) rfl rfl hl.1 rfl (lv_room (Nat.le_of_ble_eq_true rfl)) d_Pn_triangle_50 ⟨Nat.le_of_ble_eq_true rfl, Nat.le_of_ble_eq_true rfl⟩) hP hD hS hA (fun r w H locs hw hP hD hS => ?_)
          obtain ⟨rfl, rfl⟩ := hw
          cases hf
          exact hret _ _ _ _ _ _ ⟨rfl, rfl⟩ hP hD hS d_Pn_triangle_53
        · rw [if_neg c_5] at hf
          exact w_Pn_triangle_24 C0 hret     q_2.2 H locs ls hP hD hS (lv_sub hl [] rfl) hf
def f_Pn_triangle (x1 : Int32) (x2 : Int32) (S : St) : Option (Int32 × St) := f_Pn_triangle_0  x1 x2 S
theorem c_Pn_triangle (l : Launch) (D : va_G) (cA cP : ClassId) (ob : Nat → Nat) (ad : Nat → Nat → Nat) (x1 : Int32) (x2 : Int32)  (S : St) {res : (Int32 × St)} (hf : f_Pn_triangle x1 x2 S = some res) : CTi l y_Pn_triangle w_Pn_triangle rm_Pn_triangle 0 0 D clC (TY cA cP) [.ref (ob 0), .int x1, .int x2] (cw cA cP ob ad S) (fun r w => r = res.1 ∧ w = cw cA cP ob ad res.2) :=
  mk_i (cc := b_Pn_triangle) (maxL := 3) (own := R_Pn) (by decide) rfl rfl (Nat.le_of_ble_eq_true rfl) (fun p e s m below meth c A Q C0 hret ls hl hP hD hS => w_Pn_triangle_0 C0 hret   x1 x2 S _ _ ls hP hD hS (lv_sub hl [0, 1, 2] rfl) hf)
def f_Pn_checkNumber_15    (S : St) : Option St :=
  none
set_option maxHeartbeats 4000000 in
set_option maxRecDepth 100000 in
theorem w_Pn_checkNumber_15 (C0 : CX p s m args c b_Pn_checkNumber 2 R_Pn w_Pn_checkNumber D clC cA cP A) {res : St} (hret : RTv p l e rm_Pn_checkNumber s m args below meth c Q D clC A b_Pn_checkNumber 0 0 (fun w => w = cw cA cP ob ad res))    : ∀  (S : St) (H : Heap) (locs : List Loc) (ls : Array Slot), va_P D clC (cw cA cP ob ad S) H → va_D A (cw cA cP ob ad S) → va_S A s.heap H locs → lv_has ls 2 [] → f_Pn_checkNumber_15    S = some res → W p l e rm_Pn_checkNumber s m args below meth c H locs 0 0 Q (F0 m 15 ls []) := by
  obtain ⟨hx, hb, hml, hown, hts, hK, hA, hN, hZ⟩ := id C0
  intro  S H locs ls hP hD hS hl hf
  rw [f_Pn_checkNumber_15] at hf
  cases hf
def f_Pn_checkNumber_0   (x1 : Int32) (S : St) : Option St :=
  (if x1 < 0 then
    f_Pn_checkNumber_15    S
    else
    (if x1 < (gi S 3) then
      some S
      else
      f_Pn_checkNumber_15    S))
set_option maxHeartbeats 4000000 in
set_option maxRecDepth 100000 in
theorem w_Pn_checkNumber_0 (C0 : CX p s m args c b_Pn_checkNumber 2 R_Pn w_Pn_checkNumber D clC cA cP A) {res : St} (hret : RTv p l e rm_Pn_checkNumber s m args below meth c Q D clC A b_Pn_checkNumber 0 0 (fun w => w = cw cA cP ob ad res))    : ∀ (x1 : Int32) (S : St) (H : Heap) (locs : List Loc) (ls : Array Slot), va_P D clC (cw cA cP ob ad S) H → va_D A (cw cA cP ob ad S) → va_S A s.heap H locs → lv_has ls 2 [(0, .ref (ob 0)), (1, .int x1)] → f_Pn_checkNumber_0   x1 S = some res → W p l e rm_Pn_checkNumber s m args below meth c H locs 0 0 Q (F0 m 0 ls []) := by
  obtain ⟨hx, hb, hml, hown, hts, hK, hA, hN, hZ⟩ := id C0
  intro x1 S H locs ls hP hD hS hl hf
  rw [f_Pn_checkNumber_0] at hf
  refine lv_iload_n hx hb d_Pn_checkNumber_0 rfl (lv_at hl 1 rfl) ?_
  refine lv_if_lt (tgt := 15) hx hb d_Pn_checkNumber_1 (by decide) (fun c_1 => ?_) (fun c_1 => ?_)
  · rw [if_pos c_1] at hf
    exact w_Pn_checkNumber_15 C0 hret     S H locs ls hP hD hS (lv_sub hl [] rfl) hf
  · rw [if_neg c_1] at hf
    refine lv_iload_n hx hb d_Pn_checkNumber_4 rfl (lv_at hl 1 rfl) ?_
    refine lv_aload_n hx hb d_Pn_checkNumber_5 rfl (lv_at hl 0 rfl) ?_
    refine va_get (D := D) (ci := 0) (v := .ref (ob 1)) (C := R_Pn) (T := F_Pn) (N := 8) hx hb hts (fun w h => List.mem_cons_of_mem _ (in_Pn w h)) hown hK hP 0 rfl rfl 0 (by decide) (hts _ (List.mem_cons_of_mem _ wd_249)) (fun _ h9 => h9) rfl d_Pn_checkNumber_6 ?_
    refine va_get (D := D) (ci := 1) (v := .int (gi S 3)) (C := R_Pt) (T := F_Pt) (N := 5) hx hb hts (fun w h => List.mem_cons_of_mem _ (in_Pt w h)) hown hK hP 1 rfl rfl 1 (by decide) (hts _ (List.mem_cons_of_mem _ wd_133)) (fun _ h9 => h9) rfl d_Pn_checkNumber_9 ?_
    refine lv_icmp_lt (tgt := 25) hx hb d_Pn_checkNumber_12 (by decide) (fun c_2 => ?_) (fun c_2 => ?_)
    · rw [if_pos c_2] at hf
      cases hf
      exact hret _ _ _ _ _ rfl hP hD hS d_Pn_checkNumber_25
    · rw [if_neg c_2] at hf
      exact w_Pn_checkNumber_15 C0 hret     S H locs ls hP hD hS (lv_sub hl [] rfl) hf
def f_Pn_checkNumber (x1 : Int32) (S : St) : Option St := f_Pn_checkNumber_0  x1 S
theorem c_Pn_checkNumber (l : Launch) (D : va_G) (cA cP : ClassId) (ob : Nat → Nat) (ad : Nat → Nat → Nat) (x1 : Int32)  (S : St) {res : St} (hf : f_Pn_checkNumber x1 S = some res) : CTv l y_Pn_checkNumber w_Pn_checkNumber rm_Pn_checkNumber 0 0 D clC (TY cA cP) [.ref (ob 0), .int x1] (cw cA cP ob ad S) (fun w => w = cw cA cP ob ad res) :=
  mk_v (cc := b_Pn_checkNumber) (maxL := 2) (own := R_Pn) (by decide) rfl rfl (Nat.le_of_ble_eq_true rfl) (fun p e s m below meth c A Q C0 hret ls hl hP hD hS => w_Pn_checkNumber_0 C0 hret   x1 S _ _ ls hP hD hS (lv_sub hl [0, 1] rfl) hf)
def f_Nt_leftOf_0   (x1 : Int32) (S : St) : Option (Int32 × St) :=
  bd (f_Nt_ahead x1 2 S) (fun q_1 => bd (f_Rw_get 9 q_1.1 q_1.2) (fun q_2 => some (q_2.1, q_2.2)))
set_option maxHeartbeats 4000000 in
set_option maxRecDepth 100000 in
theorem w_Nt_leftOf_0 (C0 : CX p s m args c b_Nt_leftOf 2 R_Nt w_Nt_leftOf D clC cA cP A) {res : (Int32 × St)} (hret : RTi p l e rm_Nt_leftOf s m args below meth c Q D clC A b_Nt_leftOf 0 0 (fun r w => r = res.1 ∧ w = cw cA cP ob ad res.2))    : ∀ (x1 : Int32) (S : St) (H : Heap) (locs : List Loc) (ls : Array Slot), va_P D clC (cw cA cP ob ad S) H → va_D A (cw cA cP ob ad S) → va_S A s.heap H locs → lv_has ls 2 [(0, .ref (ob 3)), (1, .int x1)] → f_Nt_leftOf_0   x1 S = some res → W p l e rm_Nt_leftOf s m args below meth c H locs 0 0 Q (F0 m 0 ls []) := by
  obtain ⟨hx, hb, hml, hown, hts, hK, hA, hN, hZ⟩ := id C0
  intro x1 S H locs ls hP hD hS hl hf
  rw [f_Nt_leftOf_0] at hf
  refine lv_aload_n hx hb d_Nt_leftOf_0 rfl (lv_at hl 0 rfl) ?_
  refine va_get (D := D) (ci := 3) (v := .ref (ob 9)) (C := R_Nt) (T := F_Nt) (N := 13) hx hb hts (fun w h => List.mem_cons_of_mem _ (in_Nt w h)) hown hK hP 3 rfl rfl 3 (by decide) (hts _ (List.mem_cons_of_mem _ wd_161)) (fun _ h9 => h9) rfl d_Nt_leftOf_1 ?_
  refine lv_iload_n hx hb d_Nt_leftOf_4 rfl (lv_at hl 1 rfl) ?_
  refine lv_iconst (v := 2) hx hb d_Nt_leftOf_5 (by decide) ?_
  obtain ⟨q_1, hq_1, hf⟩ := bd_some hf
  refine kc_i (va_runS (As := [.int x1, .int 2]) (rest := [.ref (ob 9)]) ⟨hx, hb, hml, hown, hts⟩ (c_Nt_ahead l D cA cP ob ad x1 2  S hq_1 H.size) ⟨callB_of 2 hts (gd_Nt_ahead) rfl rfl rfl (hts _ (List.mem_cons_of_mem _ wd_69)) (hts _ (List.mem_cons_of_mem _ wd_381)) dd_Nt_ahead ⟨Nat.le_of_ble_eq_true rfl, Nat.le_of_ble_eq_true rfl⟩, (hts _ (List.mem_cons_of_mem _ wd_382))⟩ (kpS hK hP hD hN hZ hS) rfl rfl hl.1 rfl (lv_room (Nat.le_of_ble_eq_true rfl)) d_Nt_leftOf_6 ⟨Nat.le_of_ble_eq_true rfl, Nat.le_of_ble_eq_true rfl⟩) hP hD hS hA (fun r w H locs hw hP hD hS => ?_)
  obtain ⟨rfl, rfl⟩ := hw
  obtain ⟨q_2, hq_2, hf⟩ := bd_some hf
  refine kc_i (va_runV (As := [.int q_1.1]) (rest := []) ⟨hx, hb, hml, hown, hts⟩ (c_Rw_get l D cA cP ob ad 9 q_1.1 (by decide) q_1.2 hq_2 H.size) ⟨callB_of 1 hts (gd_Rw_get) rfl rfl rfl (hts _ (List.mem_cons_of_mem _ wd_67)) (hts _ (List.mem_cons_of_mem _ wd_376)) dd_Rw_get ⟨Nat.le_of_ble_eq_true rfl, Nat.le_of_ble_eq_true rfl⟩, (hts _ (List.mem_cons_of_mem _ wd_340)), (hts _ (List.mem_cons_of_mem _ wd_341))⟩ (kpV hK hP hD hN hZ hS 6 9 rfl rfl) rfl rfl hl.1 rfl (lv_room (Nat.le_of_ble_eq_true rfl)) d_Nt_leftOf_9 ⟨Nat.le_of_ble_eq_true rfl, Nat.le_of_ble_eq_true rfl⟩) hP hD hS hA (fun r w H locs hw hP hD hS => ?_)
  obtain ⟨rfl, rfl⟩ := hw
  cases hf
  exact hret _ _ _ _ _ _ ⟨rfl, rfl⟩ hP hD hS d_Nt_leftOf_12
def f_Nt_leftOf (x1 : Int32) (S : St) : Option (Int32 × St) := f_Nt_leftOf_0  x1 S
theorem c_Nt_leftOf (l : Launch) (D : va_G) (cA cP : ClassId) (ob : Nat → Nat) (ad : Nat → Nat → Nat) (x1 : Int32)  (S : St) {res : (Int32 × St)} (hf : f_Nt_leftOf x1 S = some res) : CTi l y_Nt_leftOf w_Nt_leftOf rm_Nt_leftOf 0 0 D clC (TY cA cP) [.ref (ob 3), .int x1] (cw cA cP ob ad S) (fun r w => r = res.1 ∧ w = cw cA cP ob ad res.2) :=
  mk_i (cc := b_Nt_leftOf) (maxL := 2) (own := R_Nt) (by decide) rfl rfl (Nat.le_of_ble_eq_true rfl) (fun p e s m below meth c A Q C0 hret ls hl hP hD hS => w_Nt_leftOf_0 C0 hret   x1 S _ _ ls hP hD hS (lv_sub hl [0, 1] rfl) hf)
end
