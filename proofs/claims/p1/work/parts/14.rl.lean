section
variable {p : Program} {l : Launch} {e : Env} {s : State} {m : MethodId} {args : Array Value} {below : List Frame} {meth : Method} {c : Code} {Q : State → Prop} {D : va_G} {cA : ClassId} {ob ad : Nat → Nat} {A : Nat → Prop}
def f_Rl_sortInto_121 (k1 : Nat) (k2 : Nat)  : Nat → Int32 → Int32 → Int32 → St → Option St
  | 0 => fun _ _ _ _ => none
  | n + 1 => fun x3 x4 x5 S => (if x3 ≤ x5 then
      some S
      else
      bd (f_Pn_read k1 x5 S) (fun q_2 => bd (f_Nt_ahead q_2.1 x4 q_2.2) (fun q_3 => bd (f_Nt_startOf q_3.1 q_3.2) (fun q_4 => bd (f_Pn_read 17 q_4.1 q_4.2) (fun q_5 => bd (f_Pn_write k2 q_5.1 q_2.1 q_5.2) (fun q_6 => bd (f_Pn_write 17 q_4.1 (q_5.1 + 1) q_6) (fun q_7 => bn (x5 + 1) (fun x5_8 => f_Rl_sortInto_121 k1 k2 n x3 x4 x5_8 q_7))))))))
set_option maxHeartbeats 4000000 in
set_option maxRecDepth 100000 in
theorem w_Rl_sortInto_121 (C0 : CX p s m args c b_Rl_sortInto 9 R_Rl w_Rl_sortInto D clC cA A) {res : St} (hret : RTv p l e rm_Rl_sortInto s m args below meth c Q D clC A b_Rl_sortInto 0 0 (fun w => w = cw cA ob ad res)) (k1 : Nat) (k2 : Nat) (hk1 : isRowc k1) (hk2 : isRowc k2)  : ∀ (n : Nat) (x3 : Int32) (x4 : Int32) (x5 : Int32) (S : St) (H : Heap) (locs : List Loc) (ls : Array Slot), va_P D clC (cw cA ob ad S) H → va_D A (cw cA ob ad S) → va_S A s.heap H locs → lv_has ls 9 [(0, .ref (ob 4)), (1, .ref (ad k1)), (2, .ref (ad k2)), (3, .int x3), (4, .int x4), (5, .int x5)] → f_Rl_sortInto_121 k1 k2  n x3 x4 x5 S = some res → W p l e rm_Rl_sortInto s m args below meth c H locs 0 0 Q (F0 m 121 ls []) := by
  obtain ⟨hx, hb, hml, hown, hts, hK, hA, hN⟩ := id C0
  intro n
  induction n with
  | zero =>
    intro x3 x4 x5 S H locs ls hP hD hS hl hf
    cases hf
  | succ n ih =>
    intro x3 x4 x5 S H locs ls hP hD hS hl hf
    rw [f_Rl_sortInto_121] at hf
    try dsimp only at hf
    refine lv_iload hx hb d_Rl_sortInto_121 (lv_at hl 5 rfl) ?_
    refine lv_iload_n hx hb d_Rl_sortInto_123 rfl (lv_at hl 3 rfl) ?_
    refine lv_icmp_ge (tgt := 189) hx hb d_Rl_sortInto_124 (by decide) (fun c_1 => ?_) (fun c_1 => ?_)
    · rw [if_pos c_1] at hf
      cases hf
      exact hret _ _ _ _ _ rfl hP hD hS d_Rl_sortInto_189
    · rw [if_neg c_1] at hf
      refine lv_aload_n hx hb d_Rl_sortInto_127 rfl (lv_at hl 1 rfl) ?_
      refine lv_iload hx hb d_Rl_sortInto_128 (lv_at hl 5 rfl) ?_
      obtain ⟨q_2, hq_2, hf⟩ := bd_some hf
      refine kc_i (va_runSN (As := [.ref (ad k1), .int x5]) (rest := []) ⟨hx, hb, hml, hown, hts⟩ (c_Pn_read l D cA ob ad k1 x5 hk1 S hq_2 H.size) ⟨va_cnB 2 hts (gd_Pn_read) rfl rfl rfl (nw_5 hN) (hts _ (List.mem_cons_of_mem _ wd_63)) dd_Pn_read ⟨Nat.le_of_ble_eq_true rfl, Nat.le_of_ble_eq_true rfl⟩, (hts _ (List.mem_cons_of_mem _ wd_353)), trivial⟩ (kpS hK hP hD hN) rfl rfl hl.1 rfl (lv_room (Nat.le_of_ble_eq_true rfl)) d_Rl_sortInto_130 ⟨Nat.le_of_ble_eq_true rfl, Nat.le_of_ble_eq_true rfl⟩) hP hD hS hA (fun r w H locs hw hP hD hS => ?_)
      obtain ⟨rfl, rfl⟩ := hw
      refine lv_istore (lv' := [(6, .int q_2.1), (0, .ref (ob 4)), (1, .ref (ad k1)), (2, .ref (ad k2)), (3, .int x3), (4, .int x4), (5, .int x5)]) hx hb d_Rl_sortInto_133 hl (by decide) rfl (fun ls hl => ?_)
      refine lv_aload_n hx hb d_Rl_sortInto_135 rfl (lv_at hl 1 rfl) ?_
      refine va_get (D := D) (ci := 4) (v := .ref (ob 3)) (C := R_Rl) (T := F_Rl) (N := 6) hx hb hts (fun w h => List.mem_cons_of_mem _ (in_Rl w h)) hown hK hP 4 rfl rfl 1 (by decide) (hts _ (List.mem_cons_of_mem _ wd_187)) (fun _ h9 => h9) rfl d_Rl_sortInto_136 ?_
      refine lv_iload hx hb d_Rl_sortInto_139 (lv_at hl 0 rfl) ?_
      refine lv_iload hx hb d_Rl_sortInto_141 (lv_at hl 5 rfl) ?_
      obtain ⟨q_3, hq_3, hf⟩ := bd_some hf
      refine kc_i (va_runS (As := [.int q_2.1, .int x4]) (rest := [.ref (ob 3)]) ⟨hx, hb, hml, hown, hts⟩ (c_Nt_ahead l D cA ob ad q_2.1 x4  q_2.2 hq_3 H.size) ⟨callB_of 2 hts (gd_Nt_ahead) rfl rfl rfl (hts _ (List.mem_cons_of_mem _ wd_67)) (hts _ (List.mem_cons_of_mem _ wd_658)) dd_Nt_ahead ⟨Nat.le_of_ble_eq_true rfl, Nat.le_of_ble_eq_true rfl⟩, (hts _ (List.mem_cons_of_mem _ wd_360))⟩ (kpS hK hP hD hN) rfl rfl hl.1 rfl (lv_room (Nat.le_of_ble_eq_true rfl)) d_Rl_sortInto_143 ⟨Nat.le_of_ble_eq_true rfl, Nat.le_of_ble_eq_true rfl⟩) hP hD hS hA (fun r w H locs hw hP hD hS => ?_)
      obtain ⟨rfl, rfl⟩ := hw
      obtain ⟨q_4, hq_4, hf⟩ := bd_some hf
      refine kc_i (va_runV (As := [.int q_3.1]) (rest := []) ⟨hx, hb, hml, hown, hts⟩ (c_Nt_startOf l D cA ob ad q_3.1  q_3.2 hq_4 H.size) ⟨callB_of 1 hts (gd_Nt_startOf) rfl rfl rfl (hts _ (List.mem_cons_of_mem _ wd_67)) (hts _ (List.mem_cons_of_mem _ wd_659)) dd_Nt_startOf ⟨Nat.le_of_ble_eq_true rfl, Nat.le_of_ble_eq_true rfl⟩, (hts _ (List.mem_cons_of_mem _ wd_363)), (hts _ (List.mem_cons_of_mem _ wd_364))⟩ (kpV hK hP hD hN 3 3 rfl rfl) rfl rfl hl.1 rfl (lv_room (Nat.le_of_ble_eq_true rfl)) d_Rl_sortInto_146 ⟨Nat.le_of_ble_eq_true rfl, Nat.le_of_ble_eq_true rfl⟩) hP hD hS hA (fun r w H locs hw hP hD hS => ?_)
      obtain ⟨rfl, rfl⟩ := hw
      refine lv_istore (lv' := [(7, .int q_4.1), (6, .int q_2.1), (0, .ref (ob 4)), (1, .ref (ad k1)), (2, .ref (ad k2)), (3, .int x3), (4, .int x4), (5, .int x5)]) hx hb d_Rl_sortInto_149 hl (by decide) rfl (fun ls hl => ?_)
      refine lv_aload_n hx hb d_Rl_sortInto_151 rfl (lv_at hl 2 rfl) ?_
      refine va_get (D := D) (ci := 4) (v := .ref (ad 17)) (C := R_Rl) (T := F_Rl) (N := 6) hx hb hts (fun w h => List.mem_cons_of_mem _ (in_Rl w h)) hown hK hP 4 rfl rfl 4 (by decide) (hts _ (List.mem_cons_of_mem _ wd_190)) (fun _ h9 => h9) rfl d_Rl_sortInto_152 ?_
      refine lv_iload hx hb d_Rl_sortInto_155 (lv_at hl 0 rfl) ?_
      obtain ⟨q_5, hq_5, hf⟩ := bd_some hf
      refine kc_i (va_runSN (As := [.ref (ad 17), .int q_4.1]) (rest := []) ⟨hx, hb, hml, hown, hts⟩ (c_Pn_read l D cA ob ad 17 q_4.1 (by decide) q_4.2 hq_5 H.size) ⟨va_cnB 2 hts (gd_Pn_read) rfl rfl rfl (nw_5 hN) (hts _ (List.mem_cons_of_mem _ wd_63)) dd_Pn_read ⟨Nat.le_of_ble_eq_true rfl, Nat.le_of_ble_eq_true rfl⟩, (hts _ (List.mem_cons_of_mem _ wd_353)), trivial⟩ (kpS hK hP hD hN) rfl rfl hl.1 rfl (lv_room (Nat.le_of_ble_eq_true rfl)) d_Rl_sortInto_157 ⟨Nat.le_of_ble_eq_true rfl, Nat.le_of_ble_eq_true rfl⟩) hP hD hS hA (fun r w H locs hw hP hD hS => ?_)
      obtain ⟨rfl, rfl⟩ := hw
      refine lv_istore (lv' := [(8, .int q_5.1), (7, .int q_4.1), (6, .int q_2.1), (0, .ref (ob 4)), (1, .ref (ad k1)), (2, .ref (ad k2)), (3, .int x3), (4, .int x4), (5, .int x5)]) hx hb d_Rl_sortInto_160 hl (by decide) rfl (fun ls hl => ?_)
      refine lv_aload_n hx hb d_Rl_sortInto_162 rfl (lv_at hl 5 rfl) ?_
      refine lv_iload hx hb d_Rl_sortInto_163 (lv_at hl 0 rfl) ?_
      refine lv_iload hx hb d_Rl_sortInto_165 (lv_at hl 2 rfl) ?_
      obtain ⟨q_6, hq_6, hf⟩ := bd_some hf
      refine kc_v (va_runSN (As := [.ref (ad k2), .int q_5.1, .int q_2.1]) (rest := []) ⟨hx, hb, hml, hown, hts⟩ (c_Pn_write l D cA ob ad k2 q_5.1 q_2.1 hk2 q_5.2 hq_6 H.size) ⟨va_cnB 3 hts (gd_Pn_write) rfl rfl rfl (nw_4 hN) (hts _ (List.mem_cons_of_mem _ wd_63)) dd_Pn_write ⟨Nat.le_of_ble_eq_true rfl, Nat.le_of_ble_eq_true rfl⟩, (hts _ (List.mem_cons_of_mem _ wd_342)), trivial⟩ (kpS hK hP hD hN) rfl rfl hl.1 rfl (lv_room (Nat.le_of_ble_eq_true rfl)) d_Rl_sortInto_167 ⟨Nat.le_of_ble_eq_true rfl, Nat.le_of_ble_eq_true rfl⟩) hP hD hS hA (fun w H locs hw hP hD hS => ?_)
      obtain rfl := hw
      refine lv_aload_n hx hb d_Rl_sortInto_170 rfl (lv_at hl 3 rfl) ?_
      refine va_get (D := D) (ci := 4) (v := .ref (ad 17)) (C := R_Rl) (T := F_Rl) (N := 6) hx hb hts (fun w h => List.mem_cons_of_mem _ (in_Rl w h)) hown hK hP 4 rfl rfl 4 (by decide) (hts _ (List.mem_cons_of_mem _ wd_190)) (fun _ h9 => h9) rfl d_Rl_sortInto_171 ?_
      refine lv_iload hx hb d_Rl_sortInto_174 (lv_at hl 1 rfl) ?_
      refine lv_iload hx hb d_Rl_sortInto_176 (lv_at hl 0 rfl) ?_
      refine lv_iconst (v := 1) hx hb d_Rl_sortInto_178 (by decide) ?_
      refine lv_iadd hx hb d_Rl_sortInto_179 ?_
      obtain ⟨q_7, hq_7, hf⟩ := bd_some hf
      refine kc_v (va_runSN (As := [.ref (ad 17), .int q_4.1, .int (q_5.1 + 1)]) (rest := []) ⟨hx, hb, hml, hown, hts⟩ (c_Pn_write l D cA ob ad 17 q_4.1 (q_5.1 + 1) (by decide) q_6 hq_7 H.size) ⟨va_cnB 3 hts (gd_Pn_write) rfl rfl rfl (nw_4 hN) (hts _ (List.mem_cons_of_mem _ wd_63)) dd_Pn_write ⟨Nat.le_of_ble_eq_true rfl, Nat.le_of_ble_eq_true rfl⟩, (hts _ (List.mem_cons_of_mem _ wd_342)), trivial⟩ (kpS hK hP hD hN) rfl rfl hl.1 rfl (lv_room (Nat.le_of_ble_eq_true rfl)) d_Rl_sortInto_180 ⟨Nat.le_of_ble_eq_true rfl, Nat.le_of_ble_eq_true rfl⟩) hP hD hS hA (fun w H locs hw hP hD hS => ?_)
      obtain rfl := hw
      obtain ⟨x5_8, ex5_8, hf⟩ := bn_some hf
      refine lv_iinc (v := x5_8) (lv' := [(5, .int x5_8), (8, .int q_5.1), (7, .int q_4.1), (6, .int q_2.1), (0, .ref (ob 4)), (1, .ref (ad k1)), (2, .ref (ad k2)), (3, .int x3), (4, .int x4)]) hx hb d_Rl_sortInto_183 hl (k := 8) rfl (by rw [ex5_8]; rfl) (by decide) rfl (fun ls hl => ?_)
      refine lv_goto (tgt := 121) hx hb d_Rl_sortInto_186 (by decide) ?_
      exact ih x3 x4 x5_8 q_7 H locs ls hP hD hS (lv_sub hl [4, 5, 6, 7, 8, 0] rfl) hf
def f_Rl_sortInto_70 (k1 : Nat) (k2 : Nat)  : Nat → Int32 → Int32 → Int32 → St → Option St
  | 0 => fun _ _ _ _ => none
  | n + 1 => fun x3 x4 x5 S => (if (gi S 3) ≤ x5 then
      f_Rl_sortInto_121 k1 k2  FU x3 x4 0 S
      else
      bd (f_Pn_read 17 x5 S) (fun q_2 => bd (f_Pn_read 17 (x5 - 1) q_2.2) (fun q_3 => bd (f_Pn_write 17 x5 (q_2.1 + q_3.1) q_3.2) (fun q_4 => bn (x5 + 1) (fun x5_5 => f_Rl_sortInto_70 k1 k2 n x3 x4 x5_5 q_4)))))
set_option maxHeartbeats 4000000 in
set_option maxRecDepth 100000 in
theorem w_Rl_sortInto_70 (C0 : CX p s m args c b_Rl_sortInto 9 R_Rl w_Rl_sortInto D clC cA A) {res : St} (hret : RTv p l e rm_Rl_sortInto s m args below meth c Q D clC A b_Rl_sortInto 0 0 (fun w => w = cw cA ob ad res)) (k1 : Nat) (k2 : Nat) (hk1 : isRowc k1) (hk2 : isRowc k2)  : ∀ (n : Nat) (x3 : Int32) (x4 : Int32) (x5 : Int32) (S : St) (H : Heap) (locs : List Loc) (ls : Array Slot), va_P D clC (cw cA ob ad S) H → va_D A (cw cA ob ad S) → va_S A s.heap H locs → lv_has ls 9 [(0, .ref (ob 4)), (1, .ref (ad k1)), (2, .ref (ad k2)), (3, .int x3), (4, .int x4), (5, .int x5)] → f_Rl_sortInto_70 k1 k2  n x3 x4 x5 S = some res → W p l e rm_Rl_sortInto s m args below meth c H locs 0 0 Q (F0 m 70 ls []) := by
  obtain ⟨hx, hb, hml, hown, hts, hK, hA, hN⟩ := id C0
  intro n
  induction n with
  | zero =>
    intro x3 x4 x5 S H locs ls hP hD hS hl hf
    cases hf
  | succ n ih =>
    intro x3 x4 x5 S H locs ls hP hD hS hl hf
    rw [f_Rl_sortInto_70] at hf
    try dsimp only at hf
    refine lv_iload hx hb d_Rl_sortInto_70 (lv_at hl 5 rfl) ?_
    refine lv_aload_n hx hb d_Rl_sortInto_72 rfl (lv_at hl 0 rfl) ?_
    refine va_get (D := D) (ci := 4) (v := .ref (ob 1)) (C := R_Rl) (T := F_Rl) (N := 6) hx hb hts (fun w h => List.mem_cons_of_mem _ (in_Rl w h)) hown hK hP 4 rfl rfl 0 (by decide) (hts _ (List.mem_cons_of_mem _ wd_186)) (fun _ h9 => h9) rfl d_Rl_sortInto_73 ?_
    refine va_get (D := D) (ci := 1) (v := .int (gi S 3)) (C := R_Pt) (T := F_Pt) (N := 5) hx hb hts (fun w h => List.mem_cons_of_mem _ (in_Pt w h)) hown hK hP 1 rfl rfl 1 (by decide) (hts _ (List.mem_cons_of_mem _ wd_118)) (fun _ h9 => h9) rfl d_Rl_sortInto_76 ?_
    refine lv_icmp_ge (tgt := 118) hx hb d_Rl_sortInto_79 (by decide) (fun c_1 => ?_) (fun c_1 => ?_)
    · rw [if_pos c_1] at hf
      refine lv_iconst (v := 0) hx hb d_Rl_sortInto_118 (by decide) ?_
      refine lv_istore (lv' := [(5, .int 0), (0, .ref (ob 4)), (1, .ref (ad k1)), (2, .ref (ad k2)), (3, .int x3), (4, .int x4)]) hx hb d_Rl_sortInto_119 hl (by decide) rfl (fun ls hl => ?_)
      exact w_Rl_sortInto_121 C0 hret k1 k2 hk1 hk2  FU x3 x4 0 S H locs ls hP hD hS (lv_sub hl [1, 2, 3, 4, 5, 0] rfl) hf
    · rw [if_neg c_1] at hf
      refine lv_aload_n hx hb d_Rl_sortInto_82 rfl (lv_at hl 0 rfl) ?_
      refine va_get (D := D) (ci := 4) (v := .ref (ad 17)) (C := R_Rl) (T := F_Rl) (N := 6) hx hb hts (fun w h => List.mem_cons_of_mem _ (in_Rl w h)) hown hK hP 4 rfl rfl 4 (by decide) (hts _ (List.mem_cons_of_mem _ wd_190)) (fun _ h9 => h9) rfl d_Rl_sortInto_83 ?_
      refine lv_iload hx hb d_Rl_sortInto_86 (lv_at hl 5 rfl) ?_
      refine lv_aload_n hx hb d_Rl_sortInto_88 rfl (lv_at hl 0 rfl) ?_
      refine va_get (D := D) (ci := 4) (v := .ref (ad 17)) (C := R_Rl) (T := F_Rl) (N := 6) hx hb hts (fun w h => List.mem_cons_of_mem _ (in_Rl w h)) hown hK hP 4 rfl rfl 4 (by decide) (hts _ (List.mem_cons_of_mem _ wd_190)) (fun _ h9 => h9) rfl d_Rl_sortInto_89 ?_
      refine lv_iload hx hb d_Rl_sortInto_92 (lv_at hl 5 rfl) ?_
      obtain ⟨q_2, hq_2, hf⟩ := bd_some hf
      refine kc_i (va_runSN (As := [.ref (ad 17), .int x5]) (rest := [.int x5, .ref (ad 17)]) ⟨hx, hb, hml, hown, hts⟩ (c_Pn_read l D cA ob ad 17 x5 (by decide) S hq_2 H.size) ⟨va_cnB 2 hts (gd_Pn_read) rfl rfl rfl (nw_5 hN) (hts _ (List.mem_cons_of_mem _ wd_63)) dd_Pn_read ⟨Nat.le_of_ble_eq_true rfl, Nat.le_of_ble_eq_true rfl⟩, (hts _ (List.mem_cons_of_mem _ wd_353)), trivial⟩ (kpS hK hP hD hN) rfl rfl hl.1 rfl (lv_room (Nat.le_of_ble_eq_true rfl)) d_Rl_sortInto_94 ⟨Nat.le_of_ble_eq_true rfl, Nat.le_of_ble_eq_true rfl⟩) hP hD hS hA (fun r w H locs hw hP hD hS => ?_)
      obtain ⟨rfl, rfl⟩ := hw
      refine lv_aload_n hx hb d_Rl_sortInto_97 rfl (lv_at hl 0 rfl) ?_
      refine va_get (D := D) (ci := 4) (v := .ref (ad 17)) (C := R_Rl) (T := F_Rl) (N := 6) hx hb hts (fun w h => List.mem_cons_of_mem _ (in_Rl w h)) hown hK hP 4 rfl rfl 4 (by decide) (hts _ (List.mem_cons_of_mem _ wd_190)) (fun _ h9 => h9) rfl d_Rl_sortInto_98 ?_
      refine lv_iload hx hb d_Rl_sortInto_101 (lv_at hl 5 rfl) ?_
      refine lv_iconst (v := 1) hx hb d_Rl_sortInto_103 (by decide) ?_
      refine lv_isub hx hb d_Rl_sortInto_104 ?_
      obtain ⟨q_3, hq_3, hf⟩ := bd_some hf
      refine kc_i (va_runSN (As := [.ref (ad 17), .int (x5 - 1)]) (rest := [.int q_2.1, .int x5, .ref (ad 17)]) ⟨hx, hb, hml, hown, hts⟩ (c_Pn_read l D cA ob ad 17 (x5 - 1) (by decide) q_2.2 hq_3 H.size) ⟨va_cnB 2 hts (gd_Pn_read) rfl rfl rfl (nw_5 hN) (hts _ (List.mem_cons_of_mem _ wd_63)) dd_Pn_read ⟨Nat.le_of_ble_eq_true rfl, Nat.le_of_ble_eq_true rfl⟩, (hts _ (List.mem_cons_of_mem _ wd_353)), trivial⟩ (kpS hK hP hD hN) rfl rfl hl.1 rfl (lv_room (Nat.le_of_ble_eq_true rfl)) d_Rl_sortInto_105 ⟨Nat.le_of_ble_eq_true rfl, Nat.le_of_ble_eq_true rfl⟩) hP hD hS hA (fun r w H locs hw hP hD hS => ?_)
      obtain ⟨rfl, rfl⟩ := hw
      refine lv_iadd hx hb d_Rl_sortInto_108 ?_
      obtain ⟨q_4, hq_4, hf⟩ := bd_some hf
      refine kc_v (va_runSN (As := [.ref (ad 17), .int x5, .int (q_2.1 + q_3.1)]) (rest := []) ⟨hx, hb, hml, hown, hts⟩ (c_Pn_write l D cA ob ad 17 x5 (q_2.1 + q_3.1) (by decide) q_3.2 hq_4 H.size) ⟨va_cnB 3 hts (gd_Pn_write) rfl rfl rfl (nw_4 hN) (hts _ (List.mem_cons_of_mem _ wd_63)) dd_Pn_write ⟨Nat.le_of_ble_eq_true rfl, Nat.le_of_ble_eq_true rfl⟩, (hts _ (List.mem_cons_of_mem _ wd_342)), trivial⟩ (kpS hK hP hD hN) rfl rfl hl.1 rfl (lv_room (Nat.le_of_ble_eq_true rfl)) d_Rl_sortInto_109 ⟨Nat.le_of_ble_eq_true rfl, Nat.le_of_ble_eq_true rfl⟩) hP hD hS hA (fun w H locs hw hP hD hS => ?_)
      obtain rfl := hw
      obtain ⟨x5_5, ex5_5, hf⟩ := bn_some hf
      refine lv_iinc (v := x5_5) (lv' := [(5, .int x5_5), (0, .ref (ob 4)), (1, .ref (ad k1)), (2, .ref (ad k2)), (3, .int x3), (4, .int x4)]) hx hb d_Rl_sortInto_112 hl (k := 5) rfl (by rw [ex5_5]; rfl) (by decide) rfl (fun ls hl => ?_)
      refine lv_goto (tgt := 70) hx hb d_Rl_sortInto_115 (by decide) ?_
      exact ih x3 x4 x5_5 q_4 H locs ls hP hD hS (lv_sub hl [1, 2, 3, 4, 5, 0] rfl) hf
def f_Rl_sortInto_11 (k1 : Nat) (k2 : Nat)  : Nat → Int32 → Int32 → Int32 → St → Option St
  | 0 => fun _ _ _ _ => none
  | n + 1 => fun x3 x4 x5 S => (if x3 ≤ x5 then
      f_Rl_sortInto_70 k1 k2  FU x3 x4 1 S
      else
      bd (f_Pn_read k1 x5 S) (fun q_2 => bd (f_Nt_ahead q_2.1 x4 q_2.2) (fun q_3 => bd (f_Nt_startOf q_3.1 q_3.2) (fun q_4 => bd (f_Pn_read 17 (q_4.1 + 1) q_4.2) (fun q_5 => bd (f_Pn_write 17 (q_4.1 + 1) (q_5.1 + 1) q_5.2) (fun q_6 => bn (x5 + 1) (fun x5_7 => f_Rl_sortInto_11 k1 k2 n x3 x4 x5_7 q_6)))))))
set_option maxHeartbeats 4000000 in
set_option maxRecDepth 100000 in
theorem w_Rl_sortInto_11 (C0 : CX p s m args c b_Rl_sortInto 9 R_Rl w_Rl_sortInto D clC cA A) {res : St} (hret : RTv p l e rm_Rl_sortInto s m args below meth c Q D clC A b_Rl_sortInto 0 0 (fun w => w = cw cA ob ad res)) (k1 : Nat) (k2 : Nat) (hk1 : isRowc k1) (hk2 : isRowc k2)  : ∀ (n : Nat) (x3 : Int32) (x4 : Int32) (x5 : Int32) (S : St) (H : Heap) (locs : List Loc) (ls : Array Slot), va_P D clC (cw cA ob ad S) H → va_D A (cw cA ob ad S) → va_S A s.heap H locs → lv_has ls 9 [(0, .ref (ob 4)), (1, .ref (ad k1)), (2, .ref (ad k2)), (3, .int x3), (4, .int x4), (5, .int x5)] → f_Rl_sortInto_11 k1 k2  n x3 x4 x5 S = some res → W p l e rm_Rl_sortInto s m args below meth c H locs 0 0 Q (F0 m 11 ls []) := by
  obtain ⟨hx, hb, hml, hown, hts, hK, hA, hN⟩ := id C0
  intro n
  induction n with
  | zero =>
    intro x3 x4 x5 S H locs ls hP hD hS hl hf
    cases hf
  | succ n ih =>
    intro x3 x4 x5 S H locs ls hP hD hS hl hf
    rw [f_Rl_sortInto_11] at hf
    try dsimp only at hf
    refine lv_iload hx hb d_Rl_sortInto_11 (lv_at hl 5 rfl) ?_
    refine lv_iload_n hx hb d_Rl_sortInto_13 rfl (lv_at hl 3 rfl) ?_
    refine lv_icmp_ge (tgt := 67) hx hb d_Rl_sortInto_14 (by decide) (fun c_1 => ?_) (fun c_1 => ?_)
    · rw [if_pos c_1] at hf
      refine lv_iconst (v := 1) hx hb d_Rl_sortInto_67 (by decide) ?_
      refine lv_istore (lv' := [(5, .int 1), (0, .ref (ob 4)), (1, .ref (ad k1)), (2, .ref (ad k2)), (3, .int x3), (4, .int x4)]) hx hb d_Rl_sortInto_68 hl (by decide) rfl (fun ls hl => ?_)
      exact w_Rl_sortInto_70 C0 hret k1 k2 hk1 hk2  FU x3 x4 1 S H locs ls hP hD hS (lv_sub hl [1, 2, 3, 4, 5, 0] rfl) hf
    · rw [if_neg c_1] at hf
      refine lv_aload_n hx hb d_Rl_sortInto_17 rfl (lv_at hl 0 rfl) ?_
      refine va_get (D := D) (ci := 4) (v := .ref (ob 3)) (C := R_Rl) (T := F_Rl) (N := 6) hx hb hts (fun w h => List.mem_cons_of_mem _ (in_Rl w h)) hown hK hP 4 rfl rfl 1 (by decide) (hts _ (List.mem_cons_of_mem _ wd_187)) (fun _ h9 => h9) rfl d_Rl_sortInto_18 ?_
      refine lv_aload_n hx hb d_Rl_sortInto_21 rfl (lv_at hl 1 rfl) ?_
      refine lv_iload hx hb d_Rl_sortInto_22 (lv_at hl 5 rfl) ?_
      obtain ⟨q_2, hq_2, hf⟩ := bd_some hf
      refine kc_i (va_runSN (As := [.ref (ad k1), .int x5]) (rest := [.ref (ob 3)]) ⟨hx, hb, hml, hown, hts⟩ (c_Pn_read l D cA ob ad k1 x5 hk1 S hq_2 H.size) ⟨va_cnB 2 hts (gd_Pn_read) rfl rfl rfl (nw_5 hN) (hts _ (List.mem_cons_of_mem _ wd_63)) dd_Pn_read ⟨Nat.le_of_ble_eq_true rfl, Nat.le_of_ble_eq_true rfl⟩, (hts _ (List.mem_cons_of_mem _ wd_353)), trivial⟩ (kpS hK hP hD hN) rfl rfl hl.1 rfl (lv_room (Nat.le_of_ble_eq_true rfl)) d_Rl_sortInto_24 ⟨Nat.le_of_ble_eq_true rfl, Nat.le_of_ble_eq_true rfl⟩) hP hD hS hA (fun r w H locs hw hP hD hS => ?_)
      obtain ⟨rfl, rfl⟩ := hw
      refine lv_iload hx hb d_Rl_sortInto_27 (lv_at hl 4 rfl) ?_
      obtain ⟨q_3, hq_3, hf⟩ := bd_some hf
      refine kc_i (va_runS (As := [.int q_2.1, .int x4]) (rest := [.ref (ob 3)]) ⟨hx, hb, hml, hown, hts⟩ (c_Nt_ahead l D cA ob ad q_2.1 x4  q_2.2 hq_3 H.size) ⟨callB_of 2 hts (gd_Nt_ahead) rfl rfl rfl (hts _ (List.mem_cons_of_mem _ wd_67)) (hts _ (List.mem_cons_of_mem _ wd_658)) dd_Nt_ahead ⟨Nat.le_of_ble_eq_true rfl, Nat.le_of_ble_eq_true rfl⟩, (hts _ (List.mem_cons_of_mem _ wd_360))⟩ (kpS hK hP hD hN) rfl rfl hl.1 rfl (lv_room (Nat.le_of_ble_eq_true rfl)) d_Rl_sortInto_29 ⟨Nat.le_of_ble_eq_true rfl, Nat.le_of_ble_eq_true rfl⟩) hP hD hS hA (fun r w H locs hw hP hD hS => ?_)
      obtain ⟨rfl, rfl⟩ := hw
      obtain ⟨q_4, hq_4, hf⟩ := bd_some hf
      refine kc_i (va_runV (As := [.int q_3.1]) (rest := []) ⟨hx, hb, hml, hown, hts⟩ (c_Nt_startOf l D cA ob ad q_3.1  q_3.2 hq_4 H.size) ⟨callB_of 1 hts (gd_Nt_startOf) rfl rfl rfl (hts _ (List.mem_cons_of_mem _ wd_67)) (hts _ (List.mem_cons_of_mem _ wd_659)) dd_Nt_startOf ⟨Nat.le_of_ble_eq_true rfl, Nat.le_of_ble_eq_true rfl⟩, (hts _ (List.mem_cons_of_mem _ wd_363)), (hts _ (List.mem_cons_of_mem _ wd_364))⟩ (kpV hK hP hD hN 3 3 rfl rfl) rfl rfl hl.1 rfl (lv_room (Nat.le_of_ble_eq_true rfl)) d_Rl_sortInto_32 ⟨Nat.le_of_ble_eq_true rfl, Nat.le_of_ble_eq_true rfl⟩) hP hD hS hA (fun r w H locs hw hP hD hS => ?_)
      obtain ⟨rfl, rfl⟩ := hw
      refine lv_istore (lv' := [(6, .int q_4.1), (0, .ref (ob 4)), (1, .ref (ad k1)), (2, .ref (ad k2)), (3, .int x3), (4, .int x4), (5, .int x5)]) hx hb d_Rl_sortInto_35 hl (by decide) rfl (fun ls hl => ?_)
      refine lv_aload_n hx hb d_Rl_sortInto_37 rfl (lv_at hl 1 rfl) ?_
      refine va_get (D := D) (ci := 4) (v := .ref (ad 17)) (C := R_Rl) (T := F_Rl) (N := 6) hx hb hts (fun w h => List.mem_cons_of_mem _ (in_Rl w h)) hown hK hP 4 rfl rfl 4 (by decide) (hts _ (List.mem_cons_of_mem _ wd_190)) (fun _ h9 => h9) rfl d_Rl_sortInto_38 ?_
      refine lv_iload hx hb d_Rl_sortInto_41 (lv_at hl 0 rfl) ?_
      refine lv_iconst (v := 1) hx hb d_Rl_sortInto_43 (by decide) ?_
      refine lv_iadd hx hb d_Rl_sortInto_44 ?_
      refine lv_aload_n hx hb d_Rl_sortInto_45 rfl (lv_at hl 1 rfl) ?_
      refine va_get (D := D) (ci := 4) (v := .ref (ad 17)) (C := R_Rl) (T := F_Rl) (N := 6) hx hb hts (fun w h => List.mem_cons_of_mem _ (in_Rl w h)) hown hK hP 4 rfl rfl 4 (by decide) (hts _ (List.mem_cons_of_mem _ wd_190)) (fun _ h9 => h9) rfl d_Rl_sortInto_46 ?_
      refine lv_iload hx hb d_Rl_sortInto_49 (lv_at hl 0 rfl) ?_
      refine lv_iconst (v := 1) hx hb d_Rl_sortInto_51 (by decide) ?_
      refine lv_iadd hx hb d_Rl_sortInto_52 ?_
      obtain ⟨q_5, hq_5, hf⟩ := bd_some hf
      refine kc_i (va_runSN (As := [.ref (ad 17), .int (q_4.1 + 1)]) (rest := [.int (q_4.1 + 1), .ref (ad 17)]) ⟨hx, hb, hml, hown, hts⟩ (c_Pn_read l D cA ob ad 17 (q_4.1 + 1) (by decide) q_4.2 hq_5 H.size) ⟨va_cnB 2 hts (gd_Pn_read) rfl rfl rfl (nw_5 hN) (hts _ (List.mem_cons_of_mem _ wd_63)) dd_Pn_read ⟨Nat.le_of_ble_eq_true rfl, Nat.le_of_ble_eq_true rfl⟩, (hts _ (List.mem_cons_of_mem _ wd_353)), trivial⟩ (kpS hK hP hD hN) rfl rfl hl.1 rfl (lv_room (Nat.le_of_ble_eq_true rfl)) d_Rl_sortInto_53 ⟨Nat.le_of_ble_eq_true rfl, Nat.le_of_ble_eq_true rfl⟩) hP hD hS hA (fun r w H locs hw hP hD hS => ?_)
      obtain ⟨rfl, rfl⟩ := hw
      refine lv_iconst (v := 1) hx hb d_Rl_sortInto_56 (by decide) ?_
      refine lv_iadd hx hb d_Rl_sortInto_57 ?_
      obtain ⟨q_6, hq_6, hf⟩ := bd_some hf
      refine kc_v (va_runSN (As := [.ref (ad 17), .int (q_4.1 + 1), .int (q_5.1 + 1)]) (rest := []) ⟨hx, hb, hml, hown, hts⟩ (c_Pn_write l D cA ob ad 17 (q_4.1 + 1) (q_5.1 + 1) (by decide) q_5.2 hq_6 H.size) ⟨va_cnB 3 hts (gd_Pn_write) rfl rfl rfl (nw_4 hN) (hts _ (List.mem_cons_of_mem _ wd_63)) dd_Pn_write ⟨Nat.le_of_ble_eq_true rfl, Nat.le_of_ble_eq_true rfl⟩, (hts _ (List.mem_cons_of_mem _ wd_342)), trivial⟩ (kpS hK hP hD hN) rfl rfl hl.1 rfl (lv_room (Nat.le_of_ble_eq_true rfl)) d_Rl_sortInto_58 ⟨Nat.le_of_ble_eq_true rfl, Nat.le_of_ble_eq_true rfl⟩) hP hD hS hA (fun w H locs hw hP hD hS => ?_)
      obtain rfl := hw
      obtain ⟨x5_7, ex5_7, hf⟩ := bn_some hf
      refine lv_iinc (v := x5_7) (lv' := [(5, .int x5_7), (6, .int q_4.1), (0, .ref (ob 4)), (1, .ref (ad k1)), (2, .ref (ad k2)), (3, .int x3), (4, .int x4)]) hx hb d_Rl_sortInto_61 hl (k := 6) rfl (by rw [ex5_7]; rfl) (by decide) rfl (fun ls hl => ?_)
      refine lv_goto (tgt := 11) hx hb d_Rl_sortInto_64 (by decide) ?_
      exact ih x3 x4 x5_7 q_6 H locs ls hP hD hS (lv_sub hl [2, 3, 4, 5, 6, 0] rfl) hf
def f_Rl_sortInto_0 (k1 : Nat) (k2 : Nat)  (x3 : Int32) (x4 : Int32) (S : St) : Option St :=
  bd (f_Ar_fill 17 0 S) (fun q_1 => f_Rl_sortInto_11 k1 k2  FU x3 x4 0 q_1)
set_option maxHeartbeats 4000000 in
set_option maxRecDepth 100000 in
theorem w_Rl_sortInto_0 (C0 : CX p s m args c b_Rl_sortInto 9 R_Rl w_Rl_sortInto D clC cA A) {res : St} (hret : RTv p l e rm_Rl_sortInto s m args below meth c Q D clC A b_Rl_sortInto 0 0 (fun w => w = cw cA ob ad res)) (k1 : Nat) (k2 : Nat) (hk1 : isRowc k1) (hk2 : isRowc k2)  : ∀ (x3 : Int32) (x4 : Int32) (S : St) (H : Heap) (locs : List Loc) (ls : Array Slot), va_P D clC (cw cA ob ad S) H → va_D A (cw cA ob ad S) → va_S A s.heap H locs → lv_has ls 9 [(0, .ref (ob 4)), (1, .ref (ad k1)), (2, .ref (ad k2)), (3, .int x3), (4, .int x4)] → f_Rl_sortInto_0 k1 k2  x3 x4 S = some res → W p l e rm_Rl_sortInto s m args below meth c H locs 0 0 Q (F0 m 0 ls []) := by
  obtain ⟨hx, hb, hml, hown, hts, hK, hA, hN⟩ := id C0
  intro x3 x4 S H locs ls hP hD hS hl hf
  rw [f_Rl_sortInto_0] at hf
  refine lv_aload_n hx hb d_Rl_sortInto_0 rfl (lv_at hl 0 rfl) ?_
  refine va_get (D := D) (ci := 4) (v := .ref (ad 17)) (C := R_Rl) (T := F_Rl) (N := 6) hx hb hts (fun w h => List.mem_cons_of_mem _ (in_Rl w h)) hown hK hP 4 rfl rfl 4 (by decide) (hts _ (List.mem_cons_of_mem _ wd_190)) (fun _ h9 => h9) rfl d_Rl_sortInto_1 ?_
  refine lv_iconst (v := 0) hx hb d_Rl_sortInto_4 (by decide) ?_
  obtain ⟨q_1, hq_1, hf⟩ := bd_some hf
  refine kc_v (va_runS (As := [.ref (ad 17), .int 0]) (rest := []) ⟨hx, hb, hml, hown, hts⟩ (c_Ar_fill l D cA ob ad 17 0 (by decide) S hq_1 H.size) ⟨callB_of 2 hts (gd_Ar_fill) rfl rfl rfl (hts _ (List.mem_cons_of_mem _ wd_76)) (hts _ (List.mem_cons_of_mem _ wd_656)) dd_Ar_fill ⟨Nat.le_of_ble_eq_true rfl, Nat.le_of_ble_eq_true rfl⟩, (hts _ (List.mem_cons_of_mem _ wd_269))⟩ (kpS hK hP hD hN) rfl rfl hl.1 rfl (lv_room (Nat.le_of_ble_eq_true rfl)) d_Rl_sortInto_5 ⟨Nat.le_of_ble_eq_true rfl, Nat.le_of_ble_eq_true rfl⟩) hP hD hS hA (fun w H locs hw hP hD hS => ?_)
  obtain rfl := hw
  refine lv_iconst (v := 0) hx hb d_Rl_sortInto_8 (by decide) ?_
  refine lv_istore (lv' := [(5, .int 0), (0, .ref (ob 4)), (1, .ref (ad k1)), (2, .ref (ad k2)), (3, .int x3), (4, .int x4)]) hx hb d_Rl_sortInto_9 hl (by decide) rfl (fun ls hl => ?_)
  exact w_Rl_sortInto_11 C0 hret k1 k2 hk1 hk2  FU x3 x4 0 q_1 H locs ls hP hD hS (lv_sub hl [1, 2, 3, 4, 5, 0] rfl) hf
def f_Rl_sortInto (k1 : Nat) (k2 : Nat) (x3 : Int32) (x4 : Int32) (S : St) : Option St := f_Rl_sortInto_0 k1 k2 x3 x4 S
theorem c_Rl_sortInto (l : Launch) (D : va_G) (cA : ClassId) (ob ad : Nat → Nat) (k1 : Nat) (k2 : Nat) (x3 : Int32) (x4 : Int32) (hk1 : isRowc k1) (hk2 : isRowc k2) (S : St) {res : St} (hf : f_Rl_sortInto k1 k2 x3 x4 S = some res) : CTv l y_Rl_sortInto w_Rl_sortInto rm_Rl_sortInto 0 0 D clC [(cA, .int)] [.ref (ob 4), .ref (ad k1), .ref (ad k2), .int x3, .int x4] (cw cA ob ad S) (fun w => w = cw cA ob ad res) :=
  mk_v (cc := b_Rl_sortInto) (maxL := 9) (own := R_Rl) (by decide) rfl rfl (Nat.le_of_ble_eq_true rfl) (fun p e s m below meth c A Q C0 hret ls hl hP hD hS => w_Rl_sortInto_0 C0 hret k1 k2 hk1 hk2 x3 x4 S _ _ ls hP hD hS (lv_sub hl [0, 1, 2, 3, 4] rfl) hf)
def f_Rl_sortAll_53    (S : St) : Option St :=
  bd (f_Rl_gather  S) (fun q_1 => bd (f_Rl_sortInto 15 16 q_1.1 1 q_1.2) (fun q_2 => bd (f_Rl_sortInto 16 15 q_1.1 0 q_2) (fun q_3 => bn (seti q_3 10 1) (fun S_4 => some S_4))))
set_option maxHeartbeats 4000000 in
set_option maxRecDepth 100000 in
theorem w_Rl_sortAll_53 (C0 : CX p s m args c b_Rl_sortAll 2 R_Rl w_Rl_sortAll D clC cA A) {res : St} (hret : RTv p l e rm_Rl_sortAll s m args below meth c Q D clC A b_Rl_sortAll 3 5121 (fun w => ∃ ad, w = cw cA ob ad res))    : ∀  (S : St) (ad : Nat → Nat) (H : Heap) (locs : List Loc) (ls : Array Slot), va_P D clC (cw cA ob ad S) H → va_D A (cw cA ob ad S) → va_S A s.heap H locs → lv_has ls 2 [(0, .ref (ob 4))] → f_Rl_sortAll_53    S = some res → W p l e rm_Rl_sortAll s m args below meth c H locs 3 5121 Q (F0 m 53 ls []) := by
  obtain ⟨hx, hb, hml, hown, hts, hK, hA, hN⟩ := id C0
  intro  S ad H locs ls hP hD hS hl hf
  rw [f_Rl_sortAll_53] at hf
  refine lv_aload_n hx hb d_Rl_sortAll_53 rfl (lv_at hl 0 rfl) ?_
  obtain ⟨q_1, hq_1, hf⟩ := bd_some hf
  refine kc_i (va_runV (As := []) (rest := []) ⟨hx, hb, hml, hown, hts⟩ (c_Rl_gather l D cA ob ad   S hq_1 H.size) ⟨callB_of 0 hts (gd_Rl_gather) rfl rfl rfl (hts _ (List.mem_cons_of_mem _ wd_68)) (hts _ (List.mem_cons_of_mem _ wd_638)) dd_Rl_gather ⟨Nat.le_of_ble_eq_true rfl, Nat.le_of_ble_eq_true rfl⟩, (hts _ (List.mem_cons_of_mem _ wd_640)), (hts _ (List.mem_cons_of_mem _ wd_24))⟩ (kpV hK hP hD hN 4 4 rfl rfl) rfl rfl hl.1 rfl (lv_room (Nat.le_of_ble_eq_true rfl)) d_Rl_sortAll_54 ⟨by decide +kernel, by decide +kernel⟩) hP hD hS hA (fun r w H locs hw hP hD hS => ?_)
  obtain ⟨rfl, rfl⟩ := hw
  refine lv_istore_n (lv' := [(1, .int q_1.1), (0, .ref (ob 4))]) hx hb d_Rl_sortAll_57 rfl hl (by decide) rfl (fun ls hl => ?_)
  refine lv_aload_n hx hb d_Rl_sortAll_58 rfl (lv_at hl 1 rfl) ?_
  refine lv_aload_n hx hb d_Rl_sortAll_59 rfl (lv_at hl 1 rfl) ?_
  refine va_get (D := D) (ci := 4) (v := .ref (ad 15)) (C := R_Rl) (T := F_Rl) (N := 6) hx hb hts (fun w h => List.mem_cons_of_mem _ (in_Rl w h)) hown hK hP 4 rfl rfl 2 (by decide) (hts _ (List.mem_cons_of_mem _ wd_188)) (fun _ h9 => h9) rfl d_Rl_sortAll_60 ?_
  refine lv_aload_n hx hb d_Rl_sortAll_63 rfl (lv_at hl 1 rfl) ?_
  refine va_get (D := D) (ci := 4) (v := .ref (ad 16)) (C := R_Rl) (T := F_Rl) (N := 6) hx hb hts (fun w h => List.mem_cons_of_mem _ (in_Rl w h)) hown hK hP 4 rfl rfl 3 (by decide) (hts _ (List.mem_cons_of_mem _ wd_189)) (fun _ h9 => h9) rfl d_Rl_sortAll_64 ?_
  refine lv_iload_n hx hb d_Rl_sortAll_67 rfl (lv_at hl 0 rfl) ?_
  refine lv_iconst (v := 1) hx hb d_Rl_sortAll_68 (by decide) ?_
  obtain ⟨q_2, hq_2, hf⟩ := bd_some hf
  refine kc_v (va_runV (As := [.ref (ad 15), .ref (ad 16), .int q_1.1, .int 1]) (rest := []) ⟨hx, hb, hml, hown, hts⟩ (c_Rl_sortInto l D cA ob ad 15 16 q_1.1 1 (by decide) (by decide) q_1.2 hq_2 H.size) ⟨callB_of 4 hts (gd_Rl_sortInto) rfl rfl rfl (hts _ (List.mem_cons_of_mem _ wd_68)) (hts _ (List.mem_cons_of_mem _ wd_652)) dd_Rl_sortInto ⟨Nat.le_of_ble_eq_true rfl, Nat.le_of_ble_eq_true rfl⟩, (hts _ (List.mem_cons_of_mem _ wd_654)), (hts _ (List.mem_cons_of_mem _ wd_25))⟩ (kpV hK hP hD hN 4 4 rfl rfl) rfl rfl hl.1 rfl (lv_room (Nat.le_of_ble_eq_true rfl)) d_Rl_sortAll_69 ⟨by decide +kernel, by decide +kernel⟩) hP hD hS hA (fun w H locs hw hP hD hS => ?_)
  obtain rfl := hw
  refine lv_aload_n hx hb d_Rl_sortAll_72 rfl (lv_at hl 1 rfl) ?_
  refine lv_aload_n hx hb d_Rl_sortAll_73 rfl (lv_at hl 1 rfl) ?_
  refine va_get (D := D) (ci := 4) (v := .ref (ad 16)) (C := R_Rl) (T := F_Rl) (N := 6) hx hb hts (fun w h => List.mem_cons_of_mem _ (in_Rl w h)) hown hK hP 4 rfl rfl 3 (by decide) (hts _ (List.mem_cons_of_mem _ wd_189)) (fun _ h9 => h9) rfl d_Rl_sortAll_74 ?_
  refine lv_aload_n hx hb d_Rl_sortAll_77 rfl (lv_at hl 1 rfl) ?_
  refine va_get (D := D) (ci := 4) (v := .ref (ad 15)) (C := R_Rl) (T := F_Rl) (N := 6) hx hb hts (fun w h => List.mem_cons_of_mem _ (in_Rl w h)) hown hK hP 4 rfl rfl 2 (by decide) (hts _ (List.mem_cons_of_mem _ wd_188)) (fun _ h9 => h9) rfl d_Rl_sortAll_78 ?_
  refine lv_iload_n hx hb d_Rl_sortAll_81 rfl (lv_at hl 0 rfl) ?_
  refine lv_iconst (v := 0) hx hb d_Rl_sortAll_82 (by decide) ?_
  obtain ⟨q_3, hq_3, hf⟩ := bd_some hf
  refine kc_v (va_runV (As := [.ref (ad 16), .ref (ad 15), .int q_1.1, .int 0]) (rest := []) ⟨hx, hb, hml, hown, hts⟩ (c_Rl_sortInto l D cA ob ad 16 15 q_1.1 0 (by decide) (by decide) q_2 hq_3 H.size) ⟨callB_of 4 hts (gd_Rl_sortInto) rfl rfl rfl (hts _ (List.mem_cons_of_mem _ wd_68)) (hts _ (List.mem_cons_of_mem _ wd_652)) dd_Rl_sortInto ⟨Nat.le_of_ble_eq_true rfl, Nat.le_of_ble_eq_true rfl⟩, (hts _ (List.mem_cons_of_mem _ wd_654)), (hts _ (List.mem_cons_of_mem _ wd_25))⟩ (kpV hK hP hD hN 4 4 rfl rfl) rfl rfl hl.1 rfl (lv_room (Nat.le_of_ble_eq_true rfl)) d_Rl_sortAll_83 ⟨by decide +kernel, by decide +kernel⟩) hP hD hS hA (fun w H locs hw hP hD hS => ?_)
  obtain rfl := hw
  refine lv_aload_n hx hb d_Rl_sortAll_86 rfl (lv_at hl 1 rfl) ?_
  refine lv_iconst (v := 1) hx hb d_Rl_sortAll_87 (by decide) ?_
  obtain ⟨S_4, eS_4, hf⟩ := bn_some hf
  refine va_put (D := D) (ci := 4) (v := .int 1) (ty := .boolean) (C := R_Rl) (T := F_Rl) (N := 6) hx hb hts (fun w h => List.mem_cons_of_mem _ (in_Rl w h)) t_Rl tk_Rl nk_Rl hown hK hP hD hS 4 rfl rfl 5 (by decide) (hts _ (List.mem_cons_of_mem _ wd_191)) (fun _ h9 => h9) rfl (by decide +kernel) rfl rfl (Nat.le_of_ble_eq_true rfl) d_Rl_sortAll_88 (fun H locs hP hD hS => ?_)
  have hP : va_P D clC (cw cA ob ad S_4) H := by rw [eS_4]; exact hP
  have hD : va_D A (cw cA ob ad S_4) := by rw [eS_4]; exact hD
  cases hf
  exact hret _ _ _ _ _ ⟨ad, rfl⟩ hP hD hS d_Rl_sortAll_91
def f_Rl_sortAll_0    (S : St) : Option St :=
  (if (nI (gn S 15)) = 0 then
    as_ (alen (2 * (gi S 2)) 2048) (bn (newa S 15 (Int32.toNatClampNeg (2 * (gi S 2)))) (fun S_3 => as_ (alen (2 * (gi S_3 2)) 2048) (bn (newa S_3 16 (Int32.toNatClampNeg (2 * (gi S_3 2)))) (fun S_5 => as_ (alen ((gi S_5 2) + 1) 1025) (bn (newa S_5 17 (Int32.toNatClampNeg ((gi S_5 2) + 1))) (fun S_7 => f_Rl_sortAll_53    S_7))))))
    else
    f_Rl_sortAll_53    S)
set_option maxHeartbeats 4000000 in
set_option maxRecDepth 100000 in
theorem w_Rl_sortAll_0 (C0 : CX p s m args c b_Rl_sortAll 2 R_Rl w_Rl_sortAll D clC cA A) {res : St} (hret : RTv p l e rm_Rl_sortAll s m args below meth c Q D clC A b_Rl_sortAll 3 5121 (fun w => ∃ ad, w = cw cA ob ad res))    : ∀  (S : St) (ad : Nat → Nat) (H : Heap) (locs : List Loc) (ls : Array Slot), va_P D clC (cw cA ob ad S) H → va_D A (cw cA ob ad S) → va_S A s.heap H locs → lv_has ls 2 [(0, .ref (ob 4))] → f_Rl_sortAll_0    S = some res → W p l e rm_Rl_sortAll s m args below meth c H locs 0 0 Q (F0 m 0 ls []) := by
  obtain ⟨hx, hb, hml, hown, hts, hK, hA, hN⟩ := id C0
  intro  S ad H locs ls hP hD hS hl hf
  rw [f_Rl_sortAll_0] at hf
  refine lv_aload_n hx hb d_Rl_sortAll_0 rfl (lv_at hl 0 rfl) ?_
  refine va_get (D := D) (ci := 4) (v := .ref (ad 15)) (C := R_Rl) (T := F_Rl) (N := 6) hx hb hts (fun w h => List.mem_cons_of_mem _ (in_Rl w h)) hown hK hP 4 rfl rfl 2 (by decide) (hts _ (List.mem_cons_of_mem _ wd_188)) (fun _ h9 => h9) rfl d_Rl_sortAll_1 ?_
  refine va_alen (v := (nI (gn S 15))) hx hb hK hP 15 0 rfl rfl rfl d_Rl_sortAll_4 ?_
  refine lv_if_ne (tgt := 53) hx hb d_Rl_sortAll_5 (by decide) (fun c_1 => ?_) (fun c_1 => ?_)
  · rw [if_neg c_1] at hf
    refine W.widen (k := 3) (n := 5121) (by decide +kernel) (by decide +kernel) ?_
    exact w_Rl_sortAll_53 C0 hret     S ad H locs ls hP hD hS (lv_sub hl [0] rfl) hf
  · rw [if_pos c_1] at hf
    refine lv_aload_n hx hb d_Rl_sortAll_8 rfl (lv_at hl 0 rfl) ?_
    refine lv_iconst (v := 2) hx hb d_Rl_sortAll_9 (by decide) ?_
    refine lv_aload_n hx hb d_Rl_sortAll_10 rfl (lv_at hl 0 rfl) ?_
    refine va_get (D := D) (ci := 4) (v := .ref (ob 1)) (C := R_Rl) (T := F_Rl) (N := 6) hx hb hts (fun w h => List.mem_cons_of_mem _ (in_Rl w h)) hown hK hP 4 rfl rfl 0 (by decide) (hts _ (List.mem_cons_of_mem _ wd_186)) (fun _ h9 => h9) rfl d_Rl_sortAll_11 ?_
    refine va_get (D := D) (ci := 1) (v := .int (gi S 2)) (C := R_Pt) (T := F_Pt) (N := 5) hx hb hts (fun w h => List.mem_cons_of_mem _ (in_Pt w h)) hown hK hP 1 rfl rfl 0 (by decide) (hts _ (List.mem_cons_of_mem _ wd_115)) (fun _ h9 => h9) rfl d_Rl_sortAll_14 ?_
    refine lv_imul hx hb d_Rl_sortAll_17 ?_
    obtain ⟨hn_2, hf⟩ := as_some hf
    obtain ⟨S_3, eS_3, hf⟩ := bn_some hf
    refine va_newa (atype := .int) (ty := .int) (N' := Int32.toNatClampNeg (2 * (gi S 2))) (a0 := (Int32.toNatClampNeg (2 * (gi S 2)), .inl (fun _ => 0))) hx hb (hts _ (List.mem_cons_of_mem _ wd_111)) rfl hK hP hD hS hA (fun _ => rfl) (alen_nn hn_2) rfl (alen_by hn_2 (by decide)) (show 1 ≤ rm_Rl_sortAll.cells by decide +kernel) (Nat.le_trans (Nat.add_le_add_left (alen_le hn_2) _) (show 0 + 2048 ≤ rm_Rl_sortAll.slots by decide +kernel)) d_Rl_sortAll_18 (fun q cB H hK1 hP hD hS => ?_)
    obtain rfl : cA = cB := (kA_eq hK1).symm
    refine W.widen (k := 1) (n := 2048) (Nat.le_refl _) (Nat.add_le_add_left (alen_le hn_2) _) ?_
    refine va_put (D := D) (ci := 4) (v := .ref q) (ty := (.array .int)) (C := R_Rl) (T := F_Rl) (N := 6) hx hb hts (fun w h => List.mem_cons_of_mem _ (in_Rl w h)) t_Rl tk_Rl nk_Rl hown hK hP hD hS 4 rfl rfl 2 (by decide) (hts _ (List.mem_cons_of_mem _ wd_188)) (fun _ h9 => h9) rfl (by decide +kernel) rfl rfl (Nat.le_of_ble_eq_true rfl) d_Rl_sortAll_20 (fun H locs hP hD hS => ?_)
    have hP : va_P D clC (cw cA ob (up1 ad 15 q) S_3) H := by rw [eS_3]; exact hP.sub [0, 1, 2, 3, 4, 5, 6, 7, 8, 9, 10, 11, 12, 13, 14, 19, 16, 17, 18] rfl
    have hD : va_D A (cw cA ob (up1 ad 15 q) S_3) := by rw [eS_3]; exact hD.sub [0, 1, 2, 3, 4, 5, 6, 7, 8, 9, 10, 11, 12, 13, 14, 19, 16, 17, 18] (by decide) rfl
    revert hP hD
    generalize up1 ad 15 q = ad
    intro hP hD
    refine lv_aload_n hx hb d_Rl_sortAll_23 rfl (lv_at hl 0 rfl) ?_
    refine lv_iconst (v := 2) hx hb d_Rl_sortAll_24 (by decide) ?_
    refine lv_aload_n hx hb d_Rl_sortAll_25 rfl (lv_at hl 0 rfl) ?_
    refine va_get (D := D) (ci := 4) (v := .ref (ob 1)) (C := R_Rl) (T := F_Rl) (N := 6) hx hb hts (fun w h => List.mem_cons_of_mem _ (in_Rl w h)) hown hK hP 4 rfl rfl 0 (by decide) (hts _ (List.mem_cons_of_mem _ wd_186)) (fun _ h9 => h9) rfl d_Rl_sortAll_26 ?_
    refine va_get (D := D) (ci := 1) (v := .int (gi S_3 2)) (C := R_Pt) (T := F_Pt) (N := 5) hx hb hts (fun w h => List.mem_cons_of_mem _ (in_Pt w h)) hown hK hP 1 rfl rfl 0 (by decide) (hts _ (List.mem_cons_of_mem _ wd_115)) (fun _ h9 => h9) rfl d_Rl_sortAll_29 ?_
    refine lv_imul hx hb d_Rl_sortAll_32 ?_
    obtain ⟨hn_4, hf⟩ := as_some hf
    obtain ⟨S_5, eS_5, hf⟩ := bn_some hf
    refine va_newa (atype := .int) (ty := .int) (N' := Int32.toNatClampNeg (2 * (gi S_3 2))) (a0 := (Int32.toNatClampNeg (2 * (gi S_3 2)), .inl (fun _ => 0))) hx hb (hts _ (List.mem_cons_of_mem _ wd_111)) rfl hK hP hD hS hA (fun _ => rfl) (alen_nn hn_4) rfl (alen_by hn_4 (by decide)) (show 2 ≤ rm_Rl_sortAll.cells by decide +kernel) (Nat.le_trans (Nat.add_le_add_left (alen_le hn_4) _) (show 2048 + 2048 ≤ rm_Rl_sortAll.slots by decide +kernel)) d_Rl_sortAll_33 (fun q cB H hK1 hP hD hS => ?_)
    obtain rfl : cA = cB := (kA_eq hK1).symm
    refine W.widen (k := 2) (n := 4096) (Nat.le_refl _) (Nat.add_le_add_left (alen_le hn_4) _) ?_
    refine va_put (D := D) (ci := 4) (v := .ref q) (ty := (.array .int)) (C := R_Rl) (T := F_Rl) (N := 6) hx hb hts (fun w h => List.mem_cons_of_mem _ (in_Rl w h)) t_Rl tk_Rl nk_Rl hown hK hP hD hS 4 rfl rfl 3 (by decide) (hts _ (List.mem_cons_of_mem _ wd_189)) (fun _ h9 => h9) rfl (by decide +kernel) rfl rfl (Nat.le_of_ble_eq_true rfl) d_Rl_sortAll_35 (fun H locs hP hD hS => ?_)
    have hP : va_P D clC (cw cA ob (up1 ad 16 q) S_5) H := by rw [eS_5]; exact hP.sub [0, 1, 2, 3, 4, 5, 6, 7, 8, 9, 10, 11, 12, 13, 14, 15, 19, 17, 18] rfl
    have hD : va_D A (cw cA ob (up1 ad 16 q) S_5) := by rw [eS_5]; exact hD.sub [0, 1, 2, 3, 4, 5, 6, 7, 8, 9, 10, 11, 12, 13, 14, 15, 19, 17, 18] (by decide) rfl
    revert hP hD
    generalize up1 ad 16 q = ad
    intro hP hD
    refine lv_aload_n hx hb d_Rl_sortAll_38 rfl (lv_at hl 0 rfl) ?_
    refine lv_aload_n hx hb d_Rl_sortAll_39 rfl (lv_at hl 0 rfl) ?_
    refine va_get (D := D) (ci := 4) (v := .ref (ob 1)) (C := R_Rl) (T := F_Rl) (N := 6) hx hb hts (fun w h => List.mem_cons_of_mem _ (in_Rl w h)) hown hK hP 4 rfl rfl 0 (by decide) (hts _ (List.mem_cons_of_mem _ wd_186)) (fun _ h9 => h9) rfl d_Rl_sortAll_40 ?_
    refine va_get (D := D) (ci := 1) (v := .int (gi S_5 2)) (C := R_Pt) (T := F_Pt) (N := 5) hx hb hts (fun w h => List.mem_cons_of_mem _ (in_Pt w h)) hown hK hP 1 rfl rfl 0 (by decide) (hts _ (List.mem_cons_of_mem _ wd_115)) (fun _ h9 => h9) rfl d_Rl_sortAll_43 ?_
    refine lv_iconst (v := 1) hx hb d_Rl_sortAll_46 (by decide) ?_
    refine lv_iadd hx hb d_Rl_sortAll_47 ?_
    obtain ⟨hn_6, hf⟩ := as_some hf
    obtain ⟨S_7, eS_7, hf⟩ := bn_some hf
    refine va_newa (atype := .int) (ty := .int) (N' := Int32.toNatClampNeg ((gi S_5 2) + 1)) (a0 := (Int32.toNatClampNeg ((gi S_5 2) + 1), .inl (fun _ => 0))) hx hb (hts _ (List.mem_cons_of_mem _ wd_111)) rfl hK hP hD hS hA (fun _ => rfl) (alen_nn hn_6) rfl (alen_by hn_6 (by decide)) (show 3 ≤ rm_Rl_sortAll.cells by decide +kernel) (Nat.le_trans (Nat.add_le_add_left (alen_le hn_6) _) (show 4096 + 1025 ≤ rm_Rl_sortAll.slots by decide +kernel)) d_Rl_sortAll_48 (fun q cB H hK1 hP hD hS => ?_)
    obtain rfl : cA = cB := (kA_eq hK1).symm
    refine W.widen (k := 3) (n := 5121) (Nat.le_refl _) (Nat.add_le_add_left (alen_le hn_6) _) ?_
    refine va_put (D := D) (ci := 4) (v := .ref q) (ty := (.array .int)) (C := R_Rl) (T := F_Rl) (N := 6) hx hb hts (fun w h => List.mem_cons_of_mem _ (in_Rl w h)) t_Rl tk_Rl nk_Rl hown hK hP hD hS 4 rfl rfl 4 (by decide) (hts _ (List.mem_cons_of_mem _ wd_190)) (fun _ h9 => h9) rfl (by decide +kernel) rfl rfl (Nat.le_of_ble_eq_true rfl) d_Rl_sortAll_50 (fun H locs hP hD hS => ?_)
    have hP : va_P D clC (cw cA ob (up1 ad 17 q) S_7) H := by rw [eS_7]; exact hP.sub [0, 1, 2, 3, 4, 5, 6, 7, 8, 9, 10, 11, 12, 13, 14, 15, 16, 19, 18] rfl
    have hD : va_D A (cw cA ob (up1 ad 17 q) S_7) := by rw [eS_7]; exact hD.sub [0, 1, 2, 3, 4, 5, 6, 7, 8, 9, 10, 11, 12, 13, 14, 15, 16, 19, 18] (by decide) rfl
    revert hP hD
    generalize up1 ad 17 q = ad
    intro hP hD
    exact w_Rl_sortAll_53 C0 hret     S_7 ad H locs ls hP hD hS (lv_sub hl [0] rfl) hf
def f_Rl_sortAll  (S : St) : Option St := f_Rl_sortAll_0   S
theorem c_Rl_sortAll (l : Launch) (D : va_G) (cA : ClassId) (ob ad : Nat → Nat)   (S : St) {res : St} (hf : f_Rl_sortAll  S = some res) : CTv l y_Rl_sortAll w_Rl_sortAll rm_Rl_sortAll 3 5121 D clC [(cA, .int)] [.ref (ob 4)] (cw cA ob ad S) (fun w => ∃ ad, w = cw cA ob ad res) :=
  mk_v (cc := b_Rl_sortAll) (maxL := 2) (own := R_Rl) (by decide) rfl rfl (Nat.le_of_ble_eq_true rfl) (fun p e s m below meth c A Q C0 hret ls hl hP hD hS => w_Rl_sortAll_0 C0 hret    S ad _ _ ls hP hD hS (lv_sub hl [0] rfl) hf)
def f_Rl_edge_11   (x1 : Int32) (S : St) : Option (Int32 × St) :=
  bd (f_Pn_read 15 x1 S) (fun q_1 => some (q_1.1, q_1.2))
set_option maxHeartbeats 4000000 in
set_option maxRecDepth 100000 in
theorem w_Rl_edge_11 (C0 : CX p s m args c b_Rl_edge 2 R_Rl w_Rl_edge D clC cA A) {res : (Int32 × St)} (hret : RTi p l e rm_Rl_edge s m args below meth c Q D clC A b_Rl_edge 3 5121 (fun r w => r = res.1 ∧ ∃ ad, w = cw cA ob ad res.2))    : ∀ (x1 : Int32) (S : St) (ad : Nat → Nat) (H : Heap) (locs : List Loc) (ls : Array Slot), va_P D clC (cw cA ob ad S) H → va_D A (cw cA ob ad S) → va_S A s.heap H locs → lv_has ls 2 [(0, .ref (ob 4)), (1, .int x1)] → f_Rl_edge_11   x1 S = some res → W p l e rm_Rl_edge s m args below meth c H locs 3 5121 Q (F0 m 11 ls []) := by
  obtain ⟨hx, hb, hml, hown, hts, hK, hA, hN⟩ := id C0
  intro x1 S ad H locs ls hP hD hS hl hf
  rw [f_Rl_edge_11] at hf
  refine lv_aload_n hx hb d_Rl_edge_11 rfl (lv_at hl 0 rfl) ?_
  refine va_get (D := D) (ci := 4) (v := .ref (ad 15)) (C := R_Rl) (T := F_Rl) (N := 6) hx hb hts (fun w h => List.mem_cons_of_mem _ (in_Rl w h)) hown hK hP 4 rfl rfl 2 (by decide) (hts _ (List.mem_cons_of_mem _ wd_188)) (fun _ h9 => h9) rfl d_Rl_edge_12 ?_
  refine lv_iload_n hx hb d_Rl_edge_15 rfl (lv_at hl 1 rfl) ?_
  obtain ⟨q_1, hq_1, hf⟩ := bd_some hf
  refine kc_i (va_runSN (As := [.ref (ad 15), .int x1]) (rest := []) ⟨hx, hb, hml, hown, hts⟩ (c_Pn_read l D cA ob ad 15 x1 (by decide) S hq_1 H.size) ⟨va_cnB 2 hts (gd_Pn_read) rfl rfl rfl (nw_5 hN) (hts _ (List.mem_cons_of_mem _ wd_63)) dd_Pn_read ⟨Nat.le_of_ble_eq_true rfl, Nat.le_of_ble_eq_true rfl⟩, (hts _ (List.mem_cons_of_mem _ wd_353)), trivial⟩ (kpS hK hP hD hN) rfl rfl hl.1 rfl (lv_room (Nat.le_of_ble_eq_true rfl)) d_Rl_edge_16 ⟨by decide +kernel, by decide +kernel⟩) hP hD hS hA (fun r w H locs hw hP hD hS => ?_)
  obtain ⟨rfl, rfl⟩ := hw
  cases hf
  exact hret _ _ _ _ _ _ ⟨rfl, ad, rfl⟩ hP hD hS d_Rl_edge_19
def f_Rl_edge_0   (x1 : Int32) (S : St) : Option (Int32 × St) :=
  (if (gi S 10) = 0 then
    bd (f_Rl_sortAll  S) (fun q_2 => f_Rl_edge_11   x1 q_2)
    else
    f_Rl_edge_11   x1 S)
set_option maxHeartbeats 4000000 in
set_option maxRecDepth 100000 in
theorem w_Rl_edge_0 (C0 : CX p s m args c b_Rl_edge 2 R_Rl w_Rl_edge D clC cA A) {res : (Int32 × St)} (hret : RTi p l e rm_Rl_edge s m args below meth c Q D clC A b_Rl_edge 3 5121 (fun r w => r = res.1 ∧ ∃ ad, w = cw cA ob ad res.2))    : ∀ (x1 : Int32) (S : St) (ad : Nat → Nat) (H : Heap) (locs : List Loc) (ls : Array Slot), va_P D clC (cw cA ob ad S) H → va_D A (cw cA ob ad S) → va_S A s.heap H locs → lv_has ls 2 [(0, .ref (ob 4)), (1, .int x1)] → f_Rl_edge_0   x1 S = some res → W p l e rm_Rl_edge s m args below meth c H locs 0 0 Q (F0 m 0 ls []) := by
  obtain ⟨hx, hb, hml, hown, hts, hK, hA, hN⟩ := id C0
  intro x1 S ad H locs ls hP hD hS hl hf
  rw [f_Rl_edge_0] at hf
  refine lv_aload_n hx hb d_Rl_edge_0 rfl (lv_at hl 0 rfl) ?_
  refine va_get (D := D) (ci := 4) (v := .int (gi S 10)) (C := R_Rl) (T := F_Rl) (N := 6) hx hb hts (fun w h => List.mem_cons_of_mem _ (in_Rl w h)) hown hK hP 4 rfl rfl 5 (by decide) (hts _ (List.mem_cons_of_mem _ wd_191)) (fun _ h9 => h9) rfl d_Rl_edge_1 ?_
  refine lv_if_ne (tgt := 11) hx hb d_Rl_edge_4 (by decide) (fun c_1 => ?_) (fun c_1 => ?_)
  · rw [if_neg c_1] at hf
    refine W.widen (k := 3) (n := 5121) (by decide +kernel) (by decide +kernel) ?_
    exact w_Rl_edge_11 C0 hret    x1 S ad H locs ls hP hD hS (lv_sub hl [0, 1] rfl) hf
  · rw [if_pos c_1] at hf
    refine lv_aload_n hx hb d_Rl_edge_7 rfl (lv_at hl 0 rfl) ?_
    obtain ⟨q_2, hq_2, hf⟩ := bd_some hf
    refine kc_v (va_runV (As := []) (rest := []) ⟨hx, hb, hml, hown, hts⟩ (c_Rl_sortAll l D cA ob ad   S hq_2 H.size) ⟨callB_of 0 hts (gd_Rl_sortAll) rfl rfl rfl (hts _ (List.mem_cons_of_mem _ wd_68)) (hts _ (List.mem_cons_of_mem _ wd_634)) dd_Rl_sortAll ⟨Nat.le_of_ble_eq_true rfl, Nat.le_of_ble_eq_true rfl⟩, (hts _ (List.mem_cons_of_mem _ wd_636)), (hts _ (List.mem_cons_of_mem _ wd_23))⟩ (kpV hK hP hD hN 4 4 rfl rfl) rfl rfl hl.1 rfl (lv_room (Nat.le_of_ble_eq_true rfl)) d_Rl_edge_8 ⟨by decide +kernel, by decide +kernel⟩) hP hD hS hA (fun w H locs hw hP hD hS => ?_)
    obtain ⟨ad, rfl⟩ := hw
    refine W.widen (k := 3) (n := 5121) (by decide +kernel) (by decide +kernel) ?_
    exact w_Rl_edge_11 C0 hret    x1 q_2 ad H locs ls hP hD hS (lv_sub hl [0, 1] rfl) hf
def f_Rl_edge (x1 : Int32) (S : St) : Option (Int32 × St) := f_Rl_edge_0  x1 S
theorem c_Rl_edge (l : Launch) (D : va_G) (cA : ClassId) (ob ad : Nat → Nat) (x1 : Int32)  (S : St) {res : (Int32 × St)} (hf : f_Rl_edge x1 S = some res) : CTi l y_Rl_edge w_Rl_edge rm_Rl_edge 3 5121 D clC [(cA, .int)] [.ref (ob 4), .int x1] (cw cA ob ad S) (fun r w => r = res.1 ∧ ∃ ad, w = cw cA ob ad res.2) :=
  mk_i (cc := b_Rl_edge) (maxL := 2) (own := R_Rl) (by decide) rfl rfl (Nat.le_of_ble_eq_true rfl) (fun p e s m below meth c A Q C0 hret ls hl hP hD hS => w_Rl_edge_0 C0 hret   x1 S ad _ _ ls hP hD hS (lv_sub hl [0, 1] rfl) hf)
def f_Pn_triangle_24    (S : St) : Option (Int32 × St) :=
  none
set_option maxHeartbeats 4000000 in
set_option maxRecDepth 100000 in
theorem w_Pn_triangle_24 (C0 : CX p s m args c b_Pn_triangle 3 R_Pn w_Pn_triangle D clC cA A) {res : (Int32 × St)} (hret : RTi p l e rm_Pn_triangle s m args below meth c Q D clC A b_Pn_triangle 3 5121 (fun r w => r = res.1 ∧ ∃ ad, w = cw cA ob ad res.2))    : ∀  (S : St) (ad : Nat → Nat) (H : Heap) (locs : List Loc) (ls : Array Slot), va_P D clC (cw cA ob ad S) H → va_D A (cw cA ob ad S) → va_S A s.heap H locs → lv_has ls 3 [] → f_Pn_triangle_24    S = some res → W p l e rm_Pn_triangle s m args below meth c H locs 0 0 Q (F0 m 24 ls []) := by
  obtain ⟨hx, hb, hml, hown, hts, hK, hA, hN⟩ := id C0
  intro  S ad H locs ls hP hD hS hl hf
  rw [f_Pn_triangle_24] at hf
  cases hf
def f_Pn_triangle_0   (x1 : Int32) (x2 : Int32) (S : St) : Option (Int32 × St) :=
  (if x1 < 0 then
    f_Pn_triangle_24    S
    else
    bd (f_Nt_solidCount  S) (fun q_2 => (if q_2.1 ≤ x1 then
      f_Pn_triangle_24    q_2.2
      else
      (if x2 < 0 then
        f_Pn_triangle_24    q_2.2
        else
        (if x2 ≤ 2 then
          bd (f_Rl_edge x1 q_2.2) (fun q_6 => bd (f_Nt_ahead q_6.1 x2 q_6.2) (fun q_7 => bd (f_Nt_startOf q_7.1 q_7.2) (fun q_8 => some (q_8.1, q_8.2))))
          else
          f_Pn_triangle_24    q_2.2)))))
set_option maxHeartbeats 4000000 in
set_option maxRecDepth 100000 in
theorem w_Pn_triangle_0 (C0 : CX p s m args c b_Pn_triangle 3 R_Pn w_Pn_triangle D clC cA A) {res : (Int32 × St)} (hret : RTi p l e rm_Pn_triangle s m args below meth c Q D clC A b_Pn_triangle 3 5121 (fun r w => r = res.1 ∧ ∃ ad, w = cw cA ob ad res.2))    : ∀ (x1 : Int32) (x2 : Int32) (S : St) (ad : Nat → Nat) (H : Heap) (locs : List Loc) (ls : Array Slot), va_P D clC (cw cA ob ad S) H → va_D A (cw cA ob ad S) → va_S A s.heap H locs → lv_has ls 3 [(0, .ref (ob 0)), (1, .int x1), (2, .int x2)] → f_Pn_triangle_0   x1 x2 S = some res → W p l e rm_Pn_triangle s m args below meth c H locs 0 0 Q (F0 m 0 ls []) := by
  obtain ⟨hx, hb, hml, hown, hts, hK, hA, hN⟩ := id C0
  intro x1 x2 S ad H locs ls hP hD hS hl hf
  rw [f_Pn_triangle_0] at hf
  refine lv_iload_n hx hb d_Pn_triangle_0 rfl (lv_at hl 1 rfl) ?_
  refine lv_if_lt (tgt := 24) hx hb d_Pn_triangle_1 (by decide) (fun c_1 => ?_) (fun c_1 => ?_)
  · rw [if_pos c_1] at hf
    exact w_Pn_triangle_24 C0 hret     S ad H locs ls hP hD hS (lv_sub hl [] rfl) hf
  · rw [if_neg c_1] at hf
    refine lv_iload_n hx hb d_Pn_triangle_4 rfl (lv_at hl 1 rfl) ?_
    refine lv_aload_n hx hb d_Pn_triangle_5 rfl (lv_at hl 0 rfl) ?_
    refine va_get (D := D) (ci := 0) (v := .ref (ob 3)) (C := R_Pn) (T := F_Pn) (N := 8) hx hb hts (fun w h => List.mem_cons_of_mem _ (in_Pn w h)) hown hK hP 0 rfl rfl 1 (by decide) (hts _ (List.mem_cons_of_mem _ wd_228)) (fun _ h9 => h9) rfl d_Pn_triangle_6 ?_
    obtain ⟨q_2, hq_2, hf⟩ := bd_some hf
    refine kc_i (va_runV (As := []) (rest := [.int x1]) ⟨hx, hb, hml, hown, hts⟩ (c_Nt_solidCount l D cA ob ad   S hq_2 H.size) ⟨callB_of 0 hts (gd_Nt_solidCount) rfl rfl rfl (hts _ (List.mem_cons_of_mem _ wd_67)) (hts _ (List.mem_cons_of_mem _ wd_287)) dd_Nt_solidCount ⟨Nat.le_of_ble_eq_true rfl, Nat.le_of_ble_eq_true rfl⟩, (hts _ (List.mem_cons_of_mem _ wd_288)), (hts _ (List.mem_cons_of_mem _ wd_289))⟩ (kpV hK hP hD hN 3 3 rfl rfl) rfl rfl hl.1 rfl (lv_room (Nat.le_of_ble_eq_true rfl)) d_Pn_triangle_9 ⟨by decide +kernel, by decide +kernel⟩) hP hD hS hA (fun r w H locs hw hP hD hS => ?_)
    obtain ⟨rfl, rfl⟩ := hw
    refine lv_icmp_ge (tgt := 24) hx hb d_Pn_triangle_12 (by decide) (fun c_3 => ?_) (fun c_3 => ?_)
    · rw [if_pos c_3] at hf
      exact w_Pn_triangle_24 C0 hret     q_2.2 ad H locs ls hP hD hS (lv_sub hl [] rfl) hf
    · rw [if_neg c_3] at hf
      refine lv_iload_n hx hb d_Pn_triangle_15 rfl (lv_at hl 2 rfl) ?_
      refine lv_if_lt (tgt := 24) hx hb d_Pn_triangle_16 (by decide) (fun c_4 => ?_) (fun c_4 => ?_)
      · rw [if_pos c_4] at hf
        exact w_Pn_triangle_24 C0 hret     q_2.2 ad H locs ls hP hD hS (lv_sub hl [] rfl) hf
      · rw [if_neg c_4] at hf
        refine lv_iload_n hx hb d_Pn_triangle_19 rfl (lv_at hl 2 rfl) ?_
        refine lv_iconst (v := 2) hx hb d_Pn_triangle_20 (by decide) ?_
        refine lv_icmp_le (tgt := 34) hx hb d_Pn_triangle_21 (by decide) (fun c_5 => ?_) (fun c_5 => ?_)
        · rw [if_pos c_5] at hf
          refine lv_aload_n hx hb d_Pn_triangle_34 rfl (lv_at hl 0 rfl) ?_
          refine va_get (D := D) (ci := 0) (v := .ref (ob 3)) (C := R_Pn) (T := F_Pn) (N := 8) hx hb hts (fun w h => List.mem_cons_of_mem _ (in_Pn w h)) hown hK hP 0 rfl rfl 1 (by decide) (hts _ (List.mem_cons_of_mem _ wd_228)) (fun _ h9 => h9) rfl d_Pn_triangle_35 ?_
          refine lv_aload_n hx hb d_Pn_triangle_38 rfl (lv_at hl 0 rfl) ?_
          refine va_get (D := D) (ci := 0) (v := .ref (ob 4)) (C := R_Pn) (T := F_Pn) (N := 8) hx hb hts (fun w h => List.mem_cons_of_mem _ (in_Pn w h)) hown hK hP 0 rfl rfl 2 (by decide) (hts _ (List.mem_cons_of_mem _ wd_229)) (fun _ h9 => h9) rfl d_Pn_triangle_39 ?_
          refine lv_iload_n hx hb d_Pn_triangle_42 rfl (lv_at hl 1 rfl) ?_
          obtain ⟨q_6, hq_6, hf⟩ := bd_some hf
          refine kc_i (va_runV (As := [.int x1]) (rest := [.ref (ob 3)]) ⟨hx, hb, hml, hown, hts⟩ (c_Rl_edge l D cA ob ad x1  q_2.2 hq_6 H.size) ⟨callB_of 1 hts (gd_Rl_edge) rfl rfl rfl (hts _ (List.mem_cons_of_mem _ wd_68)) (hts _ (List.mem_cons_of_mem _ wd_630)) dd_Rl_edge ⟨Nat.le_of_ble_eq_true rfl, Nat.le_of_ble_eq_true rfl⟩, (hts _ (List.mem_cons_of_mem _ wd_631)), (hts _ (List.mem_cons_of_mem _ wd_632))⟩ (kpV hK hP hD hN 4 4 rfl rfl) rfl rfl hl.1 rfl (lv_room (Nat.le_of_ble_eq_true rfl)) d_Pn_triangle_43 ⟨by decide +kernel, by decide +kernel⟩) hP hD hS hA (fun r w H locs hw hP hD hS => ?_)
          obtain ⟨rfl, ad, rfl⟩ := hw
          refine W.widen (k := 3) (n := 5121) (by decide +kernel) (by decide +kernel) ?_
          refine lv_iload_n hx hb d_Pn_triangle_46 rfl (lv_at hl 2 rfl) ?_
          obtain ⟨q_7, hq_7, hf⟩ := bd_some hf
          refine kc_i (va_runS (As := [.int q_6.1, .int x2]) (rest := [.ref (ob 3)]) ⟨hx, hb, hml, hown, hts⟩ (c_Nt_ahead l D cA ob ad q_6.1 x2  q_6.2 hq_7 H.size) ⟨callB_of 2 hts (gd_Nt_ahead) rfl rfl rfl (hts _ (List.mem_cons_of_mem _ wd_67)) (hts _ (List.mem_cons_of_mem _ wd_660)) dd_Nt_ahead ⟨Nat.le_of_ble_eq_true rfl, Nat.le_of_ble_eq_true rfl⟩, (hts _ (List.mem_cons_of_mem _ wd_360))⟩ (kpS hK hP hD hN) rfl rfl hl.1 rfl (lv_room (Nat.le_of_ble_eq_true rfl)) d_Pn_triangle_47 ⟨by decide +kernel, by decide +kernel⟩) hP hD hS hA (fun r w H locs hw hP hD hS => ?_)
          obtain ⟨rfl, rfl⟩ := hw
          obtain ⟨q_8, hq_8, hf⟩ := bd_some hf
          refine kc_i (va_runV (As := [.int q_7.1]) (rest := []) ⟨hx, hb, hml, hown, hts⟩ (c_Nt_startOf l D cA ob ad q_7.1  q_7.2 hq_8 H.size) ⟨callB_of 1 hts (gd_Nt_startOf) rfl rfl rfl (hts _ (List.mem_cons_of_mem _ wd_67)) (hts _ (List.mem_cons_of_mem _ wd_661)) dd_Nt_startOf ⟨Nat.le_of_ble_eq_true rfl, Nat.le_of_ble_eq_true rfl⟩, (hts _ (List.mem_cons_of_mem _ wd_363)), (hts _ (List.mem_cons_of_mem _ wd_364))⟩ (kpV hK hP hD hN 3 3 rfl rfl) rfl rfl hl.1 rfl (lv_room (Nat.le_of_ble_eq_true rfl)) d_Pn_triangle_50 ⟨by decide +kernel, by decide +kernel⟩) hP hD hS hA (fun r w H locs hw hP hD hS => ?_)
          obtain ⟨rfl, rfl⟩ := hw
          cases hf
          exact hret _ _ _ _ _ _ ⟨rfl, ad, rfl⟩ hP hD hS d_Pn_triangle_53
        · rw [if_neg c_5] at hf
          exact w_Pn_triangle_24 C0 hret     q_2.2 ad H locs ls hP hD hS (lv_sub hl [] rfl) hf
def f_Pn_triangle (x1 : Int32) (x2 : Int32) (S : St) : Option (Int32 × St) := f_Pn_triangle_0  x1 x2 S
theorem c_Pn_triangle (l : Launch) (D : va_G) (cA : ClassId) (ob ad : Nat → Nat) (x1 : Int32) (x2 : Int32)  (S : St) {res : (Int32 × St)} (hf : f_Pn_triangle x1 x2 S = some res) : CTi l y_Pn_triangle w_Pn_triangle rm_Pn_triangle 3 5121 D clC [(cA, .int)] [.ref (ob 0), .int x1, .int x2] (cw cA ob ad S) (fun r w => r = res.1 ∧ ∃ ad, w = cw cA ob ad res.2) :=
  mk_i (cc := b_Pn_triangle) (maxL := 3) (own := R_Pn) (by decide) rfl rfl (Nat.le_of_ble_eq_true rfl) (fun p e s m below meth c A Q C0 hret ls hl hP hD hS => w_Pn_triangle_0 C0 hret   x1 x2 S ad _ _ ls hP hD hS (lv_sub hl [0, 1, 2] rfl) hf)
def f_Pn_checkNumber_15    (S : St) : Option St :=
  none
set_option maxHeartbeats 4000000 in
set_option maxRecDepth 100000 in
theorem w_Pn_checkNumber_15 (C0 : CX p s m args c b_Pn_checkNumber 2 R_Pn w_Pn_checkNumber D clC cA A) {res : St} (hret : RTv p l e rm_Pn_checkNumber s m args below meth c Q D clC A b_Pn_checkNumber 0 0 (fun w => w = cw cA ob ad res))    : ∀  (S : St) (H : Heap) (locs : List Loc) (ls : Array Slot), va_P D clC (cw cA ob ad S) H → va_D A (cw cA ob ad S) → va_S A s.heap H locs → lv_has ls 2 [] → f_Pn_checkNumber_15    S = some res → W p l e rm_Pn_checkNumber s m args below meth c H locs 0 0 Q (F0 m 15 ls []) := by
  obtain ⟨hx, hb, hml, hown, hts, hK, hA, hN⟩ := id C0
  intro  S H locs ls hP hD hS hl hf
  rw [f_Pn_checkNumber_15] at hf
  cases hf
def f_Pn_checkNumber_0   (x1 : Int32) (S : St) : Option St :=
  (if x1 < 0 then
    f_Pn_checkNumber_15    S
    else
    (if x1 < (gi S 3) then
      some S
      else
      f_Pn_checkNumber_15    S))
set_option maxHeartbeats 4000000 in
set_option maxRecDepth 100000 in
theorem w_Pn_checkNumber_0 (C0 : CX p s m args c b_Pn_checkNumber 2 R_Pn w_Pn_checkNumber D clC cA A) {res : St} (hret : RTv p l e rm_Pn_checkNumber s m args below meth c Q D clC A b_Pn_checkNumber 0 0 (fun w => w = cw cA ob ad res))    : ∀ (x1 : Int32) (S : St) (H : Heap) (locs : List Loc) (ls : Array Slot), va_P D clC (cw cA ob ad S) H → va_D A (cw cA ob ad S) → va_S A s.heap H locs → lv_has ls 2 [(0, .ref (ob 0)), (1, .int x1)] → f_Pn_checkNumber_0   x1 S = some res → W p l e rm_Pn_checkNumber s m args below meth c H locs 0 0 Q (F0 m 0 ls []) := by
  obtain ⟨hx, hb, hml, hown, hts, hK, hA, hN⟩ := id C0
  intro x1 S H locs ls hP hD hS hl hf
  rw [f_Pn_checkNumber_0] at hf
  refine lv_iload_n hx hb d_Pn_checkNumber_0 rfl (lv_at hl 1 rfl) ?_
  refine lv_if_lt (tgt := 15) hx hb d_Pn_checkNumber_1 (by decide) (fun c_1 => ?_) (fun c_1 => ?_)
  · rw [if_pos c_1] at hf
    exact w_Pn_checkNumber_15 C0 hret     S H locs ls hP hD hS (lv_sub hl [] rfl) hf
  · rw [if_neg c_1] at hf
    refine lv_iload_n hx hb d_Pn_checkNumber_4 rfl (lv_at hl 1 rfl) ?_
    refine lv_aload_n hx hb d_Pn_checkNumber_5 rfl (lv_at hl 0 rfl) ?_
    refine va_get (D := D) (ci := 0) (v := .ref (ob 1)) (C := R_Pn) (T := F_Pn) (N := 8) hx hb hts (fun w h => List.mem_cons_of_mem _ (in_Pn w h)) hown hK hP 0 rfl rfl 0 (by decide) (hts _ (List.mem_cons_of_mem _ wd_227)) (fun _ h9 => h9) rfl d_Pn_checkNumber_6 ?_
    refine va_get (D := D) (ci := 1) (v := .int (gi S 3)) (C := R_Pt) (T := F_Pt) (N := 5) hx hb hts (fun w h => List.mem_cons_of_mem _ (in_Pt w h)) hown hK hP 1 rfl rfl 1 (by decide) (hts _ (List.mem_cons_of_mem _ wd_117)) (fun _ h9 => h9) rfl d_Pn_checkNumber_9 ?_
    refine lv_icmp_lt (tgt := 25) hx hb d_Pn_checkNumber_12 (by decide) (fun c_2 => ?_) (fun c_2 => ?_)
    · rw [if_pos c_2] at hf
      cases hf
      exact hret _ _ _ _ _ rfl hP hD hS d_Pn_checkNumber_25
    · rw [if_neg c_2] at hf
      exact w_Pn_checkNumber_15 C0 hret     S H locs ls hP hD hS (lv_sub hl [] rfl) hf
def f_Pn_checkNumber (x1 : Int32) (S : St) : Option St := f_Pn_checkNumber_0  x1 S
theorem c_Pn_checkNumber (l : Launch) (D : va_G) (cA : ClassId) (ob ad : Nat → Nat) (x1 : Int32)  (S : St) {res : St} (hf : f_Pn_checkNumber x1 S = some res) : CTv l y_Pn_checkNumber w_Pn_checkNumber rm_Pn_checkNumber 0 0 D clC [(cA, .int)] [.ref (ob 0), .int x1] (cw cA ob ad S) (fun w => w = cw cA ob ad res) :=
  mk_v (cc := b_Pn_checkNumber) (maxL := 2) (own := R_Pn) (by decide) rfl rfl (Nat.le_of_ble_eq_true rfl) (fun p e s m below meth c A Q C0 hret ls hl hP hD hS => w_Pn_checkNumber_0 C0 hret   x1 S _ _ ls hP hD hS (lv_sub hl [0, 1] rfl) hf)
end
