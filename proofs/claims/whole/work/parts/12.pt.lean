section
variable {p : Program} {l : Launch} {e : Env} {s : State} {m : MethodId} {args : Array Value} {below : List Frame} {meth : Method} {c : Code} {Q : State → Prop} {D : va_G} {cA cP : ClassId} {ob : Nat → Nat} {ad : Nat → Nat → Nat} {A : Nat → Prop}
def f_Pt_takesAway_189   (x1 : Int32) (x2 : Int32) (x3 : Int32) (x4 : Int32) (S : St) : Option (Int32 × St) :=
  bd (f_Pt_isLess x3 x4 S) (fun q_1 => (if q_1.1 = 0 then
    bd (f_Rw_get 6 x1 q_1.2) (fun q_3 => bd (f_Rw_get 7 x1 q_3.2) (fun q_4 => bd (f_Pt_turn x2 x3 q_3.1 q_4.1 q_4.2) (fun q_5 => (if 0 ≤ (lg_cmp q_5.1 0) then
      some (0, q_5.2)
      else
      some (1, q_5.2)))))
    else
    bd (f_Rw_get 6 x1 q_1.2) (fun q_7 => bd (f_Rw_get 7 x1 q_7.2) (fun q_8 => bd (f_Pt_turn x4 x2 q_7.1 q_8.1 q_8.2) (fun q_9 => (if 0 ≤ (lg_cmp q_9.1 0) then
      some (0, q_9.2)
      else
      some (1, q_9.2)))))))
set_option maxHeartbeats 4000000 in
set_option maxRecDepth 100000 in
theorem w_Pt_takesAway_189 (C0 : CX p s m args c b_Pt_takesAway 6 R_Pt w_Pt_takesAway D clC cA cP A) {res : (Int32 × St)} (hret : RTz p l e rm_Pt_takesAway s m args below meth c Q D clC A b_Pt_takesAway 0 0 (fun r w => r = res.1 ∧ w = cw cA cP ob ad res.2))    : ∀ (x1 : Int32) (x2 : Int32) (x3 : Int32) (x4 : Int32) (S : St) (H : Heap) (locs : List Loc) (ls : Array Slot), va_P D clC (cw cA cP ob ad S) H → va_D A (cw cA cP ob ad S) → va_S A s.heap H locs → lv_has ls 6 [(0, .ref (ob 1)), (1, .int x1), (2, .int x2), (3, .int x3), (4, .int x4)] → f_Pt_takesAway_189   x1 x2 x3 x4 S = some res → W p l e rm_Pt_takesAway s m args below meth c H locs 0 0 Q (F0 m 189 ls []) := by
  obtain ⟨hx, hb, hml, hown, hts, hK, hA, hN, hZ⟩ := id C0
  intro x1 x2 x3 x4 S H locs ls hP hD hS hl hf
  rw [f_Pt_takesAway_189] at hf
  refine lv_aload_n hx hb d_Pt_takesAway_189 rfl (lv_at hl 0 rfl) ?_
  refine lv_iload_n hx hb d_Pt_takesAway_190 rfl (lv_at hl 3 rfl) ?_
  refine lv_iload hx hb d_Pt_takesAway_191 (lv_at hl 4 rfl) ?_
  obtain ⟨q_1, hq_1, hf⟩ := bd_some hf
  refine kc_i (va_runV (As := [.int x3, .int x4]) (rest := []) ⟨hx, hb, hml, hown, hts⟩ (c_Pt_isLess l D cA cP ob ad x3 x4  S hq_1 H.size) ⟨callB_of 2 hts (gd_Pt_isLess) rfl rfl rfl (hts _ (List.mem_cons_of_mem _ wd_65)) (hts _ (List.mem_cons_of_mem _ wd_343)) dd_Pt_isLess ⟨Nat.le_of_ble_eq_true rfl, Nat.le_of_ble_eq_true rfl⟩, (hts _ (List.mem_cons_of_mem _ wd_344)), (hts _ (List.mem_cons_of_mem _ wd_345))⟩ (kpV hK hP hD hN hZ hS 1 1 rfl rfl) rfl rfl hl.1 rfl (lv_room (Nat.le_of_ble_eq_true rfl)) d_Pt_takesAway_193 ⟨Nat.le_of_ble_eq_true rfl, Nat.le_of_ble_eq_true rfl⟩) hP hD hS hA (fun r w H locs hw hP hD hS => ?_)
  obtain ⟨rfl, rfl⟩ := hw
  refine lv_if_eq (tgt := 235) hx hb d_Pt_takesAway_196 (by decide) (fun c_2 => ?_) (fun c_2 => ?_)
  · rw [if_pos c_2] at hf
    refine lv_aload_n hx hb d_Pt_takesAway_235 rfl (lv_at hl 0 rfl) ?_
    refine lv_iload_n hx hb d_Pt_takesAway_236 rfl (lv_at hl 2 rfl) ?_
    refine lv_iload_n hx hb d_Pt_takesAway_237 rfl (lv_at hl 3 rfl) ?_
    refine lv_aload_n hx hb d_Pt_takesAway_238 rfl (lv_at hl 0 rfl) ?_
    refine va_get (D := D) (ci := 1) (v := .ref (ob 6)) (C := R_Pt) (T := F_Pt) (N := 5) hx hb hts (fun w h => List.mem_cons_of_mem _ (in_Pt w h)) hown hK hP 1 rfl rfl 2 (by decide) (hts _ (List.mem_cons_of_mem _ wd_136)) (fun _ h9 => h9) rfl d_Pt_takesAway_239 ?_
    refine lv_iload_n hx hb d_Pt_takesAway_242 rfl (lv_at hl 1 rfl) ?_
    obtain ⟨q_3, hq_3, hf⟩ := bd_some hf
    refine kc_i (va_runV (As := [.int x1]) (rest := [.int x3, .int x2, .ref (ob 1)]) ⟨hx, hb, hml, hown, hts⟩ (c_Rw_get l D cA cP ob ad 6 x1 (by decide) q_1.2 hq_3 H.size) ⟨callB_of 1 hts (gd_Rw_get) rfl rfl rfl (hts _ (List.mem_cons_of_mem _ wd_67)) (hts _ (List.mem_cons_of_mem _ wd_339)) dd_Rw_get ⟨Nat.le_of_ble_eq_true rfl, Nat.le_of_ble_eq_true rfl⟩, (hts _ (List.mem_cons_of_mem _ wd_340)), (hts _ (List.mem_cons_of_mem _ wd_341))⟩ (kpV hK hP hD hN hZ hS 6 6 rfl rfl) rfl rfl hl.1 rfl (lv_room (Nat.le_of_ble_eq_true rfl)) d_Pt_takesAway_243 ⟨Nat.le_of_ble_eq_true rfl, Nat.le_of_ble_eq_true rfl⟩) hP hD hS hA (fun r w H locs hw hP hD hS => ?_)
    obtain ⟨rfl, rfl⟩ := hw
    refine lv_aload_n hx hb d_Pt_takesAway_246 rfl (lv_at hl 0 rfl) ?_
    refine va_get (D := D) (ci := 1) (v := .ref (ob 7)) (C := R_Pt) (T := F_Pt) (N := 5) hx hb hts (fun w h => List.mem_cons_of_mem _ (in_Pt w h)) hown hK hP 1 rfl rfl 3 (by decide) (hts _ (List.mem_cons_of_mem _ wd_137)) (fun _ h9 => h9) rfl d_Pt_takesAway_247 ?_
    refine lv_iload_n hx hb d_Pt_takesAway_250 rfl (lv_at hl 1 rfl) ?_
    obtain ⟨q_4, hq_4, hf⟩ := bd_some hf
    refine kc_i (va_runV (As := [.int x1]) (rest := [.int q_3.1, .int x3, .int x2, .ref (ob 1)]) ⟨hx, hb, hml, hown, hts⟩ (c_Rw_get l D cA cP ob ad 7 x1 (by decide) q_3.2 hq_4 H.size) ⟨callB_of 1 hts (gd_Rw_get) rfl rfl rfl (hts _ (List.mem_cons_of_mem _ wd_67)) (hts _ (List.mem_cons_of_mem _ wd_339)) dd_Rw_get ⟨Nat.le_of_ble_eq_true rfl, Nat.le_of_ble_eq_true rfl⟩, (hts _ (List.mem_cons_of_mem _ wd_340)), (hts _ (List.mem_cons_of_mem _ wd_341))⟩ (kpV hK hP hD hN hZ hS 6 7 rfl rfl) rfl rfl hl.1 rfl (lv_room (Nat.le_of_ble_eq_true rfl)) d_Pt_takesAway_251 ⟨Nat.le_of_ble_eq_true rfl, Nat.le_of_ble_eq_true rfl⟩) hP hD hS hA (fun r w H locs hw hP hD hS => ?_)
    obtain ⟨rfl, rfl⟩ := hw
    obtain ⟨q_5, hq_5, hf⟩ := bd_some hf
    refine kc_l (va_runV (As := [.int x2, .int x3, .int q_3.1, .int q_4.1]) (rest := []) ⟨hx, hb, hml, hown, hts⟩ (c_Pt_turn l D cA cP ob ad x2 x3 q_3.1 q_4.1  q_4.2 hq_5 H.size) ⟨callB_of 4 hts (gd_Pt_turn) rfl rfl rfl (hts _ (List.mem_cons_of_mem _ wd_65)) (hts _ (List.mem_cons_of_mem _ wd_632)) dd_Pt_turn ⟨Nat.le_of_ble_eq_true rfl, Nat.le_of_ble_eq_true rfl⟩, (hts _ (List.mem_cons_of_mem _ wd_409)), (hts _ (List.mem_cons_of_mem _ wd_410))⟩ (kpV hK hP hD hN hZ hS 1 1 rfl rfl) rfl rfl hl.1 rfl (lv_room (Nat.le_of_ble_eq_true rfl)) d_Pt_takesAway_254 ⟨Nat.le_of_ble_eq_true rfl, Nat.le_of_ble_eq_true rfl⟩) hP hD hS hA (fun r w H locs hw hP hD hS => ?_)
    obtain ⟨rfl, rfl⟩ := hw
    refine lv_lconst (v := 0) hx hb d_Pt_takesAway_257 (by decide) ?_
    refine W.lcmp hx hb d_Pt_takesAway_258 ?_
    refine lv_if_ge (tgt := 266) hx hb d_Pt_takesAway_259 (by decide) (fun c_6 => ?_) (fun c_6 => ?_)
    · rw [if_pos c_6] at hf
      refine lv_iconst (v := 0) hx hb d_Pt_takesAway_266 (by decide) ?_
      cases hf
      exact hret _ _ _ _ _ _ ⟨rfl, rfl⟩ rfl hP hD hS d_Pt_takesAway_267
    · rw [if_neg c_6] at hf
      refine lv_iconst (v := 1) hx hb d_Pt_takesAway_262 (by decide) ?_
      refine lv_goto (tgt := 267) hx hb d_Pt_takesAway_263 (by decide) ?_
      cases hf
      exact hret _ _ _ _ _ _ ⟨rfl, rfl⟩ rfl hP hD hS d_Pt_takesAway_267
  · rw [if_neg c_2] at hf
    refine lv_aload_n hx hb d_Pt_takesAway_199 rfl (lv_at hl 0 rfl) ?_
    refine lv_iload hx hb d_Pt_takesAway_200 (lv_at hl 4 rfl) ?_
    refine lv_iload_n hx hb d_Pt_takesAway_202 rfl (lv_at hl 2 rfl) ?_
    refine lv_aload_n hx hb d_Pt_takesAway_203 rfl (lv_at hl 0 rfl) ?_
    refine va_get (D := D) (ci := 1) (v := .ref (ob 6)) (C := R_Pt) (T := F_Pt) (N := 5) hx hb hts (fun w h => List.mem_cons_of_mem _ (in_Pt w h)) hown hK hP 1 rfl rfl 2 (by decide) (hts _ (List.mem_cons_of_mem _ wd_136)) (fun _ h9 => h9) rfl d_Pt_takesAway_204 ?_
    refine lv_iload_n hx hb d_Pt_takesAway_207 rfl (lv_at hl 1 rfl) ?_
    obtain ⟨q_7, hq_7, hf⟩ := bd_some hf
    refine kc_i (va_runV (As := [.int x1]) (rest := [.int x2, .int x4, .ref (ob 1)]) ⟨hx, hb, hml, hown, hts⟩ (c_Rw_get l D cA cP ob ad 6 x1 (by decide) q_1.2 hq_7 H.size) ⟨callB_of 1 hts (gd_Rw_get) rfl rfl rfl (hts _ (List.mem_cons_of_mem _ wd_67)) (hts _ (List.mem_cons_of_mem _ wd_339)) dd_Rw_get ⟨Nat.le_of_ble_eq_true rfl, Nat.le_of_ble_eq_true rfl⟩, (hts _ (List.mem_cons_of_mem _ wd_340)), (hts _ (List.mem_cons_of_mem _ wd_341))⟩ (kpV hK hP hD hN hZ hS 6 6 rfl rfl) rfl rfl hl.1 rfl (lv_room (Nat.le_of_ble_eq_true rfl)) d_Pt_takesAway_208 ⟨Nat.le_of_ble_eq_true rfl, Nat.le_of_ble_eq_true rfl⟩) hP hD hS hA (fun r w H locs hw hP hD hS => ?_)
    obtain ⟨rfl, rfl⟩ := hw
    refine lv_aload_n hx hb d_Pt_takesAway_211 rfl (lv_at hl 0 rfl) ?_
    refine va_get (D := D) (ci := 1) (v := .ref (ob 7)) (C := R_Pt) (T := F_Pt) (N := 5) hx hb hts (fun w h => List.mem_cons_of_mem _ (in_Pt w h)) hown hK hP 1 rfl rfl 3 (by decide) (hts _ (List.mem_cons_of_mem _ wd_137)) (fun _ h9 => h9) rfl d_Pt_takesAway_212 ?_
    refine lv_iload_n hx hb d_Pt_takesAway_215 rfl (lv_at hl 1 rfl) ?_
    obtain ⟨q_8, hq_8, hf⟩ := bd_some hf
    refine kc_i (va_runV (As := [.int x1]) (rest := [.int q_7.1, .int x2, .int x4, .ref (ob 1)]) ⟨hx, hb, hml, hown, hts⟩ (c_Rw_get l D cA cP ob ad 7 x1 (by decide) q_7.2 hq_8 H.size) ⟨callB_of 1 hts (gd_Rw_get) rfl rfl rfl (hts _ (List.mem_cons_of_mem _ wd_67)) (hts _ (List.mem_cons_of_mem _ wd_339)) dd_Rw_get ⟨Nat.le_of_ble_eq_true rfl, Nat.le_of_ble_eq_true rfl⟩, (hts _ (List.mem_cons_of_mem _ wd_340)), (hts _ (List.mem_cons_of_mem _ wd_341))⟩ (kpV hK hP hD hN hZ hS 6 7 rfl rfl) rfl rfl hl.1 rfl (lv_room (Nat.le_of_ble_eq_true rfl)) d_Pt_takesAway_216 ⟨Nat.le_of_ble_eq_true rfl, Nat.le_of_ble_eq_true rfl⟩) hP hD hS hA (fun r w H locs hw hP hD hS => ?_)
    obtain ⟨rfl, rfl⟩ := hw
    obtain ⟨q_9, hq_9, hf⟩ := bd_some hf
    refine kc_l (va_runV (As := [.int x4, .int x2, .int q_7.1, .int q_8.1]) (rest := []) ⟨hx, hb, hml, hown, hts⟩ (c_Pt_turn l D cA cP ob ad x4 x2 q_7.1 q_8.1  q_8.2 hq_9 H.size) ⟨callB_of 4 hts (gd_Pt_turn) rfl rfl rfl (hts _ (List.mem_cons_of_mem _ wd_65)) (hts _ (List.mem_cons_of_mem _ wd_632)) dd_Pt_turn ⟨Nat.le_of_ble_eq_true rfl, Nat.le_of_ble_eq_true rfl⟩, (hts _ (List.mem_cons_of_mem _ wd_409)), (hts _ (List.mem_cons_of_mem _ wd_410))⟩ (kpV hK hP hD hN hZ hS 1 1 rfl rfl) rfl rfl hl.1 rfl (lv_room (Nat.le_of_ble_eq_true rfl)) d_Pt_takesAway_219 ⟨Nat.le_of_ble_eq_true rfl, Nat.le_of_ble_eq_true rfl⟩) hP hD hS hA (fun r w H locs hw hP hD hS => ?_)
    obtain ⟨rfl, rfl⟩ := hw
    refine lv_lconst (v := 0) hx hb d_Pt_takesAway_222 (by decide) ?_
    refine W.lcmp hx hb d_Pt_takesAway_223 ?_
    refine lv_if_ge (tgt := 231) hx hb d_Pt_takesAway_224 (by decide) (fun c_10 => ?_) (fun c_10 => ?_)
    · rw [if_pos c_10] at hf
      refine lv_iconst (v := 0) hx hb d_Pt_takesAway_231 (by decide) ?_
      refine lv_goto (tgt := 267) hx hb d_Pt_takesAway_232 (by decide) ?_
      cases hf
      exact hret _ _ _ _ _ _ ⟨rfl, rfl⟩ rfl hP hD hS d_Pt_takesAway_267
    · rw [if_neg c_10] at hf
      refine lv_iconst (v := 1) hx hb d_Pt_takesAway_227 (by decide) ?_
      refine lv_goto (tgt := 267) hx hb d_Pt_takesAway_228 (by decide) ?_
      cases hf
      exact hret _ _ _ _ _ _ ⟨rfl, rfl⟩ rfl hP hD hS d_Pt_takesAway_267
def f_Pt_takesAway_136   (x1 : Int32) (x2 : Int32) (x3 : Int32) (x4 : Int32) (S : St) : Option (Int32 × St) :=
  bd (f_Pt_isLess x2 x3 S) (fun q_1 => (if q_1.1 = 0 then
    f_Pt_takesAway_189   x1 x2 x3 x4 q_1.2
    else
    bd (f_Pt_isLess x2 x4 q_1.2) (fun q_3 => (if q_3.1 = 0 then
      f_Pt_takesAway_189   x1 x2 x3 x4 q_3.2
      else
      bd (f_Rw_get 6 x1 q_3.2) (fun q_5 => bd (f_Rw_get 7 x1 q_5.2) (fun q_6 => bd (f_Pt_turn x3 x4 q_5.1 q_6.1 q_6.2) (fun q_7 => (if 0 ≤ (lg_cmp q_7.1 0) then
        some (0, q_7.2)
        else
        some (1, q_7.2)))))))))
set_option maxHeartbeats 4000000 in
set_option maxRecDepth 100000 in
theorem w_Pt_takesAway_136 (C0 : CX p s m args c b_Pt_takesAway 6 R_Pt w_Pt_takesAway D clC cA cP A) {res : (Int32 × St)} (hret : RTz p l e rm_Pt_takesAway s m args below meth c Q D clC A b_Pt_takesAway 0 0 (fun r w => r = res.1 ∧ w = cw cA cP ob ad res.2))    : ∀ (x1 : Int32) (x2 : Int32) (x3 : Int32) (x4 : Int32) (S : St) (H : Heap) (locs : List Loc) (ls : Array Slot), va_P D clC (cw cA cP ob ad S) H → va_D A (cw cA cP ob ad S) → va_S A s.heap H locs → lv_has ls 6 [(0, .ref (ob 1)), (1, .int x1), (2, .int x2), (3, .int x3), (4, .int x4)] → f_Pt_takesAway_136   x1 x2 x3 x4 S = some res → W p l e rm_Pt_takesAway s m args below meth c H locs 0 0 Q (F0 m 136 ls []) := by
  obtain ⟨hx, hb, hml, hown, hts, hK, hA, hN, hZ⟩ := id C0
  intro x1 x2 x3 x4 S H locs ls hP hD hS hl hf
  rw [f_Pt_takesAway_136] at hf
  refine lv_aload_n hx hb d_Pt_takesAway_136 rfl (lv_at hl 0 rfl) ?_
  refine lv_iload_n hx hb d_Pt_takesAway_137 rfl (lv_at hl 2 rfl) ?_
  refine lv_iload_n hx hb d_Pt_takesAway_138 rfl (lv_at hl 3 rfl) ?_
  obtain ⟨q_1, hq_1, hf⟩ := bd_some hf
  refine kc_i (va_runV (As := [.int x2, .int x3]) (rest := []) ⟨hx, hb, hml, hown, hts⟩ (c_Pt_isLess l D cA cP ob ad x2 x3  S hq_1 H.size) ⟨callB_of 2 hts (gd_Pt_isLess) rfl rfl rfl (hts _ (List.mem_cons_of_mem _ wd_65)) (hts _ (List.mem_cons_of_mem _ wd_343)) dd_Pt_isLess ⟨Nat.le_of_ble_eq_true rfl, Nat.le_of_ble_eq_true rfl⟩, (hts _ (List.mem_cons_of_mem _ wd_344)), (hts _ (List.mem_cons_of_mem _ wd_345))⟩ (kpV hK hP hD hN hZ hS 1 1 rfl rfl) rfl rfl hl.1 rfl (lv_room (Nat.le_of_ble_eq_true rfl)) d_Pt_takesAway_139 ⟨Nat.le_of_ble_eq_true rfl, Nat.le_of_ble_eq_true rfl⟩) hP hD hS hA (fun r w H locs hw hP hD hS => ?_)
  obtain ⟨rfl, rfl⟩ := hw
  refine lv_if_eq (tgt := 189) hx hb d_Pt_takesAway_142 (by decide) (fun c_2 => ?_) (fun c_2 => ?_)
  · rw [if_pos c_2] at hf
    exact w_Pt_takesAway_189 C0 hret    x1 x2 x3 x4 q_1.2 H locs ls hP hD hS (lv_sub hl [0, 1, 2, 3, 4] rfl) hf
  · rw [if_neg c_2] at hf
    refine lv_aload_n hx hb d_Pt_takesAway_145 rfl (lv_at hl 0 rfl) ?_
    refine lv_iload_n hx hb d_Pt_takesAway_146 rfl (lv_at hl 2 rfl) ?_
    refine lv_iload hx hb d_Pt_takesAway_147 (lv_at hl 4 rfl) ?_
    obtain ⟨q_3, hq_3, hf⟩ := bd_some hf
    refine kc_i (va_runV (As := [.int x2, .int x4]) (rest := []) ⟨hx, hb, hml, hown, hts⟩ (c_Pt_isLess l D cA cP ob ad x2 x4  q_1.2 hq_3 H.size) ⟨callB_of 2 hts (gd_Pt_isLess) rfl rfl rfl (hts _ (List.mem_cons_of_mem _ wd_65)) (hts _ (List.mem_cons_of_mem _ wd_343)) dd_Pt_isLess ⟨Nat.le_of_ble_eq_true rfl, Nat.le_of_ble_eq_true rfl⟩, (hts _ (List.mem_cons_of_mem _ wd_344)), (hts _ (List.mem_cons_of_mem _ wd_345))⟩ (kpV hK hP hD hN hZ hS 1 1 rfl rfl) rfl rfl hl.1 rfl (lv_room (Nat.le_of_ble_eq_true rfl)) d_Pt_takesAway_149 ⟨Nat.le_of_ble_eq_true rfl, Nat.le_of_ble_eq_true rfl⟩) hP hD hS hA (fun r w H locs hw hP hD hS => ?_)
    obtain ⟨rfl, rfl⟩ := hw
    refine lv_if_eq (tgt := 189) hx hb d_Pt_takesAway_152 (by decide) (fun c_4 => ?_) (fun c_4 => ?_)
    · rw [if_pos c_4] at hf
      exact w_Pt_takesAway_189 C0 hret    x1 x2 x3 x4 q_3.2 H locs ls hP hD hS (lv_sub hl [0, 1, 2, 3, 4] rfl) hf
    · rw [if_neg c_4] at hf
      refine lv_aload_n hx hb d_Pt_takesAway_155 rfl (lv_at hl 0 rfl) ?_
      refine lv_iload_n hx hb d_Pt_takesAway_156 rfl (lv_at hl 3 rfl) ?_
      refine lv_iload hx hb d_Pt_takesAway_157 (lv_at hl 4 rfl) ?_
      refine lv_aload_n hx hb d_Pt_takesAway_159 rfl (lv_at hl 0 rfl) ?_
      refine va_get (D := D) (ci := 1) (v := .ref (ob 6)) (C := R_Pt) (T := F_Pt) (N := 5) hx hb hts (fun w h => List.mem_cons_of_mem _ (in_Pt w h)) hown hK hP 1 rfl rfl 2 (by decide) (hts _ (List.mem_cons_of_mem _ wd_136)) (fun _ h9 => h9) rfl d_Pt_takesAway_160 ?_
      refine lv_iload_n hx hb d_Pt_takesAway_163 rfl (lv_at hl 1 rfl) ?_
      obtain ⟨q_5, hq_5, hf⟩ := bd_some hf
      refine kc_i (va_runV (As := [.int x1]) (rest := [.int x4, .int x3, .ref (ob 1)]) ⟨hx, hb, hml, hown, hts⟩ (c_Rw_get l D cA cP ob ad 6 x1 (by decide) q_3.2 hq_5 H.size) ⟨callB_of 1 hts (gd_Rw_get) rfl rfl rfl (hts _ (List.mem_cons_of_mem _ wd_67)) (hts _ (List.mem_cons_of_mem _ wd_339)) dd_Rw_get ⟨Nat.le_of_ble_eq_true rfl, Nat.le_of_ble_eq_true rfl⟩, (hts _ (List.mem_cons_of_mem _ wd_340)), (hts _ (List.mem_cons_of_mem _ wd_341))⟩ (kpV hK hP hD hN hZ hS 6 6 rfl rfl) rfl rfl hl.1 rfl (lv_room (Nat.le_of_ble_eq_true rfl)) d_Pt_takesAway_164 ⟨Nat.le_of_ble_eq_true rfl, Nat.le_of_ble_eq_true rfl⟩) hP hD hS hA (fun r w H locs hw hP hD hS => ?_)
      obtain ⟨rfl, rfl⟩ := hw
      refine lv_aload_n hx hb d_Pt_takesAway_167 rfl (lv_at hl 0 rfl) ?_
      refine va_get (D := D) (ci := 1) (v := .ref (ob 7)) (C := R_Pt) (T := F_Pt) (N := 5) hx hb hts (fun w h => List.mem_cons_of_mem _ (in_Pt w h)) hown hK hP 1 rfl rfl 3 (by decide) (hts _ (List.mem_cons_of_mem _ wd_137)) (fun _ h9 => h9) rfl d_Pt_takesAway_168 ?_
      refine lv_iload_n hx hb d_Pt_takesAway_171 rfl (lv_at hl 1 rfl) ?_
      obtain ⟨q_6, hq_6, hf⟩ := bd_some hf
      refine kc_i (va_runV (As := [.int x1]) (rest := [.int q_5.1, .int x4, .int x3, .ref (ob 1)]) ⟨hx, hb, hml, hown, hts⟩ (c_Rw_get l D cA cP ob ad 7 x1 (by decide) q_5.2 hq_6 H.size) ⟨callB_of 1 hts (gd_Rw_get) rfl rfl rfl (hts _ (List.mem_cons_of_mem _ wd_67)) (hts _ (List.mem_cons_of_mem _ wd_339)) dd_Rw_get ⟨Nat.le_of_ble_eq_true rfl, Nat.le_of_ble_eq_true rfl⟩, (hts _ (List.mem_cons_of_mem _ wd_340)), (hts _ (List.mem_cons_of_mem _ wd_341))⟩ (kpV hK hP hD hN hZ hS 6 7 rfl rfl) rfl rfl hl.1 rfl (lv_room (Nat.le_of_ble_eq_true rfl)) d_Pt_takesAway_172 ⟨Nat.le_of_ble_eq_true rfl, Nat.le_of_ble_eq_true rfl⟩) hP hD hS hA (fun r w H locs hw hP hD hS => ?_)
      obtain ⟨rfl, rfl⟩ := hw
      obtain ⟨q_7, hq_7, hf⟩ := bd_some hf
      refine kc_l (va_runV (As := [.int x3, .int x4, .int q_5.1, .int q_6.1]) (rest := []) ⟨hx, hb, hml, hown, hts⟩ (c_Pt_turn l D cA cP ob ad x3 x4 q_5.1 q_6.1  q_6.2 hq_7 H.size) ⟨callB_of 4 hts (gd_Pt_turn) rfl rfl rfl (hts _ (List.mem_cons_of_mem _ wd_65)) (hts _ (List.mem_cons_of_mem _ wd_632)) dd_Pt_turn ⟨Nat.le_of_ble_eq_true rfl, Nat.le_of_ble_eq_true rfl⟩, (hts _ (List.mem_cons_of_mem _ wd_409)), (hts _ (List.mem_cons_of_mem _ wd_410))⟩ (kpV hK hP hD hN hZ hS 1 1 rfl rfl) rfl rfl hl.1 rfl (lv_room (Nat.le_of_ble_eq_true rfl)) d_Pt_takesAway_175 ⟨Nat.le_of_ble_eq_true rfl, Nat.le_of_ble_eq_true rfl⟩) hP hD hS hA (fun r w H locs hw hP hD hS => ?_)
      obtain ⟨rfl, rfl⟩ := hw
      refine lv_lconst (v := 0) hx hb d_Pt_takesAway_178 (by decide) ?_
      refine W.lcmp hx hb d_Pt_takesAway_179 ?_
      refine lv_if_ge (tgt := 187) hx hb d_Pt_takesAway_180 (by decide) (fun c_8 => ?_) (fun c_8 => ?_)
      · rw [if_pos c_8] at hf
        refine lv_iconst (v := 0) hx hb d_Pt_takesAway_187 (by decide) ?_
        cases hf
        exact hret _ _ _ _ _ _ ⟨rfl, rfl⟩ rfl hP hD hS d_Pt_takesAway_188
      · rw [if_neg c_8] at hf
        refine lv_iconst (v := 1) hx hb d_Pt_takesAway_183 (by decide) ?_
        refine lv_goto (tgt := 188) hx hb d_Pt_takesAway_184 (by decide) ?_
        cases hf
        exact hret _ _ _ _ _ _ ⟨rfl, rfl⟩ rfl hP hD hS d_Pt_takesAway_188
def f_Pt_takesAway_0   (x1 : Int32) (x2 : Int32) (x3 : Int32) (x4 : Int32) (S : St) : Option (Int32 × St) :=
  bd (f_Wd_reset  S) (fun q_1 => bd (f_Rw_get 6 x3 q_1) (fun q_2 => bd (f_Rw_get 7 x3 q_2.2) (fun q_3 => bd (f_Pt_turn x4 x2 q_2.1 q_3.1 q_3.2) (fun q_4 => bd (f_Pt_dot x1 x2 x3 q_4.2) (fun q_5 => bd (f_Wd_addProduct q_4.1 q_5.1 q_5.2) (fun q_6 => bd (f_Rw_get 6 x2 q_6) (fun q_7 => bd (f_Rw_get 7 x2 q_7.2) (fun q_8 => bd (f_Pt_turn x1 x3 q_7.1 q_8.1 q_8.2) (fun q_9 => bd (f_Pt_dot x4 x2 x3 q_9.2) (fun q_10 => bd (f_Wd_addProduct q_9.1 q_10.1 q_10.2) (fun q_11 => bd (f_Wd_sign  q_11) (fun q_12 => (if q_12.1 = 0 then
    bd (f_Pt_isLess x1 x2 q_12.2) (fun q_14 => (if q_14.1 = 0 then
      f_Pt_takesAway_136   x1 x2 x3 x4 q_14.2
      else
      bd (f_Pt_isLess x1 x3 q_14.2) (fun q_16 => (if q_16.1 = 0 then
        f_Pt_takesAway_136   x1 x2 x3 x4 q_16.2
        else
        bd (f_Pt_isLess x1 x4 q_16.2) (fun q_18 => (if q_18.1 = 0 then
          f_Pt_takesAway_136   x1 x2 x3 x4 q_18.2
          else
          some (1, q_18.2)))))))
    else
    (if 0 ≤ q_12.1 then
      some (0, q_12.2)
      else
      some (1, q_12.2)))))))))))))))
set_option maxHeartbeats 4000000 in
set_option maxRecDepth 100000 in
theorem w_Pt_takesAway_0 (C0 : CX p s m args c b_Pt_takesAway 6 R_Pt w_Pt_takesAway D clC cA cP A) {res : (Int32 × St)} (hret : RTz p l e rm_Pt_takesAway s m args below meth c Q D clC A b_Pt_takesAway 0 0 (fun r w => r = res.1 ∧ w = cw cA cP ob ad res.2))    : ∀ (x1 : Int32) (x2 : Int32) (x3 : Int32) (x4 : Int32) (S : St) (H : Heap) (locs : List Loc) (ls : Array Slot), va_P D clC (cw cA cP ob ad S) H → va_D A (cw cA cP ob ad S) → va_S A s.heap H locs → lv_has ls 6 [(0, .ref (ob 1)), (1, .int x1), (2, .int x2), (3, .int x3), (4, .int x4)] → f_Pt_takesAway_0   x1 x2 x3 x4 S = some res → W p l e rm_Pt_takesAway s m args below meth c H locs 0 0 Q (F0 m 0 ls []) := by
  obtain ⟨hx, hb, hml, hown, hts, hK, hA, hN, hZ⟩ := id C0
  intro x1 x2 x3 x4 S H locs ls hP hD hS hl hf
  rw [f_Pt_takesAway_0] at hf
  refine lv_aload_n hx hb d_Pt_takesAway_0 rfl (lv_at hl 0 rfl) ?_
  refine va_get (D := D) (ci := 1) (v := .ref (ob 2)) (C := R_Pt) (T := F_Pt) (N := 5) hx hb hts (fun w h => List.mem_cons_of_mem _ (in_Pt w h)) hown hK hP 1 rfl rfl 4 (by decide) (hts _ (List.mem_cons_of_mem _ wd_138)) (fun _ h9 => h9) rfl d_Pt_takesAway_1 ?_
  obtain ⟨q_1, hq_1, hf⟩ := bd_some hf
  refine kc_v (va_runV (As := []) (rest := []) ⟨hx, hb, hml, hown, hts⟩ (c_Wd_reset l D cA cP ob ad   S hq_1 H.size) ⟨callB_of 0 hts (gd_Wd_reset) rfl rfl rfl (hts _ (List.mem_cons_of_mem _ wd_68)) (hts _ (List.mem_cons_of_mem _ wd_628)) dd_Wd_reset ⟨Nat.le_of_ble_eq_true rfl, Nat.le_of_ble_eq_true rfl⟩, (hts _ (List.mem_cons_of_mem _ wd_629)), (hts _ (List.mem_cons_of_mem _ wd_630))⟩ (kpV hK hP hD hN hZ hS 2 2 rfl rfl) rfl rfl hl.1 rfl (lv_room (Nat.le_of_ble_eq_true rfl)) d_Pt_takesAway_4 ⟨Nat.le_of_ble_eq_true rfl, Nat.le_of_ble_eq_true rfl⟩) hP hD hS hA (fun w H locs hw hP hD hS => ?_)
  obtain rfl := hw
  refine lv_aload_n hx hb d_Pt_takesAway_7 rfl (lv_at hl 0 rfl) ?_
  refine va_get (D := D) (ci := 1) (v := .ref (ob 2)) (C := R_Pt) (T := F_Pt) (N := 5) hx hb hts (fun w h => List.mem_cons_of_mem _ (in_Pt w h)) hown hK hP 1 rfl rfl 4 (by decide) (hts _ (List.mem_cons_of_mem _ wd_138)) (fun _ h9 => h9) rfl d_Pt_takesAway_8 ?_
  refine lv_aload_n hx hb d_Pt_takesAway_11 rfl (lv_at hl 0 rfl) ?_
  refine lv_iload hx hb d_Pt_takesAway_12 (lv_at hl 4 rfl) ?_
  refine lv_iload_n hx hb d_Pt_takesAway_14 rfl (lv_at hl 2 rfl) ?_
  refine lv_aload_n hx hb d_Pt_takesAway_15 rfl (lv_at hl 0 rfl) ?_
  refine va_get (D := D) (ci := 1) (v := .ref (ob 6)) (C := R_Pt) (T := F_Pt) (N := 5) hx hb hts (fun w h => List.mem_cons_of_mem _ (in_Pt w h)) hown hK hP 1 rfl rfl 2 (by decide) (hts _ (List.mem_cons_of_mem _ wd_136)) (fun _ h9 => h9) rfl d_Pt_takesAway_16 ?_
  refine lv_iload_n hx hb d_Pt_takesAway_19 rfl (lv_at hl 3 rfl) ?_
  obtain ⟨q_2, hq_2, hf⟩ := bd_some hf
  refine kc_i (va_runV (As := [.int x3]) (rest := [.int x2, .int x4, .ref (ob 1), .ref (ob 2)]) ⟨hx, hb, hml, hown, hts⟩ (c_Rw_get l D cA cP ob ad 6 x3 (by decide) q_1 hq_2 H.size) ⟨callB_of 1 hts (gd_Rw_get) rfl rfl rfl (hts _ (List.mem_cons_of_mem _ wd_67)) (hts _ (List.mem_cons_of_mem _ wd_339)) dd_Rw_get ⟨Nat.le_of_ble_eq_true rfl, Nat.le_of_ble_eq_true rfl⟩, (hts _ (List.mem_cons_of_mem _ wd_340)), (hts _ (List.mem_cons_of_mem _ wd_341))⟩ (kpV hK hP hD hN hZ hS 6 6 rfl rfl) rfl rfl hl.1 rfl (lv_room (Nat.le_of_ble_eq_true rfl)) d_Pt_takesAway_20 ⟨Nat.le_of_ble_eq_true rfl, Nat.le_of_ble_eq_true rfl⟩) hP hD hS hA (fun r w H locs hw hP hD hS => ?_)
  obtain ⟨rfl, rfl⟩ := hw
  refine lv_aload_n hx hb d_Pt_takesAway_23 rfl (lv_at hl 0 rfl) ?_
  refine va_get (D := D) (ci := 1) (v := .ref (ob 7)) (C := R_Pt) (T := F_Pt) (N := 5) hx hb hts (fun w h => List.mem_cons_of_mem _ (in_Pt w h)) hown hK hP 1 rfl rfl 3 (by decide) (hts _ (List.mem_cons_of_mem _ wd_137)) (fun _ h9 => h9) rfl d_Pt_takesAway_24 ?_
  refine lv_iload_n hx hb d_Pt_takesAway_27 rfl (lv_at hl 3 rfl) ?_
  obtain ⟨q_3, hq_3, hf⟩ := bd_some hf
  refine kc_i (va_runV (As := [.int x3]) (rest := [.int q_2.1, .int x2, .int x4, .ref (ob 1), .ref (ob 2)]) ⟨hx, hb, hml, hown, hts⟩ (c_Rw_get l D cA cP ob ad 7 x3 (by decide) q_2.2 hq_3 H.size) ⟨callB_of 1 hts (gd_Rw_get) rfl rfl rfl (hts _ (List.mem_cons_of_mem _ wd_67)) (hts _ (List.mem_cons_of_mem _ wd_339)) dd_Rw_get ⟨Nat.le_of_ble_eq_true rfl, Nat.le_of_ble_eq_true rfl⟩, (hts _ (List.mem_cons_of_mem _ wd_340)), (hts _ (List.mem_cons_of_mem _ wd_341))⟩ (kpV hK hP hD hN hZ hS 6 7 rfl rfl) rfl rfl hl.1 rfl (lv_room (Nat.le_of_ble_eq_true rfl)) d_Pt_takesAway_28 ⟨Nat.le_of_ble_eq_true rfl, Nat.le_of_ble_eq_true rfl⟩) hP hD hS hA (fun r w H locs hw hP hD hS => ?_)
  obtain ⟨rfl, rfl⟩ := hw
  obtain ⟨q_4, hq_4, hf⟩ := bd_some hf
  refine kc_l (va_runV (As := [.int x4, .int x2, .int q_2.1, .int q_3.1]) (rest := [.ref (ob 2)]) ⟨hx, hb, hml, hown, hts⟩ (c_Pt_turn l D cA cP ob ad x4 x2 q_2.1 q_3.1  q_3.2 hq_4 H.size) ⟨callB_of 4 hts (gd_Pt_turn) rfl rfl rfl (hts _ (List.mem_cons_of_mem _ wd_65)) (hts _ (List.mem_cons_of_mem _ wd_632)) dd_Pt_turn ⟨Nat.le_of_ble_eq_true rfl, Nat.le_of_ble_eq_true rfl⟩, (hts _ (List.mem_cons_of_mem _ wd_409)), (hts _ (List.mem_cons_of_mem _ wd_410))⟩ (kpV hK hP hD hN hZ hS 1 1 rfl rfl) rfl rfl hl.1 rfl (lv_room (Nat.le_of_ble_eq_true rfl)) d_Pt_takesAway_31 ⟨Nat.le_of_ble_eq_true rfl, Nat.le_of_ble_eq_true rfl⟩) hP hD hS hA (fun r w H locs hw hP hD hS => ?_)
  obtain ⟨rfl, rfl⟩ := hw
  refine lv_aload_n hx hb d_Pt_takesAway_34 rfl (lv_at hl 0 rfl) ?_
  refine lv_iload_n hx hb d_Pt_takesAway_35 rfl (lv_at hl 1 rfl) ?_
  refine lv_iload_n hx hb d_Pt_takesAway_36 rfl (lv_at hl 2 rfl) ?_
  refine lv_iload_n hx hb d_Pt_takesAway_37 rfl (lv_at hl 3 rfl) ?_
  obtain ⟨q_5, hq_5, hf⟩ := bd_some hf
  refine kc_l (va_runV (As := [.int x1, .int x2, .int x3]) (rest := [.long q_4.1, .ref (ob 2)]) ⟨hx, hb, hml, hown, hts⟩ (c_Pt_dot l D cA cP ob ad x1 x2 x3  q_4.2 hq_5 H.size) ⟨callB_of 3 hts (gd_Pt_dot) rfl rfl rfl (hts _ (List.mem_cons_of_mem _ wd_65)) (hts _ (List.mem_cons_of_mem _ wd_633)) dd_Pt_dot ⟨Nat.le_of_ble_eq_true rfl, Nat.le_of_ble_eq_true rfl⟩, (hts _ (List.mem_cons_of_mem _ wd_635)), (hts _ (List.mem_cons_of_mem _ wd_22))⟩ (kpV hK hP hD hN hZ hS 1 1 rfl rfl) rfl rfl hl.1 rfl (lv_room (Nat.le_of_ble_eq_true rfl)) d_Pt_takesAway_38 ⟨Nat.le_of_ble_eq_true rfl, Nat.le_of_ble_eq_true rfl⟩) hP hD hS hA (fun r w H locs hw hP hD hS => ?_)
  obtain ⟨rfl, rfl⟩ := hw
  obtain ⟨q_6, hq_6, hf⟩ := bd_some hf
  refine kc_v (va_runV (As := [.long q_4.1, .long q_5.1]) (rest := []) ⟨hx, hb, hml, hown, hts⟩ (c_Wd_addProduct l D cA cP ob ad q_4.1 q_5.1  q_5.2 hq_6 H.size) ⟨callB_of 2 hts (gd_Wd_addProduct) rfl rfl rfl (hts _ (List.mem_cons_of_mem _ wd_68)) (hts _ (List.mem_cons_of_mem _ wd_637)) dd_Wd_addProduct ⟨Nat.le_of_ble_eq_true rfl, Nat.le_of_ble_eq_true rfl⟩, (hts _ (List.mem_cons_of_mem _ wd_638)), (hts _ (List.mem_cons_of_mem _ wd_639))⟩ (kpV hK hP hD hN hZ hS 2 2 rfl rfl) rfl rfl hl.1 rfl (lv_room (Nat.le_of_ble_eq_true rfl)) d_Pt_takesAway_41 ⟨Nat.le_of_ble_eq_true rfl, Nat.le_of_ble_eq_true rfl⟩) hP hD hS hA (fun w H locs hw hP hD hS => ?_)
  obtain rfl := hw
  refine lv_aload_n hx hb d_Pt_takesAway_44 rfl (lv_at hl 0 rfl) ?_
  refine va_get (D := D) (ci := 1) (v := .ref (ob 2)) (C := R_Pt) (T := F_Pt) (N := 5) hx hb hts (fun w h => List.mem_cons_of_mem _ (in_Pt w h)) hown hK hP 1 rfl rfl 4 (by decide) (hts _ (List.mem_cons_of_mem _ wd_138)) (fun _ h9 => h9) rfl d_Pt_takesAway_45 ?_
  refine lv_aload_n hx hb d_Pt_takesAway_48 rfl (lv_at hl 0 rfl) ?_
  refine lv_iload_n hx hb d_Pt_takesAway_49 rfl (lv_at hl 1 rfl) ?_
  refine lv_iload_n hx hb d_Pt_takesAway_50 rfl (lv_at hl 3 rfl) ?_
  refine lv_aload_n hx hb d_Pt_takesAway_51 rfl (lv_at hl 0 rfl) ?_
  refine va_get (D := D) (ci := 1) (v := .ref (ob 6)) (C := R_Pt) (T := F_Pt) (N := 5) hx hb hts (fun w h => List.mem_cons_of_mem _ (in_Pt w h)) hown hK hP 1 rfl rfl 2 (by decide) (hts _ (List.mem_cons_of_mem _ wd_136)) (fun _ h9 => h9) rfl d_Pt_takesAway_52 ?_
  refine lv_iload_n hx hb d_Pt_takesAway_55 rfl (lv_at hl 2 rfl) ?_
  obtain ⟨q_7, hq_7, hf⟩ := bd_some hf
  refine kc_i (va_runV (As := [.int x2]) (rest := [.int x3, .int x1, .ref (ob 1), .ref (ob 2)]) ⟨hx, hb, hml, hown, hts⟩ (c_Rw_get l D cA cP ob ad 6 x2 (by decide) q_6 hq_7 H.size) ⟨callB_of 1 hts (gd_Rw_get) rfl rfl rfl (hts _ (List.mem_cons_of_mem _ wd_67)) (hts _ (List.mem_cons_of_mem _ wd_339)) dd_Rw_get ⟨Nat.le_of_ble_eq_true rfl, Nat.le_of_ble_eq_true rfl⟩, (hts _ (List.mem_cons_of_mem _ wd_340)), (hts _ (List.mem_cons_of_mem _ wd_341))⟩ (kpV hK hP hD hN hZ hS 6 6 rfl rfl) rfl rfl hl.1 rfl (lv_room (Nat.le_of_ble_eq_true rfl)) d_Pt_takesAway_56 ⟨Nat.le_of_ble_eq_true rfl, Nat.le_of_ble_eq_true rfl⟩) hP hD hS hA (fun r w H locs hw hP hD hS => ?_)
  obtain ⟨rfl, rfl⟩ := hw
  refine lv_aload_n hx hb d_Pt_takesAway_59 rfl (lv_at hl 0 rfl) ?_
  refine va_get (D := D) (ci := 1) (v := .ref (ob 7)) (C := R_Pt) (T := F_Pt) (N := 5) hx hb hts (fun w h => List.mem_cons_of_mem _ (in_Pt w h)) hown hK hP 1 rfl rfl 3 (by decide) (hts _ (List.mem_cons_of_mem _ wd_137)) (fun _ h9 => h9) rfl d_Pt_takesAway_60 ?_
  refine lv_iload_n hx hb d_Pt_takesAway_63 rfl (lv_at hl 2 rfl) ?_
  obtain ⟨q_8, hq_8, hf⟩ := bd_some hf
  refine kc_i (va_runV (As := [.int x2]) (rest := [.int q_7.1, .int x3, .int x1, .ref (ob 1), .ref (ob 2)]) ⟨hx, hb, hml, hown, hts⟩ (c_Rw_get l D cA cP ob ad 7 x2 (by decide) q_7.2 hq_8 H.size) ⟨callB_of 1 hts (gd_Rw_get) rfl rfl rfl (hts _ (List.mem_cons_of_mem _ wd_67)) (hts _ (List.mem_cons_of_mem _ wd_339)) dd_Rw_get ⟨Nat.le_of_ble_eq_true rfl, Nat.le_of_ble_eq_true rfl⟩, (hts _ (List.mem_cons_of_mem _ wd_340)), (hts _ (List.mem_cons_of_mem _ wd_341))⟩ (kpV hK hP hD hN hZ hS 6 7 rfl rfl) rfl rfl hl.1 rfl (lv_room (Nat.le_of_ble_eq_true rfl)) d_Pt_takesAway_64 ⟨Nat.le_of_ble_eq_true rfl, Nat.le_of_ble_eq_true rfl⟩) hP hD hS hA (fun r w H locs hw hP hD hS => ?_)
  obtain ⟨rfl, rfl⟩ := hw
  obtain ⟨q_9, hq_9, hf⟩ := bd_some hf
  refine kc_l (va_runV (As := [.int x1, .int x3, .int q_7.1, .int q_8.1]) (rest := [.ref (ob 2)]) ⟨hx, hb, hml, hown, hts⟩ (c_Pt_turn l D cA cP ob ad x1 x3 q_7.1 q_8.1  q_8.2 hq_9 H.size) ⟨callB_of 4 hts (gd_Pt_turn) rfl rfl rfl (hts _ (List.mem_cons_of_mem _ wd_65)) (hts _ (List.mem_cons_of_mem _ wd_632)) dd_Pt_turn ⟨Nat.le_of_ble_eq_true rfl, Nat.le_of_ble_eq_true rfl⟩, (hts _ (List.mem_cons_of_mem _ wd_409)), (hts _ (List.mem_cons_of_mem _ wd_410))⟩ (kpV hK hP hD hN hZ hS 1 1 rfl rfl) rfl rfl hl.1 rfl (lv_room (Nat.le_of_ble_eq_true rfl)) d_Pt_takesAway_67 ⟨Nat.le_of_ble_eq_true rfl, Nat.le_of_ble_eq_true rfl⟩) hP hD hS hA (fun r w H locs hw hP hD hS => ?_)
  obtain ⟨rfl, rfl⟩ := hw
  refine lv_aload_n hx hb d_Pt_takesAway_70 rfl (lv_at hl 0 rfl) ?_
  refine lv_iload hx hb d_Pt_takesAway_71 (lv_at hl 4 rfl) ?_
  refine lv_iload_n hx hb d_Pt_takesAway_73 rfl (lv_at hl 2 rfl) ?_
  refine lv_iload_n hx hb d_Pt_takesAway_74 rfl (lv_at hl 3 rfl) ?_
  obtain ⟨q_10, hq_10, hf⟩ := bd_some hf
  refine kc_l (va_runV (As := [.int x4, .int x2, .int x3]) (rest := [.long q_9.1, .ref (ob 2)]) ⟨hx, hb, hml, hown, hts⟩ (c_Pt_dot l D cA cP ob ad x4 x2 x3  q_9.2 hq_10 H.size) ⟨callB_of 3 hts (gd_Pt_dot) rfl rfl rfl (hts _ (List.mem_cons_of_mem _ wd_65)) (hts _ (List.mem_cons_of_mem _ wd_633)) dd_Pt_dot ⟨Nat.le_of_ble_eq_true rfl, Nat.le_of_ble_eq_true rfl⟩, (hts _ (List.mem_cons_of_mem _ wd_635)), (hts _ (List.mem_cons_of_mem _ wd_22))⟩ (kpV hK hP hD hN hZ hS 1 1 rfl rfl) rfl rfl hl.1 rfl (lv_room (Nat.le_of_ble_eq_true rfl)) d_Pt_takesAway_75 ⟨Nat.le_of_ble_eq_true rfl, Nat.le_of_ble_eq_true rfl⟩) hP hD hS hA (fun r w H locs hw hP hD hS => ?_)
  obtain ⟨rfl, rfl⟩ := hw
  obtain ⟨q_11, hq_11, hf⟩ := bd_some hf
  refine kc_v (va_runV (As := [.long q_9.1, .long q_10.1]) (rest := []) ⟨hx, hb, hml, hown, hts⟩ (c_Wd_addProduct l D cA cP ob ad q_9.1 q_10.1  q_10.2 hq_11 H.size) ⟨callB_of 2 hts (gd_Wd_addProduct) rfl rfl rfl (hts _ (List.mem_cons_of_mem _ wd_68)) (hts _ (List.mem_cons_of_mem _ wd_637)) dd_Wd_addProduct ⟨Nat.le_of_ble_eq_true rfl, Nat.le_of_ble_eq_true rfl⟩, (hts _ (List.mem_cons_of_mem _ wd_638)), (hts _ (List.mem_cons_of_mem _ wd_639))⟩ (kpV hK hP hD hN hZ hS 2 2 rfl rfl) rfl rfl hl.1 rfl (lv_room (Nat.le_of_ble_eq_true rfl)) d_Pt_takesAway_78 ⟨Nat.le_of_ble_eq_true rfl, Nat.le_of_ble_eq_true rfl⟩) hP hD hS hA (fun w H locs hw hP hD hS => ?_)
  obtain rfl := hw
  refine lv_aload_n hx hb d_Pt_takesAway_81 rfl (lv_at hl 0 rfl) ?_
  refine va_get (D := D) (ci := 1) (v := .ref (ob 2)) (C := R_Pt) (T := F_Pt) (N := 5) hx hb hts (fun w h => List.mem_cons_of_mem _ (in_Pt w h)) hown hK hP 1 rfl rfl 4 (by decide) (hts _ (List.mem_cons_of_mem _ wd_138)) (fun _ h9 => h9) rfl d_Pt_takesAway_82 ?_
  obtain ⟨q_12, hq_12, hf⟩ := bd_some hf
  refine kc_i (va_runV (As := []) (rest := []) ⟨hx, hb, hml, hown, hts⟩ (c_Wd_sign l D cA cP ob ad   q_11 hq_12 H.size) ⟨callB_of 0 hts (gd_Wd_sign) rfl rfl rfl (hts _ (List.mem_cons_of_mem _ wd_68)) (hts _ (List.mem_cons_of_mem _ wd_643)) dd_Wd_sign ⟨Nat.le_of_ble_eq_true rfl, Nat.le_of_ble_eq_true rfl⟩, (hts _ (List.mem_cons_of_mem _ wd_644)), (hts _ (List.mem_cons_of_mem _ wd_645))⟩ (kpV hK hP hD hN hZ hS 2 2 rfl rfl) rfl rfl hl.1 rfl (lv_room (Nat.le_of_ble_eq_true rfl)) d_Pt_takesAway_85 ⟨Nat.le_of_ble_eq_true rfl, Nat.le_of_ble_eq_true rfl⟩) hP hD hS hA (fun r w H locs hw hP hD hS => ?_)
  obtain ⟨rfl, rfl⟩ := hw
  refine lv_istore (lv' := [(5, .int q_12.1), (0, .ref (ob 1)), (1, .int x1), (2, .int x2), (3, .int x3), (4, .int x4)]) hx hb d_Pt_takesAway_88 hl (by decide) rfl (fun ls hl => ?_)
  refine lv_iload hx hb d_Pt_takesAway_90 (lv_at hl 0 rfl) ?_
  refine lv_if_eq (tgt := 106) hx hb d_Pt_takesAway_92 (by decide) (fun c_13 => ?_) (fun c_13 => ?_)
  · rw [if_pos c_13] at hf
    refine lv_aload_n hx hb d_Pt_takesAway_106 rfl (lv_at hl 1 rfl) ?_
    refine lv_iload_n hx hb d_Pt_takesAway_107 rfl (lv_at hl 2 rfl) ?_
    refine lv_iload_n hx hb d_Pt_takesAway_108 rfl (lv_at hl 3 rfl) ?_
    obtain ⟨q_14, hq_14, hf⟩ := bd_some hf
    refine kc_i (va_runV (As := [.int x1, .int x2]) (rest := []) ⟨hx, hb, hml, hown, hts⟩ (c_Pt_isLess l D cA cP ob ad x1 x2  q_12.2 hq_14 H.size) ⟨callB_of 2 hts (gd_Pt_isLess) rfl rfl rfl (hts _ (List.mem_cons_of_mem _ wd_65)) (hts _ (List.mem_cons_of_mem _ wd_343)) dd_Pt_isLess ⟨Nat.le_of_ble_eq_true rfl, Nat.le_of_ble_eq_true rfl⟩, (hts _ (List.mem_cons_of_mem _ wd_344)), (hts _ (List.mem_cons_of_mem _ wd_345))⟩ (kpV hK hP hD hN hZ hS 1 1 rfl rfl) rfl rfl hl.1 rfl (lv_room (Nat.le_of_ble_eq_true rfl)) d_Pt_takesAway_109 ⟨Nat.le_of_ble_eq_true rfl, Nat.le_of_ble_eq_true rfl⟩) hP hD hS hA (fun r w H locs hw hP hD hS => ?_)
    obtain ⟨rfl, rfl⟩ := hw
    refine lv_if_eq (tgt := 136) hx hb d_Pt_takesAway_112 (by decide) (fun c_15 => ?_) (fun c_15 => ?_)
    · rw [if_pos c_15] at hf
      exact w_Pt_takesAway_136 C0 hret    x1 x2 x3 x4 q_14.2 H locs ls hP hD hS (lv_sub hl [1, 2, 3, 4, 5] rfl) hf
    · rw [if_neg c_15] at hf
      refine lv_aload_n hx hb d_Pt_takesAway_115 rfl (lv_at hl 1 rfl) ?_
      refine lv_iload_n hx hb d_Pt_takesAway_116 rfl (lv_at hl 2 rfl) ?_
      refine lv_iload_n hx hb d_Pt_takesAway_117 rfl (lv_at hl 4 rfl) ?_
      obtain ⟨q_16, hq_16, hf⟩ := bd_some hf
      refine kc_i (va_runV (As := [.int x1, .int x3]) (rest := []) ⟨hx, hb, hml, hown, hts⟩ (c_Pt_isLess l D cA cP ob ad x1 x3  q_14.2 hq_16 H.size) ⟨callB_of 2 hts (gd_Pt_isLess) rfl rfl rfl (hts _ (List.mem_cons_of_mem _ wd_65)) (hts _ (List.mem_cons_of_mem _ wd_343)) dd_Pt_isLess ⟨Nat.le_of_ble_eq_true rfl, Nat.le_of_ble_eq_true rfl⟩, (hts _ (List.mem_cons_of_mem _ wd_344)), (hts _ (List.mem_cons_of_mem _ wd_345))⟩ (kpV hK hP hD hN hZ hS 1 1 rfl rfl) rfl rfl hl.1 rfl (lv_room (Nat.le_of_ble_eq_true rfl)) d_Pt_takesAway_118 ⟨Nat.le_of_ble_eq_true rfl, Nat.le_of_ble_eq_true rfl⟩) hP hD hS hA (fun r w H locs hw hP hD hS => ?_)
      obtain ⟨rfl, rfl⟩ := hw
      refine lv_if_eq (tgt := 136) hx hb d_Pt_takesAway_121 (by decide) (fun c_17 => ?_) (fun c_17 => ?_)
      · rw [if_pos c_17] at hf
        exact w_Pt_takesAway_136 C0 hret    x1 x2 x3 x4 q_16.2 H locs ls hP hD hS (lv_sub hl [1, 2, 3, 4, 5] rfl) hf
      · rw [if_neg c_17] at hf
        refine lv_aload_n hx hb d_Pt_takesAway_124 rfl (lv_at hl 1 rfl) ?_
        refine lv_iload_n hx hb d_Pt_takesAway_125 rfl (lv_at hl 2 rfl) ?_
        refine lv_iload hx hb d_Pt_takesAway_126 (lv_at hl 5 rfl) ?_
        obtain ⟨q_18, hq_18, hf⟩ := bd_some hf
        refine kc_i (va_runV (As := [.int x1, .int x4]) (rest := []) ⟨hx, hb, hml, hown, hts⟩ (c_Pt_isLess l D cA cP ob ad x1 x4  q_16.2 hq_18 H.size) ⟨callB_of 2 hts (gd_Pt_isLess) rfl rfl rfl (hts _ (List.mem_cons_of_mem _ wd_65)) (hts _ (List.mem_cons_of_mem _ wd_343)) dd_Pt_isLess ⟨Nat.le_of_ble_eq_true rfl, Nat.le_of_ble_eq_true rfl⟩, (hts _ (List.mem_cons_of_mem _ wd_344)), (hts _ (List.mem_cons_of_mem _ wd_345))⟩ (kpV hK hP hD hN hZ hS 1 1 rfl rfl) rfl rfl hl.1 rfl (lv_room (Nat.le_of_ble_eq_true rfl)) d_Pt_takesAway_128 ⟨Nat.le_of_ble_eq_true rfl, Nat.le_of_ble_eq_true rfl⟩) hP hD hS hA (fun r w H locs hw hP hD hS => ?_)
        obtain ⟨rfl, rfl⟩ := hw
        refine lv_if_eq (tgt := 136) hx hb d_Pt_takesAway_131 (by decide) (fun c_19 => ?_) (fun c_19 => ?_)
        · rw [if_pos c_19] at hf
          exact w_Pt_takesAway_136 C0 hret    x1 x2 x3 x4 q_18.2 H locs ls hP hD hS (lv_sub hl [1, 2, 3, 4, 5] rfl) hf
        · rw [if_neg c_19] at hf
          refine lv_iconst (v := 1) hx hb d_Pt_takesAway_134 (by decide) ?_
          cases hf
          exact hret _ _ _ _ _ _ ⟨rfl, rfl⟩ rfl hP hD hS d_Pt_takesAway_135
  · rw [if_neg c_13] at hf
    refine lv_iload hx hb d_Pt_takesAway_95 (lv_at hl 0 rfl) ?_
    refine lv_if_ge (tgt := 104) hx hb d_Pt_takesAway_97 (by decide) (fun c_20 => ?_) (fun c_20 => ?_)
    · rw [if_pos c_20] at hf
      refine lv_iconst (v := 0) hx hb d_Pt_takesAway_104 (by decide) ?_
      cases hf
      exact hret _ _ _ _ _ _ ⟨rfl, rfl⟩ rfl hP hD hS d_Pt_takesAway_105
    · rw [if_neg c_20] at hf
      refine lv_iconst (v := 1) hx hb d_Pt_takesAway_100 (by decide) ?_
      refine lv_goto (tgt := 105) hx hb d_Pt_takesAway_101 (by decide) ?_
      cases hf
      exact hret _ _ _ _ _ _ ⟨rfl, rfl⟩ rfl hP hD hS d_Pt_takesAway_105
def f_Pt_takesAway (x1 : Int32) (x2 : Int32) (x3 : Int32) (x4 : Int32) (S : St) : Option (Int32 × St) := f_Pt_takesAway_0  x1 x2 x3 x4 S
theorem c_Pt_takesAway (l : Launch) (D : va_G) (cA cP : ClassId) (ob : Nat → Nat) (ad : Nat → Nat → Nat) (x1 : Int32) (x2 : Int32) (x3 : Int32) (x4 : Int32)  (S : St) {res : (Int32 × St)} (hf : f_Pt_takesAway x1 x2 x3 x4 S = some res) : CTi l y_Pt_takesAway w_Pt_takesAway rm_Pt_takesAway 0 0 D clC (TY cA cP) [.ref (ob 1), .int x1, .int x2, .int x3, .int x4] (cw cA cP ob ad S) (fun r w => r = res.1 ∧ w = cw cA cP ob ad res.2) :=
  mk_z (cc := b_Pt_takesAway) (maxL := 6) (own := R_Pt) (by decide) rfl rfl (Nat.le_of_ble_eq_true rfl) (fun p e s m below meth c A Q C0 hret ls hl hP hD hS => w_Pt_takesAway_0 C0 hret   x1 x2 x3 x4 S _ _ ls hP hD hS (lv_sub hl [0, 1, 2, 3, 4] rfl) hf)
end
