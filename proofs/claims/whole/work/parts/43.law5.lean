set_option maxHeartbeats 4000000 in
set_option maxRecDepth 100000 in
theorem lc_add {p : Program} {l : Launch} {e : Env} {s : State} {m : MethodId} {below : List Frame} {meth : Method} {c : Code} {H : Heap} {locs : List Loc} {cells slots : Nat} {Q : State → Prop} {ls : Array Slot} {D : va_G} {cA cP cL : ClassId} {b L : Nat} {xs : Nat → Int32} {ob ob2 : Nat → Nat} {ad ad2 : Nat → Nat → Nat} {q n : Nat} {Sc Sc' Sm Sm' : St} {v v' : Nat → Int64} {k : Int32} {r : Int32} (hl0 : l.flags = pinnedFlags ++ [noTraceFlag]) (C0 : LC p s m c b L xs D cA cP cL) (hL : L ≤ 1537) (hn : 3 * n + 4 ≤ L) (e1 : h_add (xs (3 * n + 2)) (xs (3 * n + 3)) v Sc = some (k, v', Sc')) (e2 : f_Md_add (xs (3 * n + 2)) (xs (3 * n + 3)) Sm = some (r, Sm')) (e3 : f_Md_thrown Sm' = some (k, Sm')) (e4 : k = 0 → v' (Int32.toNatClampNeg 0) = Int32.toInt64 r) (hc : cells + 12 ≤ 601024) (hs : slots + 384 ≤ 7293000) (hP : va_P D clC (lw cA cP cL ob ad ob2 ad2 q Sc v Sm) H) (hD : va_D (va_A [] s.heap.size) (lw cA cP cL ob ad ob2 ad2 q Sc v Sm)) (hS : va_S (va_A [] s.heap.size) s.heap H locs) (hl : lv_has ls 8 [(0, .ref b), (1, .ref (ob 0)), (2, .ref (ob2 0)), (3, .ref q), (4, .int (nI (3 * n + 1)))])
    (kend : ∀ (ad : Nat → Nat → Nat) (H : Heap) (locs : List Loc) (ls : Array Slot), va_P D clC (lw cA cP cL ob ad ob2 ad2 q Sc' v' Sm') H → va_D (va_A [] s.heap.size) (lw cA cP cL ob ad ob2 ad2 q Sc' v' Sm') → va_S (va_A [] s.heap.size) s.heap H locs → lv_has ls 8 [(0, .ref b), (1, .ref (ob 0)), (2, .ref (ob2 0)), (3, .ref q), (4, .int (nI (3 * n + 1)))] → W p l e room_1 s m #[Value.ref b] below meth c H locs (cells + 12) (slots + 384) Q (F0 m 822 ls [])) :
    W p l e room_1 s m #[Value.ref b] below meth c H locs cells slots Q (F0 m 116 ls []) := by
  have hA : ∀ q : Nat, s.heap.size ≤ q → va_A [] s.heap.size q := fun q h => Or.inr h
  obtain ⟨hx, hb, hml, hown, hts, hK, hN, hZ, hNC, hX, hbl⟩ := id C0
  have hK2 : va_K D clC (TY cA cP) s := hK.sub [0, 1] rfl
  refine lv_aload_n hx hb d_law_116 rfl (lv_at hl 1 rfl) ?_
  refine lv_aload_n hx hb d_law_117 rfl (lv_at hl 0 rfl) ?_
  refine lv_iload hx hb d_law_118 (lv_at hl 4 rfl) ?_
  refine lv_iconst (v := 1) hx hb d_law_120 (by decide) ?_
  refine lv_iadd hx hb d_law_121 ?_
  refine lw_ld (j := 3 * n + 2) C0 hS (nI_1 _) (by omega) hL d_law_122 ?_
  refine lv_aload_n hx hb d_law_123 rfl (lv_at hl 0 rfl) ?_
  refine lv_iload hx hb d_law_124 (lv_at hl 4 rfl) ?_
  refine lv_iconst (v := 2) hx hb d_law_126 (by decide) ?_
  refine lv_iadd hx hb d_law_127 ?_
  refine lw_ld (j := 3 * n + 3) C0 hS (nI_2 _) (by omega) hL d_law_128 ?_
  refine lv_aload_n hx hb d_law_129 rfl (lv_at hl 3 rfl) ?_
  refine kg_i (w0 := cw cA cP ob ad Sc ++ [oc cL q v]) (runSW (hh := [(0, 10, 13, 13), (0, 10, 17, 15)]) (bytes := b_Lw_add) (maxL := 5) (ret := some .int) (As := [.ref (ob 0), .int (xs (3 * n + 2)), .int (xs (3 * n + 3)), .ref q]) (rest := []) ⟨hx, hb, hml, hown, hts⟩ (c_Lw_add l hl0 D cA cP cL ob ad q (xs (3 * n + 2)) (xs (3 * n + 3)) v Sc e1 H.size) rfl rfl (Nat.le_of_ble_eq_true rfl) (Nat.le_of_ble_eq_true rfl) gd_Lw_add List.mem_cons_self (hts _ (List.mem_cons_of_mem _ wd_63)) ⟨dd_Lw_add.1, dd_Lw_add.2.1⟩ dd_Lw_add.2.2 (hts _ (List.mem_cons_of_mem _ wd_415)) (hts _ (List.mem_cons_of_mem _ wd_416)) (kpH hK (P_front hP) (D_front hD) hN hZ hS hNC) rfl rfl hl.1 rfl (lv_room (Nat.le_of_ble_eq_true rfl)) d_law_130 ⟨by show _ ≤ 601024; omega, by show _ ≤ 7293000; omega⟩) hP hD hS hA (fun r0 w H locs hw hP hD hS => ?_)
  obtain ⟨hr0, ad3, rfl⟩ := hw
  replace hr0 : k = r0 := hr0.symm
  subst hr0
  refine W.widen (k := cells + 12) (n := slots + 384) (by omega) (by omega) ?_
  refine lv_istore (lv' := [(5, .int k), (0, .ref b), (1, .ref (ob 0)), (2, .ref (ob2 0)), (3, .ref q), (4, .int (nI (3 * n + 1)))]) hx hb d_law_133 hl (by decide) rfl (fun ls hl => ?_)
  refine lv_aload_n hx hb d_law_135 rfl (lv_at hl 3 rfl) ?_
  refine lv_aload_n hx hb d_law_136 rfl (lv_at hl 1 rfl) ?_
  refine lv_iload hx hb d_law_137 (lv_at hl 5 rfl) ?_
  refine lv_iconst (v := 1) hx hb d_law_139 (by decide) ?_
  refine lv_iadd hx hb d_law_140 ?_
  refine lw_ld (j := 3 * n + 2) C0 hS (nI_1 _) (by omega) hL d_law_141 ?_
  refine lv_aload_n hx hb d_law_142 rfl (lv_at hl 1 rfl) ?_
  refine lv_iload hx hb d_law_143 (lv_at hl 5 rfl) ?_
  refine lv_iconst (v := 2) hx hb d_law_145 (by decide) ?_
  refine lv_iadd hx hb d_law_146 ?_
  refine lw_ld (j := 3 * n + 3) C0 hS (nI_2 _) (by omega) hL d_law_147 ?_
  have hP := P_perm List.perm_append_comm hP
  have hD := D_perm List.perm_append_comm hD
  refine kg_i (w0 := mw cA cP ob2 ad2 Sm) (va_runV (As := [.int (xs (3 * n + 2)), .int (xs (3 * n + 3))]) (rest := []) ⟨hx, hb, hml, hown, hts⟩ (c_Md_add l D cA cP ob2 ad2 (xs (3 * n + 2)) (xs (3 * n + 3)) Sm e2 H.size) ⟨callB_of 2 hts (gd_Md_add) rfl rfl rfl (hts _ (List.mem_cons_of_mem _ wd_72)) (hts _ (List.mem_cons_of_mem _ wd_905)) dd_Md_add ⟨(Nat.le_of_ble_eq_true rfl), (Nat.le_of_ble_eq_true rfl)⟩, (hts _ (List.mem_cons_of_mem _ wd_906)), (hts _ (List.mem_cons_of_mem _ wd_907))⟩ (kpV hK2 (P_front hP) (D_front hD) hN hZ hS 7 0 rfl rfl) rfl rfl hl.1 rfl (lv_room (Nat.le_of_ble_eq_true rfl)) d_law_148 ⟨by show _ ≤ 601024; omega, by show _ ≤ 7293000; omega⟩) hP hD hS hA (fun r0 w H locs hw hP hD hS => ?_)
  obtain ⟨hr0, rfl⟩ := hw
  replace hr0 : r = r0 := hr0.symm
  subst hr0
  have hP := P_perm List.perm_append_comm hP
  have hD := D_perm List.perm_append_comm hD
  refine lv_istore (lv' := [(6, .int r), (5, .int k), (0, .ref b), (1, .ref (ob 0)), (2, .ref (ob2 0)), (3, .ref q), (4, .int (nI (3 * n + 1)))]) hx hb d_law_151 hl (by decide) rfl (fun ls hl => ?_)
  refine lv_aload_n hx hb d_law_153 rfl (lv_at hl 4 rfl) ?_
  have hP := P_perm List.perm_append_comm hP
  have hD := D_perm List.perm_append_comm hD
  refine kg_i (w0 := mw cA cP ob2 ad2 Sm') (va_runV (As := []) (rest := []) ⟨hx, hb, hml, hown, hts⟩ (c_Md_thrown l D cA cP ob2 ad2  Sm' e3 H.size) ⟨callB_of 0 hts (gd_Md_thrown) rfl rfl rfl (hts _ (List.mem_cons_of_mem _ wd_72)) (hts _ (List.mem_cons_of_mem _ wd_901)) dd_Md_thrown ⟨(Nat.le_of_ble_eq_true rfl), (Nat.le_of_ble_eq_true rfl)⟩, (hts _ (List.mem_cons_of_mem _ wd_902)), (hts _ (List.mem_cons_of_mem _ wd_903))⟩ (kpV hK2 (P_front hP) (D_front hD) hN hZ hS 7 0 rfl rfl) rfl rfl hl.1 rfl (lv_room (Nat.le_of_ble_eq_true rfl)) d_law_154 ⟨by show _ ≤ 601024; omega, by show _ ≤ 7293000; omega⟩) hP hD hS hA (fun r0 w H locs hw hP hD hS => ?_)
  obtain ⟨hr0, rfl⟩ := hw
  replace hr0 : k = r0 := hr0.symm
  subst hr0
  have hP := P_perm List.perm_append_comm hP
  have hD := D_perm List.perm_append_comm hD
  refine lv_iload hx hb d_law_157 (lv_at hl 1 rfl) ?_
  refine lv_icmp_eq (tgt := 164) hx hb d_law_159 (by decide) (fun _ => ?_) (fun h => absurd rfl h)
  refine lv_iload hx hb d_law_164 (lv_at hl 1 rfl) ?_
  refine lv_if_ne (tgt := 181) hx hb d_law_166 (by decide) (fun hk => ?_) (fun hk => ?_)
  · skip
    refine lv_goto (tgt := 822) hx hb d_law_181 (by decide) ?_
    exact kend _ _ _ _ hP hD hS (lv_sub hl [2, 3, 4, 5, 6] rfl)
  refine lv_aload_n hx hb d_law_169 rfl (lv_at hl 5 rfl) ?_
  refine lv_iconst (v := 0) hx hb d_law_170 (by decide) ?_
  refine va_lald hx hb hK hP (cw cA cP ob ad3 Sc').length 2 (get_mid _ _ _) rfl (inb_in (show inb 0 1 = true by decide)) d_law_171 ?_
  refine lv_iload hx hb d_law_172 (lv_at hl 0 rfl) ?_
  refine lv_i2l (v := Int32.toInt64 r) hx hb d_law_174 rfl ?_
  refine lw_lcmp hx hb (e4 hk) d_law_175 ?_
  refine lv_if_eq (tgt := 181) hx hb d_law_176 (by decide) (fun _ => ?_) (fun h => absurd rfl h)
  refine lv_goto (tgt := 822) hx hb d_law_181 (by decide) ?_
  exact kend _ _ _ _ hP hD hS (lv_sub hl [2, 3, 4, 5, 6] rfl)
set_option maxHeartbeats 4000000 in
set_option maxRecDepth 100000 in
theorem lc_clear {p : Program} {l : Launch} {e : Env} {s : State} {m : MethodId} {below : List Frame} {meth : Method} {c : Code} {H : Heap} {locs : List Loc} {cells slots : Nat} {Q : State → Prop} {ls : Array Slot} {D : va_G} {cA cP cL : ClassId} {b L : Nat} {xs : Nat → Int32} {ob ob2 : Nat → Nat} {ad ad2 : Nat → Nat → Nat} {q n : Nat} {Sc Sc' Sm Sm' : St} {v v' : Nat → Int64} {r : Int32} (hl0 : l.flags = pinnedFlags ++ [noTraceFlag]) (C0 : LC p s m c b L xs D cA cP cL) (hL : L ≤ 1537) (hn : 3 * n + 4 ≤ L) (e1 : f_Pn_clear  Sc = some (r, Sc')) (e2 : f_Md_clear  Sm = some (r, Sm')) (hc : cells + 12 ≤ 601024) (hs : slots + 384 ≤ 7293000) (hP : va_P D clC (lw cA cP cL ob ad ob2 ad2 q Sc v Sm) H) (hD : va_D (va_A [] s.heap.size) (lw cA cP cL ob ad ob2 ad2 q Sc v Sm)) (hS : va_S (va_A [] s.heap.size) s.heap H locs) (hl : lv_has ls 8 [(0, .ref b), (1, .ref (ob 0)), (2, .ref (ob2 0)), (3, .ref q), (4, .int (nI (3 * n + 1)))])
    (kend : ∀ (ad : Nat → Nat → Nat) (H : Heap) (locs : List Loc) (ls : Array Slot), va_P D clC (lw cA cP cL ob ad ob2 ad2 q Sc' v Sm') H → va_D (va_A [] s.heap.size) (lw cA cP cL ob ad ob2 ad2 q Sc' v Sm') → va_S (va_A [] s.heap.size) s.heap H locs → lv_has ls 8 [(0, .ref b), (1, .ref (ob 0)), (2, .ref (ob2 0)), (3, .ref q), (4, .int (nI (3 * n + 1)))] → W p l e room_1 s m #[Value.ref b] below meth c H locs (cells + 12) (slots + 384) Q (F0 m 822 ls [])) :
    W p l e room_1 s m #[Value.ref b] below meth c H locs cells slots Q (F0 m 184 ls []) := by
  have hA : ∀ q : Nat, s.heap.size ≤ q → va_A [] s.heap.size q := fun q h => Or.inr h
  obtain ⟨hx, hb, hml, hown, hts, hK, hN, hZ, hNC, hX, hbl⟩ := id C0
  have hK2 : va_K D clC (TY cA cP) s := hK.sub [0, 1] rfl
  refine lv_aload_n hx hb d_law_184 rfl (lv_at hl 1 rfl) ?_
  rw [lw, List.append_assoc] at hP hD
  refine kg_i (w0 := cw cA cP ob ad Sc) (va_runV (As := []) (rest := []) ⟨hx, hb, hml, hown, hts⟩ (c_Pn_clear l D cA cP ob ad  Sc e1 H.size) ⟨callB_of 0 hts (gd_Pn_clear) rfl rfl rfl (hts _ (List.mem_cons_of_mem _ wd_64)) (hts _ (List.mem_cons_of_mem _ wd_275)) dd_Pn_clear ⟨(Nat.le_of_ble_eq_true rfl), (Nat.le_of_ble_eq_true rfl)⟩, (hts _ (List.mem_cons_of_mem _ wd_276)), (hts _ (List.mem_cons_of_mem _ wd_277))⟩ (kpV hK2 (P_front hP) (D_front hD) hN hZ hS 0 0 rfl rfl) rfl rfl hl.1 rfl (lv_room (Nat.le_of_ble_eq_true rfl)) d_law_185 ⟨by show _ ≤ 601024; omega, by show _ ≤ 7293000; omega⟩) hP hD hS hA (fun r0 w H locs hw hP hD hS => ?_)
  obtain ⟨hr0, rfl⟩ := hw
  replace hr0 : r = r0 := hr0.symm
  subst hr0
  rw [← List.append_assoc] at hP hD
  refine lv_aload_n hx hb d_law_188 rfl (lv_at hl 2 rfl) ?_
  have hP := P_perm List.perm_append_comm hP
  have hD := D_perm List.perm_append_comm hD
  refine kg_i (w0 := mw cA cP ob2 ad2 Sm) (va_runV (As := []) (rest := [.int r]) ⟨hx, hb, hml, hown, hts⟩ (c_Md_clear l D cA cP ob2 ad2  Sm e2 H.size) ⟨callB_of 0 hts (gd_Md_clear) rfl rfl rfl (hts _ (List.mem_cons_of_mem _ wd_72)) (hts _ (List.mem_cons_of_mem _ wd_929)) dd_Md_clear ⟨(Nat.le_of_ble_eq_true rfl), (Nat.le_of_ble_eq_true rfl)⟩, (hts _ (List.mem_cons_of_mem _ wd_930)), (hts _ (List.mem_cons_of_mem _ wd_931))⟩ (kpV hK2 (P_front hP) (D_front hD) hN hZ hS 7 0 rfl rfl) rfl rfl hl.1 rfl (lv_room (Nat.le_of_ble_eq_true rfl)) d_law_189 ⟨by show _ ≤ 601024; omega, by show _ ≤ 7293000; omega⟩) hP hD hS hA (fun r0 w H locs hw hP hD hS => ?_)
  obtain ⟨hr0, rfl⟩ := hw
  replace hr0 : r = r0 := hr0.symm
  subst hr0
  have hP := P_perm List.perm_append_comm hP
  have hD := D_perm List.perm_append_comm hD
  refine lv_icmp_eq (tgt := 822) hx hb d_law_192 (by decide) (fun _ => ?_) (fun h => absurd rfl h)
  refine W.widen (k := cells + 12) (n := slots + 384) (by omega) (by omega) ?_
  exact kend _ _ _ _ hP hD hS (lv_sub hl [0, 1, 2, 3, 4] rfl)
set_option maxHeartbeats 4000000 in
set_option maxRecDepth 100000 in
theorem lc_find {p : Program} {l : Launch} {e : Env} {s : State} {m : MethodId} {below : List Frame} {meth : Method} {c : Code} {H : Heap} {locs : List Loc} {cells slots : Nat} {Q : State → Prop} {ls : Array Slot} {D : va_G} {cA cP cL : ClassId} {b L : Nat} {xs : Nat → Int32} {ob ob2 : Nat → Nat} {ad ad2 : Nat → Nat → Nat} {q n : Nat} {Sc Sc' Sm Sm' : St} {v v' : Nat → Int64} {k : Int32} {r : Int32} (hl0 : l.flags = pinnedFlags ++ [noTraceFlag]) (C0 : LC p s m c b L xs D cA cP cL) (hL : L ≤ 1537) (hn : 3 * n + 4 ≤ L) (e1 : h_find (xs (3 * n + 2)) (xs (3 * n + 3)) v Sc = some (k, v', Sc')) (e2 : f_Md_find (xs (3 * n + 2)) (xs (3 * n + 3)) Sm = some (r, Sm')) (e3 : f_Md_thrown Sm' = some (k, Sm')) (e4 : k = 0 → v' (Int32.toNatClampNeg 0) = Int32.toInt64 r) (hc : cells + 12 ≤ 601024) (hs : slots + 384 ≤ 7293000) (hP : va_P D clC (lw cA cP cL ob ad ob2 ad2 q Sc v Sm) H) (hD : va_D (va_A [] s.heap.size) (lw cA cP cL ob ad ob2 ad2 q Sc v Sm)) (hS : va_S (va_A [] s.heap.size) s.heap H locs) (hl : lv_has ls 8 [(0, .ref b), (1, .ref (ob 0)), (2, .ref (ob2 0)), (3, .ref q), (4, .int (nI (3 * n + 1)))])
    (kend : ∀ (ad : Nat → Nat → Nat) (H : Heap) (locs : List Loc) (ls : Array Slot), va_P D clC (lw cA cP cL ob ad ob2 ad2 q Sc' v' Sm') H → va_D (va_A [] s.heap.size) (lw cA cP cL ob ad ob2 ad2 q Sc' v' Sm') → va_S (va_A [] s.heap.size) s.heap H locs → lv_has ls 8 [(0, .ref b), (1, .ref (ob 0)), (2, .ref (ob2 0)), (3, .ref q), (4, .int (nI (3 * n + 1)))] → W p l e room_1 s m #[Value.ref b] below meth c H locs (cells + 12) (slots + 384) Q (F0 m 822 ls [])) :
    W p l e room_1 s m #[Value.ref b] below meth c H locs cells slots Q (F0 m 197 ls []) := by
  have hA : ∀ q : Nat, s.heap.size ≤ q → va_A [] s.heap.size q := fun q h => Or.inr h
  obtain ⟨hx, hb, hml, hown, hts, hK, hN, hZ, hNC, hX, hbl⟩ := id C0
  have hK2 : va_K D clC (TY cA cP) s := hK.sub [0, 1] rfl
  refine lv_aload_n hx hb d_law_197 rfl (lv_at hl 1 rfl) ?_
  refine lv_aload_n hx hb d_law_198 rfl (lv_at hl 0 rfl) ?_
  refine lv_iload hx hb d_law_199 (lv_at hl 4 rfl) ?_
  refine lv_iconst (v := 1) hx hb d_law_201 (by decide) ?_
  refine lv_iadd hx hb d_law_202 ?_
  refine lw_ld (j := 3 * n + 2) C0 hS (nI_1 _) (by omega) hL d_law_203 ?_
  refine lv_aload_n hx hb d_law_204 rfl (lv_at hl 0 rfl) ?_
  refine lv_iload hx hb d_law_205 (lv_at hl 4 rfl) ?_
  refine lv_iconst (v := 2) hx hb d_law_207 (by decide) ?_
  refine lv_iadd hx hb d_law_208 ?_
  refine lw_ld (j := 3 * n + 3) C0 hS (nI_2 _) (by omega) hL d_law_209 ?_
  refine lv_aload_n hx hb d_law_210 rfl (lv_at hl 3 rfl) ?_
  refine kg_i (w0 := cw cA cP ob ad Sc ++ [oc cL q v]) (runSW (hh := [(0, 10, 13, 13)]) (bytes := b_Lw_find) (maxL := 5) (ret := some .int) (As := [.ref (ob 0), .int (xs (3 * n + 2)), .int (xs (3 * n + 3)), .ref q]) (rest := []) ⟨hx, hb, hml, hown, hts⟩ (c_Lw_find l hl0 D cA cP cL ob ad q (xs (3 * n + 2)) (xs (3 * n + 3)) v Sc e1 H.size) rfl rfl (Nat.le_of_ble_eq_true rfl) (Nat.le_of_ble_eq_true rfl) gd_Lw_find List.mem_cons_self (hts _ (List.mem_cons_of_mem _ wd_63)) ⟨dd_Lw_find.1, dd_Lw_find.2.1⟩ dd_Lw_find.2.2 (hts _ (List.mem_cons_of_mem _ wd_651)) (hts _ (List.mem_cons_of_mem _ wd_652)) (kpH hK (P_front hP) (D_front hD) hN hZ hS hNC) rfl rfl hl.1 rfl (lv_room (Nat.le_of_ble_eq_true rfl)) d_law_211 ⟨by show _ ≤ 601024; omega, by show _ ≤ 7293000; omega⟩) hP hD hS hA (fun r0 w H locs hw hP hD hS => ?_)
  obtain ⟨hr0, ad3, rfl⟩ := hw
  replace hr0 : k = r0 := hr0.symm
  subst hr0
  refine W.widen (k := cells + 12) (n := slots + 384) (by omega) (by omega) ?_
  refine lv_istore (lv' := [(5, .int k), (0, .ref b), (1, .ref (ob 0)), (2, .ref (ob2 0)), (3, .ref q), (4, .int (nI (3 * n + 1)))]) hx hb d_law_214 hl (by decide) rfl (fun ls hl => ?_)
  refine lv_aload_n hx hb d_law_216 rfl (lv_at hl 3 rfl) ?_
  refine lv_aload_n hx hb d_law_217 rfl (lv_at hl 1 rfl) ?_
  refine lv_iload hx hb d_law_218 (lv_at hl 5 rfl) ?_
  refine lv_iconst (v := 1) hx hb d_law_220 (by decide) ?_
  refine lv_iadd hx hb d_law_221 ?_
  refine lw_ld (j := 3 * n + 2) C0 hS (nI_1 _) (by omega) hL d_law_222 ?_
  refine lv_aload_n hx hb d_law_223 rfl (lv_at hl 1 rfl) ?_
  refine lv_iload hx hb d_law_224 (lv_at hl 5 rfl) ?_
  refine lv_iconst (v := 2) hx hb d_law_226 (by decide) ?_
  refine lv_iadd hx hb d_law_227 ?_
  refine lw_ld (j := 3 * n + 3) C0 hS (nI_2 _) (by omega) hL d_law_228 ?_
  have hP := P_perm List.perm_append_comm hP
  have hD := D_perm List.perm_append_comm hD
  refine kg_i (w0 := mw cA cP ob2 ad2 Sm) (va_runV (As := [.int (xs (3 * n + 2)), .int (xs (3 * n + 3))]) (rest := []) ⟨hx, hb, hml, hown, hts⟩ (c_Md_find l D cA cP ob2 ad2 (xs (3 * n + 2)) (xs (3 * n + 3)) Sm e2 H.size) ⟨callB_of 2 hts (gd_Md_find) rfl rfl rfl (hts _ (List.mem_cons_of_mem _ wd_72)) (hts _ (List.mem_cons_of_mem _ wd_933)) dd_Md_find ⟨(Nat.le_of_ble_eq_true rfl), (Nat.le_of_ble_eq_true rfl)⟩, (hts _ (List.mem_cons_of_mem _ wd_934)), (hts _ (List.mem_cons_of_mem _ wd_935))⟩ (kpV hK2 (P_front hP) (D_front hD) hN hZ hS 7 0 rfl rfl) rfl rfl hl.1 rfl (lv_room (Nat.le_of_ble_eq_true rfl)) d_law_229 ⟨by show _ ≤ 601024; omega, by show _ ≤ 7293000; omega⟩) hP hD hS hA (fun r0 w H locs hw hP hD hS => ?_)
  obtain ⟨hr0, rfl⟩ := hw
  replace hr0 : r = r0 := hr0.symm
  subst hr0
  have hP := P_perm List.perm_append_comm hP
  have hD := D_perm List.perm_append_comm hD
  refine lv_istore (lv' := [(6, .int r), (5, .int k), (0, .ref b), (1, .ref (ob 0)), (2, .ref (ob2 0)), (3, .ref q), (4, .int (nI (3 * n + 1)))]) hx hb d_law_232 hl (by decide) rfl (fun ls hl => ?_)
  refine lv_aload_n hx hb d_law_234 rfl (lv_at hl 4 rfl) ?_
  have hP := P_perm List.perm_append_comm hP
  have hD := D_perm List.perm_append_comm hD
  refine kg_i (w0 := mw cA cP ob2 ad2 Sm') (va_runV (As := []) (rest := []) ⟨hx, hb, hml, hown, hts⟩ (c_Md_thrown l D cA cP ob2 ad2  Sm' e3 H.size) ⟨callB_of 0 hts (gd_Md_thrown) rfl rfl rfl (hts _ (List.mem_cons_of_mem _ wd_72)) (hts _ (List.mem_cons_of_mem _ wd_901)) dd_Md_thrown ⟨(Nat.le_of_ble_eq_true rfl), (Nat.le_of_ble_eq_true rfl)⟩, (hts _ (List.mem_cons_of_mem _ wd_902)), (hts _ (List.mem_cons_of_mem _ wd_903))⟩ (kpV hK2 (P_front hP) (D_front hD) hN hZ hS 7 0 rfl rfl) rfl rfl hl.1 rfl (lv_room (Nat.le_of_ble_eq_true rfl)) d_law_235 ⟨by show _ ≤ 601024; omega, by show _ ≤ 7293000; omega⟩) hP hD hS hA (fun r0 w H locs hw hP hD hS => ?_)
  obtain ⟨hr0, rfl⟩ := hw
  replace hr0 : k = r0 := hr0.symm
  subst hr0
  have hP := P_perm List.perm_append_comm hP
  have hD := D_perm List.perm_append_comm hD
  refine lv_iload hx hb d_law_238 (lv_at hl 1 rfl) ?_
  refine lv_icmp_eq (tgt := 245) hx hb d_law_240 (by decide) (fun _ => ?_) (fun h => absurd rfl h)
  refine lv_iload hx hb d_law_245 (lv_at hl 1 rfl) ?_
  refine lv_if_ne (tgt := 262) hx hb d_law_247 (by decide) (fun hk => ?_) (fun hk => ?_)
  · skip
    refine lv_goto (tgt := 822) hx hb d_law_262 (by decide) ?_
    exact kend _ _ _ _ hP hD hS (lv_sub hl [2, 3, 4, 5, 6] rfl)
  refine lv_aload_n hx hb d_law_250 rfl (lv_at hl 5 rfl) ?_
  refine lv_iconst (v := 0) hx hb d_law_251 (by decide) ?_
  refine va_lald hx hb hK hP (cw cA cP ob ad3 Sc').length 2 (get_mid _ _ _) rfl (inb_in (show inb 0 1 = true by decide)) d_law_252 ?_
  refine lv_iload hx hb d_law_253 (lv_at hl 0 rfl) ?_
  refine lv_i2l (v := Int32.toInt64 r) hx hb d_law_255 rfl ?_
  refine lw_lcmp hx hb (e4 hk) d_law_256 ?_
  refine lv_if_eq (tgt := 262) hx hb d_law_257 (by decide) (fun _ => ?_) (fun h => absurd rfl h)
  refine lv_goto (tgt := 822) hx hb d_law_262 (by decide) ?_
  exact kend _ _ _ _ hP hD hS (lv_sub hl [2, 3, 4, 5, 6] rfl)
set_option maxHeartbeats 4000000 in
set_option maxRecDepth 100000 in
theorem lc_triangle {p : Program} {l : Launch} {e : Env} {s : State} {m : MethodId} {below : List Frame} {meth : Method} {c : Code} {H : Heap} {locs : List Loc} {cells slots : Nat} {Q : State → Prop} {ls : Array Slot} {D : va_G} {cA cP cL : ClassId} {b L : Nat} {xs : Nat → Int32} {ob ob2 : Nat → Nat} {ad ad2 : Nat → Nat → Nat} {q n : Nat} {Sc Sc' Sm Sm' : St} {v v' : Nat → Int64} {k : Int32} {r : Int32} (hl0 : l.flags = pinnedFlags ++ [noTraceFlag]) (C0 : LC p s m c b L xs D cA cP cL) (hL : L ≤ 1537) (hn : 3 * n + 4 ≤ L) (e1 : h_triangle (xs (3 * n + 2)) (xs (3 * n + 3)) v Sc = some (k, v', Sc')) (e2 : f_Md_triangle (xs (3 * n + 2)) (xs (3 * n + 3)) Sm = some (r, Sm')) (e3 : f_Md_thrown Sm' = some (k, Sm')) (e4 : k = 0 → v' (Int32.toNatClampNeg 0) = Int32.toInt64 r) (hc : cells + 12 ≤ 601024) (hs : slots + 384 ≤ 7293000) (hP : va_P D clC (lw cA cP cL ob ad ob2 ad2 q Sc v Sm) H) (hD : va_D (va_A [] s.heap.size) (lw cA cP cL ob ad ob2 ad2 q Sc v Sm)) (hS : va_S (va_A [] s.heap.size) s.heap H locs) (hl : lv_has ls 8 [(0, .ref b), (1, .ref (ob 0)), (2, .ref (ob2 0)), (3, .ref q), (4, .int (nI (3 * n + 1)))])
    (kend : ∀ (ad : Nat → Nat → Nat) (H : Heap) (locs : List Loc) (ls : Array Slot), va_P D clC (lw cA cP cL ob ad ob2 ad2 q Sc' v' Sm') H → va_D (va_A [] s.heap.size) (lw cA cP cL ob ad ob2 ad2 q Sc' v' Sm') → va_S (va_A [] s.heap.size) s.heap H locs → lv_has ls 8 [(0, .ref b), (1, .ref (ob 0)), (2, .ref (ob2 0)), (3, .ref q), (4, .int (nI (3 * n + 1)))] → W p l e room_1 s m #[Value.ref b] below meth c H locs (cells + 12) (slots + 384) Q (F0 m 822 ls [])) :
    W p l e room_1 s m #[Value.ref b] below meth c H locs cells slots Q (F0 m 265 ls []) := by
  have hA : ∀ q : Nat, s.heap.size ≤ q → va_A [] s.heap.size q := fun q h => Or.inr h
  obtain ⟨hx, hb, hml, hown, hts, hK, hN, hZ, hNC, hX, hbl⟩ := id C0
  have hK2 : va_K D clC (TY cA cP) s := hK.sub [0, 1] rfl
  refine lv_aload_n hx hb d_law_265 rfl (lv_at hl 1 rfl) ?_
  refine lv_aload_n hx hb d_law_266 rfl (lv_at hl 0 rfl) ?_
  refine lv_iload hx hb d_law_267 (lv_at hl 4 rfl) ?_
  refine lv_iconst (v := 1) hx hb d_law_269 (by decide) ?_
  refine lv_iadd hx hb d_law_270 ?_
  refine lw_ld (j := 3 * n + 2) C0 hS (nI_1 _) (by omega) hL d_law_271 ?_
  refine lv_aload_n hx hb d_law_272 rfl (lv_at hl 0 rfl) ?_
  refine lv_iload hx hb d_law_273 (lv_at hl 4 rfl) ?_
  refine lv_iconst (v := 2) hx hb d_law_275 (by decide) ?_
  refine lv_iadd hx hb d_law_276 ?_
  refine lw_ld (j := 3 * n + 3) C0 hS (nI_2 _) (by omega) hL d_law_277 ?_
  refine lv_aload_n hx hb d_law_278 rfl (lv_at hl 3 rfl) ?_
  refine kg_i (w0 := cw cA cP ob ad Sc ++ [oc cL q v]) (runSW (hh := [(0, 10, 13, 23)]) (bytes := b_Lw_triangle) (maxL := 5) (ret := some .int) (As := [.ref (ob 0), .int (xs (3 * n + 2)), .int (xs (3 * n + 3)), .ref q]) (rest := []) ⟨hx, hb, hml, hown, hts⟩ (c_Lw_triangle l hl0 D cA cP cL ob ad q (xs (3 * n + 2)) (xs (3 * n + 3)) v Sc e1 H.size) rfl rfl (Nat.le_of_ble_eq_true rfl) (Nat.le_of_ble_eq_true rfl) gd_Lw_triangle List.mem_cons_self (hts _ (List.mem_cons_of_mem _ wd_63)) ⟨dd_Lw_triangle.1, dd_Lw_triangle.2.1⟩ dd_Lw_triangle.2.2 (hts _ (List.mem_cons_of_mem _ wd_658)) (hts _ (List.mem_cons_of_mem _ wd_659)) (kpH hK (P_front hP) (D_front hD) hN hZ hS hNC) rfl rfl hl.1 rfl (lv_room (Nat.le_of_ble_eq_true rfl)) d_law_279 ⟨by show _ ≤ 601024; omega, by show _ ≤ 7293000; omega⟩) hP hD hS hA (fun r0 w H locs hw hP hD hS => ?_)
  obtain ⟨hr0, ad3, rfl⟩ := hw
  replace hr0 : k = r0 := hr0.symm
  subst hr0
  refine W.widen (k := cells + 12) (n := slots + 384) (by omega) (by omega) ?_
  refine lv_istore (lv' := [(5, .int k), (0, .ref b), (1, .ref (ob 0)), (2, .ref (ob2 0)), (3, .ref q), (4, .int (nI (3 * n + 1)))]) hx hb d_law_282 hl (by decide) rfl (fun ls hl => ?_)
  refine lv_aload_n hx hb d_law_284 rfl (lv_at hl 3 rfl) ?_
  refine lv_aload_n hx hb d_law_285 rfl (lv_at hl 1 rfl) ?_
  refine lv_iload hx hb d_law_286 (lv_at hl 5 rfl) ?_
  refine lv_iconst (v := 1) hx hb d_law_288 (by decide) ?_
  refine lv_iadd hx hb d_law_289 ?_
  refine lw_ld (j := 3 * n + 2) C0 hS (nI_1 _) (by omega) hL d_law_290 ?_
  refine lv_aload_n hx hb d_law_291 rfl (lv_at hl 1 rfl) ?_
  refine lv_iload hx hb d_law_292 (lv_at hl 5 rfl) ?_
  refine lv_iconst (v := 2) hx hb d_law_294 (by decide) ?_
  refine lv_iadd hx hb d_law_295 ?_
  refine lw_ld (j := 3 * n + 3) C0 hS (nI_2 _) (by omega) hL d_law_296 ?_
  have hP := P_perm List.perm_append_comm hP
  have hD := D_perm List.perm_append_comm hD
  refine kg_i (w0 := mw cA cP ob2 ad2 Sm) (va_runV (As := [.int (xs (3 * n + 2)), .int (xs (3 * n + 3))]) (rest := []) ⟨hx, hb, hml, hown, hts⟩ (c_Md_triangle l D cA cP ob2 ad2 (xs (3 * n + 2)) (xs (3 * n + 3)) Sm e2 H.size) ⟨callB_of 2 hts (gd_Md_triangle) rfl rfl rfl (hts _ (List.mem_cons_of_mem _ wd_72)) (hts _ (List.mem_cons_of_mem _ wd_937)) dd_Md_triangle ⟨(Nat.le_of_ble_eq_true rfl), (Nat.le_of_ble_eq_true rfl)⟩, (hts _ (List.mem_cons_of_mem _ wd_938)), (hts _ (List.mem_cons_of_mem _ wd_939))⟩ (kpV hK2 (P_front hP) (D_front hD) hN hZ hS 7 0 rfl rfl) rfl rfl hl.1 rfl (lv_room (Nat.le_of_ble_eq_true rfl)) d_law_297 ⟨by show _ ≤ 601024; omega, by show _ ≤ 7293000; omega⟩) hP hD hS hA (fun r0 w H locs hw hP hD hS => ?_)
  obtain ⟨hr0, rfl⟩ := hw
  replace hr0 : r = r0 := hr0.symm
  subst hr0
  have hP := P_perm List.perm_append_comm hP
  have hD := D_perm List.perm_append_comm hD
  refine lv_istore (lv' := [(6, .int r), (5, .int k), (0, .ref b), (1, .ref (ob 0)), (2, .ref (ob2 0)), (3, .ref q), (4, .int (nI (3 * n + 1)))]) hx hb d_law_300 hl (by decide) rfl (fun ls hl => ?_)
  refine lv_aload_n hx hb d_law_302 rfl (lv_at hl 4 rfl) ?_
  have hP := P_perm List.perm_append_comm hP
  have hD := D_perm List.perm_append_comm hD
  refine kg_i (w0 := mw cA cP ob2 ad2 Sm') (va_runV (As := []) (rest := []) ⟨hx, hb, hml, hown, hts⟩ (c_Md_thrown l D cA cP ob2 ad2  Sm' e3 H.size) ⟨callB_of 0 hts (gd_Md_thrown) rfl rfl rfl (hts _ (List.mem_cons_of_mem _ wd_72)) (hts _ (List.mem_cons_of_mem _ wd_901)) dd_Md_thrown ⟨(Nat.le_of_ble_eq_true rfl), (Nat.le_of_ble_eq_true rfl)⟩, (hts _ (List.mem_cons_of_mem _ wd_902)), (hts _ (List.mem_cons_of_mem _ wd_903))⟩ (kpV hK2 (P_front hP) (D_front hD) hN hZ hS 7 0 rfl rfl) rfl rfl hl.1 rfl (lv_room (Nat.le_of_ble_eq_true rfl)) d_law_303 ⟨by show _ ≤ 601024; omega, by show _ ≤ 7293000; omega⟩) hP hD hS hA (fun r0 w H locs hw hP hD hS => ?_)
  obtain ⟨hr0, rfl⟩ := hw
  replace hr0 : k = r0 := hr0.symm
  subst hr0
  have hP := P_perm List.perm_append_comm hP
  have hD := D_perm List.perm_append_comm hD
  refine lv_iload hx hb d_law_306 (lv_at hl 1 rfl) ?_
  refine lv_icmp_eq (tgt := 313) hx hb d_law_308 (by decide) (fun _ => ?_) (fun h => absurd rfl h)
  refine lv_iload hx hb d_law_313 (lv_at hl 1 rfl) ?_
  refine lv_if_ne (tgt := 330) hx hb d_law_315 (by decide) (fun hk => ?_) (fun hk => ?_)
  · skip
    refine lv_goto (tgt := 822) hx hb d_law_330 (by decide) ?_
    exact kend _ _ _ _ hP hD hS (lv_sub hl [2, 3, 4, 5, 6] rfl)
  refine lv_aload_n hx hb d_law_318 rfl (lv_at hl 5 rfl) ?_
  refine lv_iconst (v := 0) hx hb d_law_319 (by decide) ?_
  refine va_lald hx hb hK hP (cw cA cP ob ad3 Sc').length 2 (get_mid _ _ _) rfl (inb_in (show inb 0 1 = true by decide)) d_law_320 ?_
  refine lv_iload hx hb d_law_321 (lv_at hl 0 rfl) ?_
  refine lv_i2l (v := Int32.toInt64 r) hx hb d_law_323 rfl ?_
  refine lw_lcmp hx hb (e4 hk) d_law_324 ?_
  refine lv_if_eq (tgt := 330) hx hb d_law_325 (by decide) (fun _ => ?_) (fun h => absurd rfl h)
  refine lv_goto (tgt := 822) hx hb d_law_330 (by decide) ?_
  exact kend _ _ _ _ hP hD hS (lv_sub hl [2, 3, 4, 5, 6] rfl)
set_option maxHeartbeats 4000000 in
set_option maxRecDepth 100000 in
theorem lc_neighbours {p : Program} {l : Launch} {e : Env} {s : State} {m : MethodId} {below : List Frame} {meth : Method} {c : Code} {H : Heap} {locs : List Loc} {cells slots : Nat} {Q : State → Prop} {ls : Array Slot} {D : va_G} {cA cP cL : ClassId} {b L : Nat} {xs : Nat → Int32} {ob ob2 : Nat → Nat} {ad ad2 : Nat → Nat → Nat} {q n : Nat} {Sc Sc' Sm Sm' : St} {v v' : Nat → Int64} {k : Int32} {r : Int32} (hl0 : l.flags = pinnedFlags ++ [noTraceFlag]) (C0 : LC p s m c b L xs D cA cP cL) (hL : L ≤ 1537) (hn : 3 * n + 4 ≤ L) (e1 : h_neighbours (xs (3 * n + 2)) v Sc = some (k, v', Sc')) (e2 : f_Md_neighbours (xs (3 * n + 2)) Sm = some (r, Sm')) (e3 : f_Md_thrown Sm' = some (k, Sm')) (e4 : k = 0 → v' (Int32.toNatClampNeg 0) = Int32.toInt64 r) (hc : cells + 12 ≤ 601024) (hs : slots + 384 ≤ 7293000) (hP : va_P D clC (lw cA cP cL ob ad ob2 ad2 q Sc v Sm) H) (hD : va_D (va_A [] s.heap.size) (lw cA cP cL ob ad ob2 ad2 q Sc v Sm)) (hS : va_S (va_A [] s.heap.size) s.heap H locs) (hl : lv_has ls 8 [(0, .ref b), (1, .ref (ob 0)), (2, .ref (ob2 0)), (3, .ref q), (4, .int (nI (3 * n + 1)))])
    (kend : ∀ (ad : Nat → Nat → Nat) (H : Heap) (locs : List Loc) (ls : Array Slot), va_P D clC (lw cA cP cL ob ad ob2 ad2 q Sc' v' Sm') H → va_D (va_A [] s.heap.size) (lw cA cP cL ob ad ob2 ad2 q Sc' v' Sm') → va_S (va_A [] s.heap.size) s.heap H locs → lv_has ls 8 [(0, .ref b), (1, .ref (ob 0)), (2, .ref (ob2 0)), (3, .ref q), (4, .int (nI (3 * n + 1)))] → W p l e room_1 s m #[Value.ref b] below meth c H locs (cells + 12) (slots + 384) Q (F0 m 822 ls [])) :
    W p l e room_1 s m #[Value.ref b] below meth c H locs cells slots Q (F0 m 333 ls []) := by
  have hA : ∀ q : Nat, s.heap.size ≤ q → va_A [] s.heap.size q := fun q h => Or.inr h
  obtain ⟨hx, hb, hml, hown, hts, hK, hN, hZ, hNC, hX, hbl⟩ := id C0
  have hK2 : va_K D clC (TY cA cP) s := hK.sub [0, 1] rfl
  refine lv_aload_n hx hb d_law_333 rfl (lv_at hl 1 rfl) ?_
  refine lv_aload_n hx hb d_law_334 rfl (lv_at hl 0 rfl) ?_
  refine lv_iload hx hb d_law_335 (lv_at hl 4 rfl) ?_
  refine lv_iconst (v := 1) hx hb d_law_337 (by decide) ?_
  refine lv_iadd hx hb d_law_338 ?_
  refine lw_ld (j := 3 * n + 2) C0 hS (nI_1 _) (by omega) hL d_law_339 ?_
  refine lv_aload_n hx hb d_law_340 rfl (lv_at hl 3 rfl) ?_
  refine kg_i (w0 := cw cA cP ob ad Sc ++ [oc cL q v]) (runSW (hh := [(0, 9, 12, 23)]) (bytes := b_Lw_neighbours) (maxL := 4) (ret := some .int) (As := [.ref (ob 0), .int (xs (3 * n + 2)), .ref q]) (rest := []) ⟨hx, hb, hml, hown, hts⟩ (c_Lw_neighbours l hl0 D cA cP cL ob ad q (xs (3 * n + 2)) v Sc e1 H.size) rfl rfl (Nat.le_of_ble_eq_true rfl) (Nat.le_of_ble_eq_true rfl) gd_Lw_neighbours List.mem_cons_self (hts _ (List.mem_cons_of_mem _ wd_63)) ⟨dd_Lw_neighbours.1, dd_Lw_neighbours.2.1⟩ dd_Lw_neighbours.2.2 (hts _ (List.mem_cons_of_mem _ wd_713)) (hts _ (List.mem_cons_of_mem _ wd_714)) (kpH hK (P_front hP) (D_front hD) hN hZ hS hNC) rfl rfl hl.1 rfl (lv_room (Nat.le_of_ble_eq_true rfl)) d_law_341 ⟨by show _ ≤ 601024; omega, by show _ ≤ 7293000; omega⟩) hP hD hS hA (fun r0 w H locs hw hP hD hS => ?_)
  obtain ⟨hr0, ad3, rfl⟩ := hw
  replace hr0 : k = r0 := hr0.symm
  subst hr0
  refine W.widen (k := cells + 12) (n := slots + 384) (by omega) (by omega) ?_
  refine lv_istore (lv' := [(5, .int k), (0, .ref b), (1, .ref (ob 0)), (2, .ref (ob2 0)), (3, .ref q), (4, .int (nI (3 * n + 1)))]) hx hb d_law_344 hl (by decide) rfl (fun ls hl => ?_)
  refine lv_aload_n hx hb d_law_346 rfl (lv_at hl 3 rfl) ?_
  refine lv_aload_n hx hb d_law_347 rfl (lv_at hl 1 rfl) ?_
  refine lv_iload hx hb d_law_348 (lv_at hl 5 rfl) ?_
  refine lv_iconst (v := 1) hx hb d_law_350 (by decide) ?_
  refine lv_iadd hx hb d_law_351 ?_
  refine lw_ld (j := 3 * n + 2) C0 hS (nI_1 _) (by omega) hL d_law_352 ?_
  have hP := P_perm List.perm_append_comm hP
  have hD := D_perm List.perm_append_comm hD
  refine kg_i (w0 := mw cA cP ob2 ad2 Sm) (va_runV (As := [.int (xs (3 * n + 2))]) (rest := []) ⟨hx, hb, hml, hown, hts⟩ (c_Md_neighbours l D cA cP ob2 ad2 (xs (3 * n + 2)) Sm e2 H.size) ⟨callB_of 1 hts (gd_Md_neighbours) rfl rfl rfl (hts _ (List.mem_cons_of_mem _ wd_72)) (hts _ (List.mem_cons_of_mem _ wd_1032)) dd_Md_neighbours ⟨(Nat.le_of_ble_eq_true rfl), (Nat.le_of_ble_eq_true rfl)⟩, (hts _ (List.mem_cons_of_mem _ wd_1033)), (hts _ (List.mem_cons_of_mem _ wd_1034))⟩ (kpV hK2 (P_front hP) (D_front hD) hN hZ hS 7 0 rfl rfl) rfl rfl hl.1 rfl (lv_room (Nat.le_of_ble_eq_true rfl)) d_law_353 ⟨by show _ ≤ 601024; omega, by show _ ≤ 7293000; omega⟩) hP hD hS hA (fun r0 w H locs hw hP hD hS => ?_)
  obtain ⟨hr0, rfl⟩ := hw
  replace hr0 : r = r0 := hr0.symm
  subst hr0
  have hP := P_perm List.perm_append_comm hP
  have hD := D_perm List.perm_append_comm hD
  refine lv_istore (lv' := [(6, .int r), (5, .int k), (0, .ref b), (1, .ref (ob 0)), (2, .ref (ob2 0)), (3, .ref q), (4, .int (nI (3 * n + 1)))]) hx hb d_law_356 hl (by decide) rfl (fun ls hl => ?_)
  refine lv_aload_n hx hb d_law_358 rfl (lv_at hl 4 rfl) ?_
  have hP := P_perm List.perm_append_comm hP
  have hD := D_perm List.perm_append_comm hD
  refine kg_i (w0 := mw cA cP ob2 ad2 Sm') (va_runV (As := []) (rest := []) ⟨hx, hb, hml, hown, hts⟩ (c_Md_thrown l D cA cP ob2 ad2  Sm' e3 H.size) ⟨callB_of 0 hts (gd_Md_thrown) rfl rfl rfl (hts _ (List.mem_cons_of_mem _ wd_72)) (hts _ (List.mem_cons_of_mem _ wd_901)) dd_Md_thrown ⟨(Nat.le_of_ble_eq_true rfl), (Nat.le_of_ble_eq_true rfl)⟩, (hts _ (List.mem_cons_of_mem _ wd_902)), (hts _ (List.mem_cons_of_mem _ wd_903))⟩ (kpV hK2 (P_front hP) (D_front hD) hN hZ hS 7 0 rfl rfl) rfl rfl hl.1 rfl (lv_room (Nat.le_of_ble_eq_true rfl)) d_law_359 ⟨by show _ ≤ 601024; omega, by show _ ≤ 7293000; omega⟩) hP hD hS hA (fun r0 w H locs hw hP hD hS => ?_)
  obtain ⟨hr0, rfl⟩ := hw
  replace hr0 : k = r0 := hr0.symm
  subst hr0
  have hP := P_perm List.perm_append_comm hP
  have hD := D_perm List.perm_append_comm hD
  refine lv_iload hx hb d_law_362 (lv_at hl 1 rfl) ?_
  refine lv_icmp_eq (tgt := 369) hx hb d_law_364 (by decide) (fun _ => ?_) (fun h => absurd rfl h)
  refine lv_iload hx hb d_law_369 (lv_at hl 1 rfl) ?_
  refine lv_if_ne (tgt := 386) hx hb d_law_371 (by decide) (fun hk => ?_) (fun hk => ?_)
  · skip
    refine lv_goto (tgt := 822) hx hb d_law_386 (by decide) ?_
    exact kend _ _ _ _ hP hD hS (lv_sub hl [2, 3, 4, 5, 6] rfl)
  refine lv_aload_n hx hb d_law_374 rfl (lv_at hl 5 rfl) ?_
  refine lv_iconst (v := 0) hx hb d_law_375 (by decide) ?_
  refine va_lald hx hb hK hP (cw cA cP ob ad3 Sc').length 2 (get_mid _ _ _) rfl (inb_in (show inb 0 1 = true by decide)) d_law_376 ?_
  refine lv_iload hx hb d_law_377 (lv_at hl 0 rfl) ?_
  refine lv_i2l (v := Int32.toInt64 r) hx hb d_law_379 rfl ?_
  refine lw_lcmp hx hb (e4 hk) d_law_380 ?_
  refine lv_if_eq (tgt := 386) hx hb d_law_381 (by decide) (fun _ => ?_) (fun h => absurd rfl h)
  refine lv_goto (tgt := 822) hx hb d_law_386 (by decide) ?_
  exact kend _ _ _ _ hP hD hS (lv_sub hl [2, 3, 4, 5, 6] rfl)
set_option maxHeartbeats 4000000 in
set_option maxRecDepth 100000 in
theorem lc_neighbour {p : Program} {l : Launch} {e : Env} {s : State} {m : MethodId} {below : List Frame} {meth : Method} {c : Code} {H : Heap} {locs : List Loc} {cells slots : Nat} {Q : State → Prop} {ls : Array Slot} {D : va_G} {cA cP cL : ClassId} {b L : Nat} {xs : Nat → Int32} {ob ob2 : Nat → Nat} {ad ad2 : Nat → Nat → Nat} {q n : Nat} {Sc Sc' Sm Sm' : St} {v v' : Nat → Int64} {k : Int32} {r : Int32} (hl0 : l.flags = pinnedFlags ++ [noTraceFlag]) (C0 : LC p s m c b L xs D cA cP cL) (hL : L ≤ 1537) (hn : 3 * n + 4 ≤ L) (e1 : h_neighbour (xs (3 * n + 2)) (xs (3 * n + 3)) v Sc = some (k, v', Sc')) (e2 : f_Md_neighbour (xs (3 * n + 2)) (xs (3 * n + 3)) Sm = some (r, Sm')) (e3 : f_Md_thrown Sm' = some (k, Sm')) (e4 : k = 0 → v' (Int32.toNatClampNeg 0) = Int32.toInt64 r) (hc : cells + 12 ≤ 601024) (hs : slots + 384 ≤ 7293000) (hP : va_P D clC (lw cA cP cL ob ad ob2 ad2 q Sc v Sm) H) (hD : va_D (va_A [] s.heap.size) (lw cA cP cL ob ad ob2 ad2 q Sc v Sm)) (hS : va_S (va_A [] s.heap.size) s.heap H locs) (hl : lv_has ls 8 [(0, .ref b), (1, .ref (ob 0)), (2, .ref (ob2 0)), (3, .ref q), (4, .int (nI (3 * n + 1)))])
    (kend : ∀ (ad : Nat → Nat → Nat) (H : Heap) (locs : List Loc) (ls : Array Slot), va_P D clC (lw cA cP cL ob ad ob2 ad2 q Sc' v' Sm') H → va_D (va_A [] s.heap.size) (lw cA cP cL ob ad ob2 ad2 q Sc' v' Sm') → va_S (va_A [] s.heap.size) s.heap H locs → lv_has ls 8 [(0, .ref b), (1, .ref (ob 0)), (2, .ref (ob2 0)), (3, .ref q), (4, .int (nI (3 * n + 1)))] → W p l e room_1 s m #[Value.ref b] below meth c H locs (cells + 12) (slots + 384) Q (F0 m 822 ls [])) :
    W p l e room_1 s m #[Value.ref b] below meth c H locs cells slots Q (F0 m 389 ls []) := by
  have hA : ∀ q : Nat, s.heap.size ≤ q → va_A [] s.heap.size q := fun q h => Or.inr h
  obtain ⟨hx, hb, hml, hown, hts, hK, hN, hZ, hNC, hX, hbl⟩ := id C0
  have hK2 : va_K D clC (TY cA cP) s := hK.sub [0, 1] rfl
  refine lv_aload_n hx hb d_law_389 rfl (lv_at hl 1 rfl) ?_
  refine lv_aload_n hx hb d_law_390 rfl (lv_at hl 0 rfl) ?_
  refine lv_iload hx hb d_law_391 (lv_at hl 4 rfl) ?_
  refine lv_iconst (v := 1) hx hb d_law_393 (by decide) ?_
  refine lv_iadd hx hb d_law_394 ?_
  refine lw_ld (j := 3 * n + 2) C0 hS (nI_1 _) (by omega) hL d_law_395 ?_
  refine lv_aload_n hx hb d_law_396 rfl (lv_at hl 0 rfl) ?_
  refine lv_iload hx hb d_law_397 (lv_at hl 4 rfl) ?_
  refine lv_iconst (v := 2) hx hb d_law_399 (by decide) ?_
  refine lv_iadd hx hb d_law_400 ?_
  refine lw_ld (j := 3 * n + 3) C0 hS (nI_2 _) (by omega) hL d_law_401 ?_
  refine lv_aload_n hx hb d_law_402 rfl (lv_at hl 3 rfl) ?_
  refine kg_i (w0 := cw cA cP ob ad Sc ++ [oc cL q v]) (runSW (hh := [(0, 10, 13, 23)]) (bytes := b_Lw_neighbour) (maxL := 5) (ret := some .int) (As := [.ref (ob 0), .int (xs (3 * n + 2)), .int (xs (3 * n + 3)), .ref q]) (rest := []) ⟨hx, hb, hml, hown, hts⟩ (c_Lw_neighbour l hl0 D cA cP cL ob ad q (xs (3 * n + 2)) (xs (3 * n + 3)) v Sc e1 H.size) rfl rfl (Nat.le_of_ble_eq_true rfl) (Nat.le_of_ble_eq_true rfl) gd_Lw_neighbour List.mem_cons_self (hts _ (List.mem_cons_of_mem _ wd_63)) ⟨dd_Lw_neighbour.1, dd_Lw_neighbour.2.1⟩ dd_Lw_neighbour.2.2 (hts _ (List.mem_cons_of_mem _ wd_735)) (hts _ (List.mem_cons_of_mem _ wd_736)) (kpH hK (P_front hP) (D_front hD) hN hZ hS hNC) rfl rfl hl.1 rfl (lv_room (Nat.le_of_ble_eq_true rfl)) d_law_403 ⟨by show _ ≤ 601024; omega, by show _ ≤ 7293000; omega⟩) hP hD hS hA (fun r0 w H locs hw hP hD hS => ?_)
  obtain ⟨hr0, ad3, rfl⟩ := hw
  replace hr0 : k = r0 := hr0.symm
  subst hr0
  refine W.widen (k := cells + 12) (n := slots + 384) (by omega) (by omega) ?_
  refine lv_istore (lv' := [(5, .int k), (0, .ref b), (1, .ref (ob 0)), (2, .ref (ob2 0)), (3, .ref q), (4, .int (nI (3 * n + 1)))]) hx hb d_law_406 hl (by decide) rfl (fun ls hl => ?_)
  refine lv_aload_n hx hb d_law_408 rfl (lv_at hl 3 rfl) ?_
  refine lv_aload_n hx hb d_law_409 rfl (lv_at hl 1 rfl) ?_
  refine lv_iload hx hb d_law_410 (lv_at hl 5 rfl) ?_
  refine lv_iconst (v := 1) hx hb d_law_412 (by decide) ?_
  refine lv_iadd hx hb d_law_413 ?_
  refine lw_ld (j := 3 * n + 2) C0 hS (nI_1 _) (by omega) hL d_law_414 ?_
  refine lv_aload_n hx hb d_law_415 rfl (lv_at hl 1 rfl) ?_
  refine lv_iload hx hb d_law_416 (lv_at hl 5 rfl) ?_
  refine lv_iconst (v := 2) hx hb d_law_418 (by decide) ?_
  refine lv_iadd hx hb d_law_419 ?_
  refine lw_ld (j := 3 * n + 3) C0 hS (nI_2 _) (by omega) hL d_law_420 ?_
  have hP := P_perm List.perm_append_comm hP
  have hD := D_perm List.perm_append_comm hD
  refine kg_i (w0 := mw cA cP ob2 ad2 Sm) (va_runV (As := [.int (xs (3 * n + 2)), .int (xs (3 * n + 3))]) (rest := []) ⟨hx, hb, hml, hown, hts⟩ (c_Md_neighbour l D cA cP ob2 ad2 (xs (3 * n + 2)) (xs (3 * n + 3)) Sm e2 H.size) ⟨callB_of 2 hts (gd_Md_neighbour) rfl rfl rfl (hts _ (List.mem_cons_of_mem _ wd_72)) (hts _ (List.mem_cons_of_mem _ wd_1056)) dd_Md_neighbour ⟨(Nat.le_of_ble_eq_true rfl), (Nat.le_of_ble_eq_true rfl)⟩, (hts _ (List.mem_cons_of_mem _ wd_1057)), (hts _ (List.mem_cons_of_mem _ wd_1058))⟩ (kpV hK2 (P_front hP) (D_front hD) hN hZ hS 7 0 rfl rfl) rfl rfl hl.1 rfl (lv_room (Nat.le_of_ble_eq_true rfl)) d_law_421 ⟨by show _ ≤ 601024; omega, by show _ ≤ 7293000; omega⟩) hP hD hS hA (fun r0 w H locs hw hP hD hS => ?_)
  obtain ⟨hr0, rfl⟩ := hw
  replace hr0 : r = r0 := hr0.symm
  subst hr0
  have hP := P_perm List.perm_append_comm hP
  have hD := D_perm List.perm_append_comm hD
  refine lv_istore (lv' := [(6, .int r), (5, .int k), (0, .ref b), (1, .ref (ob 0)), (2, .ref (ob2 0)), (3, .ref q), (4, .int (nI (3 * n + 1)))]) hx hb d_law_424 hl (by decide) rfl (fun ls hl => ?_)
  refine lv_aload_n hx hb d_law_426 rfl (lv_at hl 4 rfl) ?_
  have hP := P_perm List.perm_append_comm hP
  have hD := D_perm List.perm_append_comm hD
  refine kg_i (w0 := mw cA cP ob2 ad2 Sm') (va_runV (As := []) (rest := []) ⟨hx, hb, hml, hown, hts⟩ (c_Md_thrown l D cA cP ob2 ad2  Sm' e3 H.size) ⟨callB_of 0 hts (gd_Md_thrown) rfl rfl rfl (hts _ (List.mem_cons_of_mem _ wd_72)) (hts _ (List.mem_cons_of_mem _ wd_901)) dd_Md_thrown ⟨(Nat.le_of_ble_eq_true rfl), (Nat.le_of_ble_eq_true rfl)⟩, (hts _ (List.mem_cons_of_mem _ wd_902)), (hts _ (List.mem_cons_of_mem _ wd_903))⟩ (kpV hK2 (P_front hP) (D_front hD) hN hZ hS 7 0 rfl rfl) rfl rfl hl.1 rfl (lv_room (Nat.le_of_ble_eq_true rfl)) d_law_427 ⟨by show _ ≤ 601024; omega, by show _ ≤ 7293000; omega⟩) hP hD hS hA (fun r0 w H locs hw hP hD hS => ?_)
  obtain ⟨hr0, rfl⟩ := hw
  replace hr0 : k = r0 := hr0.symm
  subst hr0
  have hP := P_perm List.perm_append_comm hP
  have hD := D_perm List.perm_append_comm hD
  refine lv_iload hx hb d_law_430 (lv_at hl 1 rfl) ?_
  refine lv_icmp_eq (tgt := 437) hx hb d_law_432 (by decide) (fun _ => ?_) (fun h => absurd rfl h)
  refine lv_iload hx hb d_law_437 (lv_at hl 1 rfl) ?_
  refine lv_if_ne (tgt := 454) hx hb d_law_439 (by decide) (fun hk => ?_) (fun hk => ?_)
  · skip
    refine lv_goto (tgt := 822) hx hb d_law_454 (by decide) ?_
    exact kend _ _ _ _ hP hD hS (lv_sub hl [2, 3, 4, 5, 6] rfl)
  refine lv_aload_n hx hb d_law_442 rfl (lv_at hl 5 rfl) ?_
  refine lv_iconst (v := 0) hx hb d_law_443 (by decide) ?_
  refine va_lald hx hb hK hP (cw cA cP ob ad3 Sc').length 2 (get_mid _ _ _) rfl (inb_in (show inb 0 1 = true by decide)) d_law_444 ?_
  refine lv_iload hx hb d_law_445 (lv_at hl 0 rfl) ?_
  refine lv_i2l (v := Int32.toInt64 r) hx hb d_law_447 rfl ?_
  refine lw_lcmp hx hb (e4 hk) d_law_448 ?_
  refine lv_if_eq (tgt := 454) hx hb d_law_449 (by decide) (fun _ => ?_) (fun h => absurd rfl h)
  refine lv_goto (tgt := 822) hx hb d_law_454 (by decide) ?_
  exact kend _ _ _ _ hP hD hS (lv_sub hl [2, 3, 4, 5, 6] rfl)
set_option maxHeartbeats 4000000 in
set_option maxRecDepth 100000 in
theorem lc_corner {p : Program} {l : Launch} {e : Env} {s : State} {m : MethodId} {below : List Frame} {meth : Method} {c : Code} {H : Heap} {locs : List Loc} {cells slots : Nat} {Q : State → Prop} {ls : Array Slot} {D : va_G} {cA cP cL : ClassId} {b L : Nat} {xs : Nat → Int32} {ob ob2 : Nat → Nat} {ad ad2 : Nat → Nat → Nat} {q n : Nat} {Sc Sc' Sm Sm' : St} {v v' : Nat → Int64} {k : Int32} {r : Int32} (hl0 : l.flags = pinnedFlags ++ [noTraceFlag]) (C0 : LC p s m c b L xs D cA cP cL) (hL : L ≤ 1537) (hn : 3 * n + 4 ≤ L) (e1 : h_corner (xs (3 * n + 2)) v Sc = some (k, v', Sc')) (e2 : f_Md_corner (xs (3 * n + 2)) Sm = some (r, Sm')) (e3 : f_Md_thrown Sm' = some (k, Sm')) (e4 : k = 0 → v' (Int32.toNatClampNeg 0) = Int32.toInt64 r) (hc : cells + 12 ≤ 601024) (hs : slots + 384 ≤ 7293000) (hP : va_P D clC (lw cA cP cL ob ad ob2 ad2 q Sc v Sm) H) (hD : va_D (va_A [] s.heap.size) (lw cA cP cL ob ad ob2 ad2 q Sc v Sm)) (hS : va_S (va_A [] s.heap.size) s.heap H locs) (hl : lv_has ls 8 [(0, .ref b), (1, .ref (ob 0)), (2, .ref (ob2 0)), (3, .ref q), (4, .int (nI (3 * n + 1)))])
    (kend : ∀ (ad : Nat → Nat → Nat) (H : Heap) (locs : List Loc) (ls : Array Slot), va_P D clC (lw cA cP cL ob ad ob2 ad2 q Sc' v' Sm') H → va_D (va_A [] s.heap.size) (lw cA cP cL ob ad ob2 ad2 q Sc' v' Sm') → va_S (va_A [] s.heap.size) s.heap H locs → lv_has ls 8 [(0, .ref b), (1, .ref (ob 0)), (2, .ref (ob2 0)), (3, .ref q), (4, .int (nI (3 * n + 1)))] → W p l e room_1 s m #[Value.ref b] below meth c H locs (cells + 12) (slots + 384) Q (F0 m 822 ls [])) :
    W p l e room_1 s m #[Value.ref b] below meth c H locs cells slots Q (F0 m 457 ls []) := by
  have hA : ∀ q : Nat, s.heap.size ≤ q → va_A [] s.heap.size q := fun q h => Or.inr h
  obtain ⟨hx, hb, hml, hown, hts, hK, hN, hZ, hNC, hX, hbl⟩ := id C0
  have hK2 : va_K D clC (TY cA cP) s := hK.sub [0, 1] rfl
  refine lv_aload_n hx hb d_law_457 rfl (lv_at hl 1 rfl) ?_
  refine lv_aload_n hx hb d_law_458 rfl (lv_at hl 0 rfl) ?_
  refine lv_iload hx hb d_law_459 (lv_at hl 4 rfl) ?_
  refine lv_iconst (v := 1) hx hb d_law_461 (by decide) ?_
  refine lv_iadd hx hb d_law_462 ?_
  refine lw_ld (j := 3 * n + 2) C0 hS (nI_1 _) (by omega) hL d_law_463 ?_
  refine lv_aload_n hx hb d_law_464 rfl (lv_at hl 3 rfl) ?_
  refine kg_i (w0 := cw cA cP ob ad Sc ++ [oc cL q v]) (runSW (hh := [(0, 9, 12, 23)]) (bytes := b_Lw_corner) (maxL := 4) (ret := some .int) (As := [.ref (ob 0), .int (xs (3 * n + 2)), .ref q]) (rest := []) ⟨hx, hb, hml, hown, hts⟩ (c_Lw_corner l hl0 D cA cP cL ob ad q (xs (3 * n + 2)) v Sc e1 H.size) rfl rfl (Nat.le_of_ble_eq_true rfl) (Nat.le_of_ble_eq_true rfl) gd_Lw_corner List.mem_cons_self (hts _ (List.mem_cons_of_mem _ wd_63)) ⟨dd_Lw_corner.1, dd_Lw_corner.2.1⟩ dd_Lw_corner.2.2 (hts _ (List.mem_cons_of_mem _ wd_755)) (hts _ (List.mem_cons_of_mem _ wd_756)) (kpH hK (P_front hP) (D_front hD) hN hZ hS hNC) rfl rfl hl.1 rfl (lv_room (Nat.le_of_ble_eq_true rfl)) d_law_465 ⟨by show _ ≤ 601024; omega, by show _ ≤ 7293000; omega⟩) hP hD hS hA (fun r0 w H locs hw hP hD hS => ?_)
  obtain ⟨hr0, ad3, rfl⟩ := hw
  replace hr0 : k = r0 := hr0.symm
  subst hr0
  refine W.widen (k := cells + 12) (n := slots + 384) (by omega) (by omega) ?_
  refine lv_istore (lv' := [(5, .int k), (0, .ref b), (1, .ref (ob 0)), (2, .ref (ob2 0)), (3, .ref q), (4, .int (nI (3 * n + 1)))]) hx hb d_law_468 hl (by decide) rfl (fun ls hl => ?_)
  refine lv_aload_n hx hb d_law_470 rfl (lv_at hl 3 rfl) ?_
  refine lv_aload_n hx hb d_law_471 rfl (lv_at hl 1 rfl) ?_
  refine lv_iload hx hb d_law_472 (lv_at hl 5 rfl) ?_
  refine lv_iconst (v := 1) hx hb d_law_474 (by decide) ?_
  refine lv_iadd hx hb d_law_475 ?_
  refine lw_ld (j := 3 * n + 2) C0 hS (nI_1 _) (by omega) hL d_law_476 ?_
  have hP := P_perm List.perm_append_comm hP
  have hD := D_perm List.perm_append_comm hD
  refine kg_i (w0 := mw cA cP ob2 ad2 Sm) (va_runV (As := [.int (xs (3 * n + 2))]) (rest := []) ⟨hx, hb, hml, hown, hts⟩ (c_Md_corner l D cA cP ob2 ad2 (xs (3 * n + 2)) Sm e2 H.size) ⟨callB_of 1 hts (gd_Md_corner) rfl rfl rfl (hts _ (List.mem_cons_of_mem _ wd_72)) (hts _ (List.mem_cons_of_mem _ wd_1028)) dd_Md_corner ⟨(Nat.le_of_ble_eq_true rfl), (Nat.le_of_ble_eq_true rfl)⟩, (hts _ (List.mem_cons_of_mem _ wd_1029)), (hts _ (List.mem_cons_of_mem _ wd_1030))⟩ (kpV hK2 (P_front hP) (D_front hD) hN hZ hS 7 0 rfl rfl) rfl rfl hl.1 rfl (lv_room (Nat.le_of_ble_eq_true rfl)) d_law_477 ⟨by show _ ≤ 601024; omega, by show _ ≤ 7293000; omega⟩) hP hD hS hA (fun r0 w H locs hw hP hD hS => ?_)
  obtain ⟨hr0, rfl⟩ := hw
  replace hr0 : r = r0 := hr0.symm
  subst hr0
  have hP := P_perm List.perm_append_comm hP
  have hD := D_perm List.perm_append_comm hD
  refine lv_istore (lv' := [(6, .int r), (5, .int k), (0, .ref b), (1, .ref (ob 0)), (2, .ref (ob2 0)), (3, .ref q), (4, .int (nI (3 * n + 1)))]) hx hb d_law_480 hl (by decide) rfl (fun ls hl => ?_)
  refine lv_aload_n hx hb d_law_482 rfl (lv_at hl 4 rfl) ?_
  have hP := P_perm List.perm_append_comm hP
  have hD := D_perm List.perm_append_comm hD
  refine kg_i (w0 := mw cA cP ob2 ad2 Sm') (va_runV (As := []) (rest := []) ⟨hx, hb, hml, hown, hts⟩ (c_Md_thrown l D cA cP ob2 ad2  Sm' e3 H.size) ⟨callB_of 0 hts (gd_Md_thrown) rfl rfl rfl (hts _ (List.mem_cons_of_mem _ wd_72)) (hts _ (List.mem_cons_of_mem _ wd_901)) dd_Md_thrown ⟨(Nat.le_of_ble_eq_true rfl), (Nat.le_of_ble_eq_true rfl)⟩, (hts _ (List.mem_cons_of_mem _ wd_902)), (hts _ (List.mem_cons_of_mem _ wd_903))⟩ (kpV hK2 (P_front hP) (D_front hD) hN hZ hS 7 0 rfl rfl) rfl rfl hl.1 rfl (lv_room (Nat.le_of_ble_eq_true rfl)) d_law_483 ⟨by show _ ≤ 601024; omega, by show _ ≤ 7293000; omega⟩) hP hD hS hA (fun r0 w H locs hw hP hD hS => ?_)
  obtain ⟨hr0, rfl⟩ := hw
  replace hr0 : k = r0 := hr0.symm
  subst hr0
  have hP := P_perm List.perm_append_comm hP
  have hD := D_perm List.perm_append_comm hD
  refine lv_iload hx hb d_law_486 (lv_at hl 1 rfl) ?_
  refine lv_icmp_eq (tgt := 493) hx hb d_law_488 (by decide) (fun _ => ?_) (fun h => absurd rfl h)
  refine lv_iload hx hb d_law_493 (lv_at hl 1 rfl) ?_
  refine lv_if_ne (tgt := 510) hx hb d_law_495 (by decide) (fun hk => ?_) (fun hk => ?_)
  · skip
    refine lv_goto (tgt := 822) hx hb d_law_510 (by decide) ?_
    exact kend _ _ _ _ hP hD hS (lv_sub hl [2, 3, 4, 5, 6] rfl)
  refine lv_aload_n hx hb d_law_498 rfl (lv_at hl 5 rfl) ?_
  refine lv_iconst (v := 0) hx hb d_law_499 (by decide) ?_
  refine va_lald hx hb hK hP (cw cA cP ob ad3 Sc').length 2 (get_mid _ _ _) rfl (inb_in (show inb 0 1 = true by decide)) d_law_500 ?_
  refine lv_iload hx hb d_law_501 (lv_at hl 0 rfl) ?_
  refine lv_i2l (v := Int32.toInt64 r) hx hb d_law_503 rfl ?_
  refine lw_lcmp hx hb (e4 hk) d_law_504 ?_
  refine lv_if_eq (tgt := 510) hx hb d_law_505 (by decide) (fun _ => ?_) (fun h => absurd rfl h)
  refine lv_goto (tgt := 822) hx hb d_law_510 (by decide) ?_
  exact kend _ _ _ _ hP hD hS (lv_sub hl [2, 3, 4, 5, 6] rfl)
set_option maxHeartbeats 4000000 in
set_option maxRecDepth 100000 in
theorem lc_locate {p : Program} {l : Launch} {e : Env} {s : State} {m : MethodId} {below : List Frame} {meth : Method} {c : Code} {H : Heap} {locs : List Loc} {cells slots : Nat} {Q : State → Prop} {ls : Array Slot} {D : va_G} {cA cP cL : ClassId} {b L : Nat} {xs : Nat → Int32} {ob ob2 : Nat → Nat} {ad ad2 : Nat → Nat → Nat} {q n : Nat} {Sc Sc' Sm Sm' : St} {v v' : Nat → Int64} {k : Int32} {r : Int32} (hl0 : l.flags = pinnedFlags ++ [noTraceFlag]) (C0 : LC p s m c b L xs D cA cP cL) (hL : L ≤ 1537) (hn : 3 * n + 4 ≤ L) (e1 : h_locate (xs (3 * n + 2)) (xs (3 * n + 3)) v Sc = some (k, v', Sc')) (e2 : f_Md_locate (xs (3 * n + 2)) (xs (3 * n + 3)) Sm = some (r, Sm')) (e3 : f_Md_thrown Sm' = some (k, Sm')) (e4 : k = 0 → v' (Int32.toNatClampNeg 0) = Int32.toInt64 r) (hc : cells + 12 ≤ 601024) (hs : slots + 384 ≤ 7293000) (hP : va_P D clC (lw cA cP cL ob ad ob2 ad2 q Sc v Sm) H) (hD : va_D (va_A [] s.heap.size) (lw cA cP cL ob ad ob2 ad2 q Sc v Sm)) (hS : va_S (va_A [] s.heap.size) s.heap H locs) (hl : lv_has ls 8 [(0, .ref b), (1, .ref (ob 0)), (2, .ref (ob2 0)), (3, .ref q), (4, .int (nI (3 * n + 1)))])
    (kend : ∀ (ad : Nat → Nat → Nat) (H : Heap) (locs : List Loc) (ls : Array Slot), va_P D clC (lw cA cP cL ob ad ob2 ad2 q Sc' v' Sm') H → va_D (va_A [] s.heap.size) (lw cA cP cL ob ad ob2 ad2 q Sc' v' Sm') → va_S (va_A [] s.heap.size) s.heap H locs → lv_has ls 8 [(0, .ref b), (1, .ref (ob 0)), (2, .ref (ob2 0)), (3, .ref q), (4, .int (nI (3 * n + 1)))] → W p l e room_1 s m #[Value.ref b] below meth c H locs (cells + 12) (slots + 384) Q (F0 m 822 ls [])) :
    W p l e room_1 s m #[Value.ref b] below meth c H locs cells slots Q (F0 m 513 ls []) := by
  have hA : ∀ q : Nat, s.heap.size ≤ q → va_A [] s.heap.size q := fun q h => Or.inr h
  obtain ⟨hx, hb, hml, hown, hts, hK, hN, hZ, hNC, hX, hbl⟩ := id C0
  have hK2 : va_K D clC (TY cA cP) s := hK.sub [0, 1] rfl
  refine lv_aload_n hx hb d_law_513 rfl (lv_at hl 1 rfl) ?_
  refine lv_aload_n hx hb d_law_514 rfl (lv_at hl 0 rfl) ?_
  refine lv_iload hx hb d_law_515 (lv_at hl 4 rfl) ?_
  refine lv_iconst (v := 1) hx hb d_law_517 (by decide) ?_
  refine lv_iadd hx hb d_law_518 ?_
  refine lw_ld (j := 3 * n + 2) C0 hS (nI_1 _) (by omega) hL d_law_519 ?_
  refine lv_aload_n hx hb d_law_520 rfl (lv_at hl 0 rfl) ?_
  refine lv_iload hx hb d_law_521 (lv_at hl 4 rfl) ?_
  refine lv_iconst (v := 2) hx hb d_law_523 (by decide) ?_
  refine lv_iadd hx hb d_law_524 ?_
  refine lw_ld (j := 3 * n + 3) C0 hS (nI_2 _) (by omega) hL d_law_525 ?_
  refine lv_aload_n hx hb d_law_526 rfl (lv_at hl 3 rfl) ?_
  refine kg_i (w0 := cw cA cP ob ad Sc ++ [oc cL q v]) (runSW (hh := [(0, 10, 13, 13)]) (bytes := b_Lw_locate) (maxL := 5) (ret := some .int) (As := [.ref (ob 0), .int (xs (3 * n + 2)), .int (xs (3 * n + 3)), .ref q]) (rest := []) ⟨hx, hb, hml, hown, hts⟩ (c_Lw_locate l hl0 D cA cP cL ob ad q (xs (3 * n + 2)) (xs (3 * n + 3)) v Sc e1 H.size) rfl rfl (Nat.le_of_ble_eq_true rfl) (Nat.le_of_ble_eq_true rfl) gd_Lw_locate List.mem_cons_self (hts _ (List.mem_cons_of_mem _ wd_63)) ⟨dd_Lw_locate.1, dd_Lw_locate.2.1⟩ dd_Lw_locate.2.2 (hts _ (List.mem_cons_of_mem _ wd_768)) (hts _ (List.mem_cons_of_mem _ wd_769)) (kpH hK (P_front hP) (D_front hD) hN hZ hS hNC) rfl rfl hl.1 rfl (lv_room (Nat.le_of_ble_eq_true rfl)) d_law_527 ⟨by show _ ≤ 601024; omega, by show _ ≤ 7293000; omega⟩) hP hD hS hA (fun r0 w H locs hw hP hD hS => ?_)
  obtain ⟨hr0, ad3, rfl⟩ := hw
  replace hr0 : k = r0 := hr0.symm
  subst hr0
  refine W.widen (k := cells + 12) (n := slots + 384) (by omega) (by omega) ?_
  refine lv_istore (lv' := [(5, .int k), (0, .ref b), (1, .ref (ob 0)), (2, .ref (ob2 0)), (3, .ref q), (4, .int (nI (3 * n + 1)))]) hx hb d_law_530 hl (by decide) rfl (fun ls hl => ?_)
  refine lv_aload_n hx hb d_law_532 rfl (lv_at hl 3 rfl) ?_
  refine lv_aload_n hx hb d_law_533 rfl (lv_at hl 1 rfl) ?_
  refine lv_iload hx hb d_law_534 (lv_at hl 5 rfl) ?_
  refine lv_iconst (v := 1) hx hb d_law_536 (by decide) ?_
  refine lv_iadd hx hb d_law_537 ?_
  refine lw_ld (j := 3 * n + 2) C0 hS (nI_1 _) (by omega) hL d_law_538 ?_
  refine lv_aload_n hx hb d_law_539 rfl (lv_at hl 1 rfl) ?_
  refine lv_iload hx hb d_law_540 (lv_at hl 5 rfl) ?_
  refine lv_iconst (v := 2) hx hb d_law_542 (by decide) ?_
  refine lv_iadd hx hb d_law_543 ?_
  refine lw_ld (j := 3 * n + 3) C0 hS (nI_2 _) (by omega) hL d_law_544 ?_
  have hP := P_perm List.perm_append_comm hP
  have hD := D_perm List.perm_append_comm hD
  refine kg_i (w0 := mw cA cP ob2 ad2 Sm) (va_runV (As := [.int (xs (3 * n + 2)), .int (xs (3 * n + 3))]) (rest := []) ⟨hx, hb, hml, hown, hts⟩ (c_Md_locate l D cA cP ob2 ad2 (xs (3 * n + 2)) (xs (3 * n + 3)) Sm e2 H.size) ⟨callB_of 2 hts (gd_Md_locate) rfl rfl rfl (hts _ (List.mem_cons_of_mem _ wd_72)) (hts _ (List.mem_cons_of_mem _ wd_1060)) dd_Md_locate ⟨(Nat.le_of_ble_eq_true rfl), (Nat.le_of_ble_eq_true rfl)⟩, (hts _ (List.mem_cons_of_mem _ wd_1061)), (hts _ (List.mem_cons_of_mem _ wd_1062))⟩ (kpV hK2 (P_front hP) (D_front hD) hN hZ hS 7 0 rfl rfl) rfl rfl hl.1 rfl (lv_room (Nat.le_of_ble_eq_true rfl)) d_law_545 ⟨by show _ ≤ 601024; omega, by show _ ≤ 7293000; omega⟩) hP hD hS hA (fun r0 w H locs hw hP hD hS => ?_)
  obtain ⟨hr0, rfl⟩ := hw
  replace hr0 : r = r0 := hr0.symm
  subst hr0
  have hP := P_perm List.perm_append_comm hP
  have hD := D_perm List.perm_append_comm hD
  refine lv_istore (lv' := [(6, .int r), (5, .int k), (0, .ref b), (1, .ref (ob 0)), (2, .ref (ob2 0)), (3, .ref q), (4, .int (nI (3 * n + 1)))]) hx hb d_law_548 hl (by decide) rfl (fun ls hl => ?_)
  refine lv_aload_n hx hb d_law_550 rfl (lv_at hl 4 rfl) ?_
  have hP := P_perm List.perm_append_comm hP
  have hD := D_perm List.perm_append_comm hD
  refine kg_i (w0 := mw cA cP ob2 ad2 Sm') (va_runV (As := []) (rest := []) ⟨hx, hb, hml, hown, hts⟩ (c_Md_thrown l D cA cP ob2 ad2  Sm' e3 H.size) ⟨callB_of 0 hts (gd_Md_thrown) rfl rfl rfl (hts _ (List.mem_cons_of_mem _ wd_72)) (hts _ (List.mem_cons_of_mem _ wd_901)) dd_Md_thrown ⟨(Nat.le_of_ble_eq_true rfl), (Nat.le_of_ble_eq_true rfl)⟩, (hts _ (List.mem_cons_of_mem _ wd_902)), (hts _ (List.mem_cons_of_mem _ wd_903))⟩ (kpV hK2 (P_front hP) (D_front hD) hN hZ hS 7 0 rfl rfl) rfl rfl hl.1 rfl (lv_room (Nat.le_of_ble_eq_true rfl)) d_law_551 ⟨by show _ ≤ 601024; omega, by show _ ≤ 7293000; omega⟩) hP hD hS hA (fun r0 w H locs hw hP hD hS => ?_)
  obtain ⟨hr0, rfl⟩ := hw
  replace hr0 : k = r0 := hr0.symm
  subst hr0
  have hP := P_perm List.perm_append_comm hP
  have hD := D_perm List.perm_append_comm hD
  refine lv_iload hx hb d_law_554 (lv_at hl 1 rfl) ?_
  refine lv_icmp_eq (tgt := 561) hx hb d_law_556 (by decide) (fun _ => ?_) (fun h => absurd rfl h)
  refine lv_iload hx hb d_law_561 (lv_at hl 1 rfl) ?_
  refine lv_if_ne (tgt := 578) hx hb d_law_563 (by decide) (fun hk => ?_) (fun hk => ?_)
  · skip
    refine lv_goto (tgt := 822) hx hb d_law_578 (by decide) ?_
    exact kend _ _ _ _ hP hD hS (lv_sub hl [2, 3, 4, 5, 6] rfl)
  refine lv_aload_n hx hb d_law_566 rfl (lv_at hl 5 rfl) ?_
  refine lv_iconst (v := 0) hx hb d_law_567 (by decide) ?_
  refine va_lald hx hb hK hP (cw cA cP ob ad3 Sc').length 2 (get_mid _ _ _) rfl (inb_in (show inb 0 1 = true by decide)) d_law_568 ?_
  refine lv_iload hx hb d_law_569 (lv_at hl 0 rfl) ?_
  refine lv_i2l (v := Int32.toInt64 r) hx hb d_law_571 rfl ?_
  refine lw_lcmp hx hb (e4 hk) d_law_572 ?_
  refine lv_if_eq (tgt := 578) hx hb d_law_573 (by decide) (fun _ => ?_) (fun h => absurd rfl h)
  refine lv_goto (tgt := 822) hx hb d_law_578 (by decide) ?_
  exact kend _ _ _ _ hP hD hS (lv_sub hl [2, 3, 4, 5, 6] rfl)
set_option maxHeartbeats 4000000 in
set_option maxRecDepth 100000 in
theorem lc_located {p : Program} {l : Launch} {e : Env} {s : State} {m : MethodId} {below : List Frame} {meth : Method} {c : Code} {H : Heap} {locs : List Loc} {cells slots : Nat} {Q : State → Prop} {ls : Array Slot} {D : va_G} {cA cP cL : ClassId} {b L : Nat} {xs : Nat → Int32} {ob ob2 : Nat → Nat} {ad ad2 : Nat → Nat → Nat} {q n : Nat} {Sc Sc' Sm Sm' : St} {v v' : Nat → Int64} {r : Int32} (hl0 : l.flags = pinnedFlags ++ [noTraceFlag]) (C0 : LC p s m c b L xs D cA cP cL) (hL : L ≤ 1537) (hn : 3 * n + 4 ≤ L) (e1 : f_Pn_located (xs (3 * n + 2)) Sc = some (r, Sc')) (e2 : f_Md_located (xs (3 * n + 2)) Sm = some (r, Sm')) (hc : cells + 12 ≤ 601024) (hs : slots + 384 ≤ 7293000) (hP : va_P D clC (lw cA cP cL ob ad ob2 ad2 q Sc v Sm) H) (hD : va_D (va_A [] s.heap.size) (lw cA cP cL ob ad ob2 ad2 q Sc v Sm)) (hS : va_S (va_A [] s.heap.size) s.heap H locs) (hl : lv_has ls 8 [(0, .ref b), (1, .ref (ob 0)), (2, .ref (ob2 0)), (3, .ref q), (4, .int (nI (3 * n + 1)))])
    (kend : ∀ (ad : Nat → Nat → Nat) (H : Heap) (locs : List Loc) (ls : Array Slot), va_P D clC (lw cA cP cL ob ad ob2 ad2 q Sc' v Sm') H → va_D (va_A [] s.heap.size) (lw cA cP cL ob ad ob2 ad2 q Sc' v Sm') → va_S (va_A [] s.heap.size) s.heap H locs → lv_has ls 8 [(0, .ref b), (1, .ref (ob 0)), (2, .ref (ob2 0)), (3, .ref q), (4, .int (nI (3 * n + 1)))] → W p l e room_1 s m #[Value.ref b] below meth c H locs (cells + 12) (slots + 384) Q (F0 m 822 ls [])) :
    W p l e room_1 s m #[Value.ref b] below meth c H locs cells slots Q (F0 m 581 ls []) := by
  have hA : ∀ q : Nat, s.heap.size ≤ q → va_A [] s.heap.size q := fun q h => Or.inr h
  obtain ⟨hx, hb, hml, hown, hts, hK, hN, hZ, hNC, hX, hbl⟩ := id C0
  have hK2 : va_K D clC (TY cA cP) s := hK.sub [0, 1] rfl
  refine lv_aload_n hx hb d_law_581 rfl (lv_at hl 1 rfl) ?_
  refine lv_aload_n hx hb d_law_582 rfl (lv_at hl 0 rfl) ?_
  refine lv_iload hx hb d_law_583 (lv_at hl 4 rfl) ?_
  refine lv_iconst (v := 1) hx hb d_law_585 (by decide) ?_
  refine lv_iadd hx hb d_law_586 ?_
  refine lw_ld (j := 3 * n + 2) C0 hS (nI_1 _) (by omega) hL d_law_587 ?_
  rw [lw, List.append_assoc] at hP hD
  refine kg_i (w0 := cw cA cP ob ad Sc) (va_runV (As := [.int (xs (3 * n + 2))]) (rest := []) ⟨hx, hb, hml, hown, hts⟩ (c_Pn_located l D cA cP ob ad (xs (3 * n + 2)) Sc e1 H.size) ⟨callB_of 1 hts (gd_Pn_located) rfl rfl rfl (hts _ (List.mem_cons_of_mem _ wd_64)) (hts _ (List.mem_cons_of_mem _ wd_302)) dd_Pn_located ⟨(Nat.le_of_ble_eq_true rfl), (Nat.le_of_ble_eq_true rfl)⟩, (hts _ (List.mem_cons_of_mem _ wd_303)), (hts _ (List.mem_cons_of_mem _ wd_304))⟩ (kpV hK2 (P_front hP) (D_front hD) hN hZ hS 0 0 rfl rfl) rfl rfl hl.1 rfl (lv_room (Nat.le_of_ble_eq_true rfl)) d_law_588 ⟨by show _ ≤ 601024; omega, by show _ ≤ 7293000; omega⟩) hP hD hS hA (fun r0 w H locs hw hP hD hS => ?_)
  obtain ⟨hr0, rfl⟩ := hw
  replace hr0 : r = r0 := hr0.symm
  subst hr0
  rw [← List.append_assoc] at hP hD
  refine lv_aload_n hx hb d_law_591 rfl (lv_at hl 2 rfl) ?_
  refine lv_aload_n hx hb d_law_592 rfl (lv_at hl 0 rfl) ?_
  refine lv_iload hx hb d_law_593 (lv_at hl 4 rfl) ?_
  refine lv_iconst (v := 1) hx hb d_law_595 (by decide) ?_
  refine lv_iadd hx hb d_law_596 ?_
  refine lw_ld (j := 3 * n + 2) C0 hS (nI_1 _) (by omega) hL d_law_597 ?_
  have hP := P_perm List.perm_append_comm hP
  have hD := D_perm List.perm_append_comm hD
  refine kg_i (w0 := mw cA cP ob2 ad2 Sm) (va_runV (As := [.int (xs (3 * n + 2))]) (rest := [.int r]) ⟨hx, hb, hml, hown, hts⟩ (c_Md_located l D cA cP ob2 ad2 (xs (3 * n + 2)) Sm e2 H.size) ⟨callB_of 1 hts (gd_Md_located) rfl rfl rfl (hts _ (List.mem_cons_of_mem _ wd_72)) (hts _ (List.mem_cons_of_mem _ wd_1068)) dd_Md_located ⟨(Nat.le_of_ble_eq_true rfl), (Nat.le_of_ble_eq_true rfl)⟩, (hts _ (List.mem_cons_of_mem _ wd_1069)), (hts _ (List.mem_cons_of_mem _ wd_1070))⟩ (kpV hK2 (P_front hP) (D_front hD) hN hZ hS 7 0 rfl rfl) rfl rfl hl.1 rfl (lv_room (Nat.le_of_ble_eq_true rfl)) d_law_598 ⟨by show _ ≤ 601024; omega, by show _ ≤ 7293000; omega⟩) hP hD hS hA (fun r0 w H locs hw hP hD hS => ?_)
  obtain ⟨hr0, rfl⟩ := hw
  replace hr0 : r = r0 := hr0.symm
  subst hr0
  have hP := P_perm List.perm_append_comm hP
  have hD := D_perm List.perm_append_comm hD
  refine lv_icmp_eq (tgt := 822) hx hb d_law_601 (by decide) (fun _ => ?_) (fun h => absurd rfl h)
  refine W.widen (k := cells + 12) (n := slots + 384) (by omega) (by omega) ?_
  exact kend _ _ _ _ hP hD hS (lv_sub hl [0, 1, 2, 3, 4] rfl)
set_option maxHeartbeats 4000000 in
set_option maxRecDepth 100000 in
theorem lc_nearest {p : Program} {l : Launch} {e : Env} {s : State} {m : MethodId} {below : List Frame} {meth : Method} {c : Code} {H : Heap} {locs : List Loc} {cells slots : Nat} {Q : State → Prop} {ls : Array Slot} {D : va_G} {cA cP cL : ClassId} {b L : Nat} {xs : Nat → Int32} {ob ob2 : Nat → Nat} {ad ad2 : Nat → Nat → Nat} {q n : Nat} {Sc Sc' Sm Sm' : St} {v v' : Nat → Int64} {k : Int32} {r : Int32} (hl0 : l.flags = pinnedFlags ++ [noTraceFlag]) (C0 : LC p s m c b L xs D cA cP cL) (hL : L ≤ 1537) (hn : 3 * n + 4 ≤ L) (e1 : h_nearest (xs (3 * n + 2)) (xs (3 * n + 3)) v Sc = some (k, v', Sc')) (e2 : f_Md_nearest (xs (3 * n + 2)) (xs (3 * n + 3)) Sm = some (r, Sm')) (e3 : f_Md_thrown Sm' = some (k, Sm')) (e4 : k = 0 → v' (Int32.toNatClampNeg 0) = Int32.toInt64 r) (hc : cells + 12 ≤ 601024) (hs : slots + 384 ≤ 7293000) (hP : va_P D clC (lw cA cP cL ob ad ob2 ad2 q Sc v Sm) H) (hD : va_D (va_A [] s.heap.size) (lw cA cP cL ob ad ob2 ad2 q Sc v Sm)) (hS : va_S (va_A [] s.heap.size) s.heap H locs) (hl : lv_has ls 8 [(0, .ref b), (1, .ref (ob 0)), (2, .ref (ob2 0)), (3, .ref q), (4, .int (nI (3 * n + 1)))])
    (kend : ∀ (ad : Nat → Nat → Nat) (H : Heap) (locs : List Loc) (ls : Array Slot), va_P D clC (lw cA cP cL ob ad ob2 ad2 q Sc' v' Sm') H → va_D (va_A [] s.heap.size) (lw cA cP cL ob ad ob2 ad2 q Sc' v' Sm') → va_S (va_A [] s.heap.size) s.heap H locs → lv_has ls 8 [(0, .ref b), (1, .ref (ob 0)), (2, .ref (ob2 0)), (3, .ref q), (4, .int (nI (3 * n + 1)))] → W p l e room_1 s m #[Value.ref b] below meth c H locs (cells + 12) (slots + 384) Q (F0 m 822 ls [])) :
    W p l e room_1 s m #[Value.ref b] below meth c H locs cells slots Q (F0 m 606 ls []) := by
  have hA : ∀ q : Nat, s.heap.size ≤ q → va_A [] s.heap.size q := fun q h => Or.inr h
  obtain ⟨hx, hb, hml, hown, hts, hK, hN, hZ, hNC, hX, hbl⟩ := id C0
  have hK2 : va_K D clC (TY cA cP) s := hK.sub [0, 1] rfl
  refine lv_aload_n hx hb d_law_606 rfl (lv_at hl 1 rfl) ?_
  refine lv_aload_n hx hb d_law_607 rfl (lv_at hl 0 rfl) ?_
  refine lv_iload hx hb d_law_608 (lv_at hl 4 rfl) ?_
  refine lv_iconst (v := 1) hx hb d_law_610 (by decide) ?_
  refine lv_iadd hx hb d_law_611 ?_
  refine lw_ld (j := 3 * n + 2) C0 hS (nI_1 _) (by omega) hL d_law_612 ?_
  refine lv_aload_n hx hb d_law_613 rfl (lv_at hl 0 rfl) ?_
  refine lv_iload hx hb d_law_614 (lv_at hl 4 rfl) ?_
  refine lv_iconst (v := 2) hx hb d_law_616 (by decide) ?_
  refine lv_iadd hx hb d_law_617 ?_
  refine lw_ld (j := 3 * n + 3) C0 hS (nI_2 _) (by omega) hL d_law_618 ?_
  refine lv_aload_n hx hb d_law_619 rfl (lv_at hl 3 rfl) ?_
  refine kg_i (w0 := cw cA cP ob ad Sc ++ [oc cL q v]) (runSW (hh := [(0, 10, 13, 13), (0, 10, 17, 15)]) (bytes := b_Lw_nearest) (maxL := 5) (ret := some .int) (As := [.ref (ob 0), .int (xs (3 * n + 2)), .int (xs (3 * n + 3)), .ref q]) (rest := []) ⟨hx, hb, hml, hown, hts⟩ (c_Lw_nearest l hl0 D cA cP cL ob ad q (xs (3 * n + 2)) (xs (3 * n + 3)) v Sc e1 H.size) rfl rfl (Nat.le_of_ble_eq_true rfl) (Nat.le_of_ble_eq_true rfl) gd_Lw_nearest List.mem_cons_self (hts _ (List.mem_cons_of_mem _ wd_63)) ⟨dd_Lw_nearest.1, dd_Lw_nearest.2.1⟩ dd_Lw_nearest.2.2 (hts _ (List.mem_cons_of_mem _ wd_791)) (hts _ (List.mem_cons_of_mem _ wd_792)) (kpH hK (P_front hP) (D_front hD) hN hZ hS hNC) rfl rfl hl.1 rfl (lv_room (Nat.le_of_ble_eq_true rfl)) d_law_620 ⟨by show _ ≤ 601024; omega, by show _ ≤ 7293000; omega⟩) hP hD hS hA (fun r0 w H locs hw hP hD hS => ?_)
  obtain ⟨hr0, ad3, rfl⟩ := hw
  replace hr0 : k = r0 := hr0.symm
  subst hr0
  refine W.widen (k := cells + 12) (n := slots + 384) (by omega) (by omega) ?_
  refine lv_istore (lv' := [(5, .int k), (0, .ref b), (1, .ref (ob 0)), (2, .ref (ob2 0)), (3, .ref q), (4, .int (nI (3 * n + 1)))]) hx hb d_law_623 hl (by decide) rfl (fun ls hl => ?_)
  refine lv_aload_n hx hb d_law_625 rfl (lv_at hl 3 rfl) ?_
  refine lv_aload_n hx hb d_law_626 rfl (lv_at hl 1 rfl) ?_
  refine lv_iload hx hb d_law_627 (lv_at hl 5 rfl) ?_
  refine lv_iconst (v := 1) hx hb d_law_629 (by decide) ?_
  refine lv_iadd hx hb d_law_630 ?_
  refine lw_ld (j := 3 * n + 2) C0 hS (nI_1 _) (by omega) hL d_law_631 ?_
  refine lv_aload_n hx hb d_law_632 rfl (lv_at hl 1 rfl) ?_
  refine lv_iload hx hb d_law_633 (lv_at hl 5 rfl) ?_
  refine lv_iconst (v := 2) hx hb d_law_635 (by decide) ?_
  refine lv_iadd hx hb d_law_636 ?_
  refine lw_ld (j := 3 * n + 3) C0 hS (nI_2 _) (by omega) hL d_law_637 ?_
  have hP := P_perm List.perm_append_comm hP
  have hD := D_perm List.perm_append_comm hD
  refine kg_i (w0 := mw cA cP ob2 ad2 Sm) (va_runV (As := [.int (xs (3 * n + 2)), .int (xs (3 * n + 3))]) (rest := []) ⟨hx, hb, hml, hown, hts⟩ (c_Md_nearest l D cA cP ob2 ad2 (xs (3 * n + 2)) (xs (3 * n + 3)) Sm e2 H.size) ⟨callB_of 2 hts (gd_Md_nearest) rfl rfl rfl (hts _ (List.mem_cons_of_mem _ wd_72)) (hts _ (List.mem_cons_of_mem _ wd_1072)) dd_Md_nearest ⟨(Nat.le_of_ble_eq_true rfl), (Nat.le_of_ble_eq_true rfl)⟩, (hts _ (List.mem_cons_of_mem _ wd_1073)), (hts _ (List.mem_cons_of_mem _ wd_1074))⟩ (kpV hK2 (P_front hP) (D_front hD) hN hZ hS 7 0 rfl rfl) rfl rfl hl.1 rfl (lv_room (Nat.le_of_ble_eq_true rfl)) d_law_638 ⟨by show _ ≤ 601024; omega, by show _ ≤ 7293000; omega⟩) hP hD hS hA (fun r0 w H locs hw hP hD hS => ?_)
  obtain ⟨hr0, rfl⟩ := hw
  replace hr0 : r = r0 := hr0.symm
  subst hr0
  have hP := P_perm List.perm_append_comm hP
  have hD := D_perm List.perm_append_comm hD
  refine lv_istore (lv' := [(6, .int r), (5, .int k), (0, .ref b), (1, .ref (ob 0)), (2, .ref (ob2 0)), (3, .ref q), (4, .int (nI (3 * n + 1)))]) hx hb d_law_641 hl (by decide) rfl (fun ls hl => ?_)
  refine lv_aload_n hx hb d_law_643 rfl (lv_at hl 4 rfl) ?_
  have hP := P_perm List.perm_append_comm hP
  have hD := D_perm List.perm_append_comm hD
  refine kg_i (w0 := mw cA cP ob2 ad2 Sm') (va_runV (As := []) (rest := []) ⟨hx, hb, hml, hown, hts⟩ (c_Md_thrown l D cA cP ob2 ad2  Sm' e3 H.size) ⟨callB_of 0 hts (gd_Md_thrown) rfl rfl rfl (hts _ (List.mem_cons_of_mem _ wd_72)) (hts _ (List.mem_cons_of_mem _ wd_901)) dd_Md_thrown ⟨(Nat.le_of_ble_eq_true rfl), (Nat.le_of_ble_eq_true rfl)⟩, (hts _ (List.mem_cons_of_mem _ wd_902)), (hts _ (List.mem_cons_of_mem _ wd_903))⟩ (kpV hK2 (P_front hP) (D_front hD) hN hZ hS 7 0 rfl rfl) rfl rfl hl.1 rfl (lv_room (Nat.le_of_ble_eq_true rfl)) d_law_644 ⟨by show _ ≤ 601024; omega, by show _ ≤ 7293000; omega⟩) hP hD hS hA (fun r0 w H locs hw hP hD hS => ?_)
  obtain ⟨hr0, rfl⟩ := hw
  replace hr0 : k = r0 := hr0.symm
  subst hr0
  have hP := P_perm List.perm_append_comm hP
  have hD := D_perm List.perm_append_comm hD
  refine lv_iload hx hb d_law_647 (lv_at hl 1 rfl) ?_
  refine lv_icmp_eq (tgt := 654) hx hb d_law_649 (by decide) (fun _ => ?_) (fun h => absurd rfl h)
  refine lv_iload hx hb d_law_654 (lv_at hl 1 rfl) ?_
  refine lv_if_ne (tgt := 671) hx hb d_law_656 (by decide) (fun hk => ?_) (fun hk => ?_)
  · skip
    refine lv_goto (tgt := 822) hx hb d_law_671 (by decide) ?_
    exact kend _ _ _ _ hP hD hS (lv_sub hl [2, 3, 4, 5, 6] rfl)
  refine lv_aload_n hx hb d_law_659 rfl (lv_at hl 5 rfl) ?_
  refine lv_iconst (v := 0) hx hb d_law_660 (by decide) ?_
  refine va_lald hx hb hK hP (cw cA cP ob ad3 Sc').length 2 (get_mid _ _ _) rfl (inb_in (show inb 0 1 = true by decide)) d_law_661 ?_
  refine lv_iload hx hb d_law_662 (lv_at hl 0 rfl) ?_
  refine lv_i2l (v := Int32.toInt64 r) hx hb d_law_664 rfl ?_
  refine lw_lcmp hx hb (e4 hk) d_law_665 ?_
  refine lv_if_eq (tgt := 671) hx hb d_law_666 (by decide) (fun _ => ?_) (fun h => absurd rfl h)
  refine lv_goto (tgt := 822) hx hb d_law_671 (by decide) ?_
  exact kend _ _ _ _ hP hD hS (lv_sub hl [2, 3, 4, 5, 6] rfl)
set_option maxHeartbeats 4000000 in
set_option maxRecDepth 100000 in
theorem lc_closest {p : Program} {l : Launch} {e : Env} {s : State} {m : MethodId} {below : List Frame} {meth : Method} {c : Code} {H : Heap} {locs : List Loc} {cells slots : Nat} {Q : State → Prop} {ls : Array Slot} {D : va_G} {cA cP cL : ClassId} {b L : Nat} {xs : Nat → Int32} {ob ob2 : Nat → Nat} {ad ad2 : Nat → Nat → Nat} {q n : Nat} {Sc Sc' Sm Sm' : St} {v v' : Nat → Int64} {k : Int32} {r : Int64} (hl0 : l.flags = pinnedFlags ++ [noTraceFlag]) (C0 : LC p s m c b L xs D cA cP cL) (hL : L ≤ 1537) (hn : 3 * n + 4 ≤ L) (e1 : h_closest (xs (3 * n + 2)) v Sc = some (k, v', Sc')) (e2 : f_Md_closest (xs (3 * n + 2)) Sm = some (r, Sm')) (e3 : f_Md_thrown Sm' = some (k, Sm')) (e4 : k = 0 → v' (Int32.toNatClampNeg 0) = r) (hc : cells + 12 ≤ 601024) (hs : slots + 384 ≤ 7293000) (hP : va_P D clC (lw cA cP cL ob ad ob2 ad2 q Sc v Sm) H) (hD : va_D (va_A [] s.heap.size) (lw cA cP cL ob ad ob2 ad2 q Sc v Sm)) (hS : va_S (va_A [] s.heap.size) s.heap H locs) (hl : lv_has ls 8 [(0, .ref b), (1, .ref (ob 0)), (2, .ref (ob2 0)), (3, .ref q), (4, .int (nI (3 * n + 1)))])
    (kend : ∀ (ad : Nat → Nat → Nat) (H : Heap) (locs : List Loc) (ls : Array Slot), va_P D clC (lw cA cP cL ob ad ob2 ad2 q Sc' v' Sm') H → va_D (va_A [] s.heap.size) (lw cA cP cL ob ad ob2 ad2 q Sc' v' Sm') → va_S (va_A [] s.heap.size) s.heap H locs → lv_has ls 8 [(0, .ref b), (1, .ref (ob 0)), (2, .ref (ob2 0)), (3, .ref q), (4, .int (nI (3 * n + 1)))] → W p l e room_1 s m #[Value.ref b] below meth c H locs (cells + 12) (slots + 384) Q (F0 m 822 ls [])) :
    W p l e room_1 s m #[Value.ref b] below meth c H locs cells slots Q (F0 m 674 ls []) := by
  have hA : ∀ q : Nat, s.heap.size ≤ q → va_A [] s.heap.size q := fun q h => Or.inr h
  obtain ⟨hx, hb, hml, hown, hts, hK, hN, hZ, hNC, hX, hbl⟩ := id C0
  have hK2 : va_K D clC (TY cA cP) s := hK.sub [0, 1] rfl
  refine lv_aload_n hx hb d_law_674 rfl (lv_at hl 1 rfl) ?_
  refine lv_aload_n hx hb d_law_675 rfl (lv_at hl 0 rfl) ?_
  refine lv_iload hx hb d_law_676 (lv_at hl 4 rfl) ?_
  refine lv_iconst (v := 1) hx hb d_law_678 (by decide) ?_
  refine lv_iadd hx hb d_law_679 ?_
  refine lw_ld (j := 3 * n + 2) C0 hS (nI_1 _) (by omega) hL d_law_680 ?_
  refine lv_aload_n hx hb d_law_681 rfl (lv_at hl 3 rfl) ?_
  refine kg_i (w0 := cw cA cP ob ad Sc ++ [oc cL q v]) (runSW (hh := [(0, 8, 11, 23), (0, 8, 14, 15)]) (bytes := b_Lw_closest) (maxL := 4) (ret := some .int) (As := [.ref (ob 0), .int (xs (3 * n + 2)), .ref q]) (rest := []) ⟨hx, hb, hml, hown, hts⟩ (c_Lw_closest l hl0 D cA cP cL ob ad q (xs (3 * n + 2)) v Sc e1 H.size) rfl rfl (Nat.le_of_ble_eq_true rfl) (Nat.le_of_ble_eq_true rfl) gd_Lw_closest List.mem_cons_self (hts _ (List.mem_cons_of_mem _ wd_63)) ⟨dd_Lw_closest.1, dd_Lw_closest.2.1⟩ dd_Lw_closest.2.2 (hts _ (List.mem_cons_of_mem _ wd_799)) (hts _ (List.mem_cons_of_mem _ wd_800)) (kpH hK (P_front hP) (D_front hD) hN hZ hS hNC) rfl rfl hl.1 rfl (lv_room (Nat.le_of_ble_eq_true rfl)) d_law_682 ⟨by show _ ≤ 601024; omega, by show _ ≤ 7293000; omega⟩) hP hD hS hA (fun r0 w H locs hw hP hD hS => ?_)
  obtain ⟨hr0, ad3, rfl⟩ := hw
  replace hr0 : k = r0 := hr0.symm
  subst hr0
  refine W.widen (k := cells + 12) (n := slots + 384) (by omega) (by omega) ?_
  refine lv_istore (lv' := [(5, .int k), (0, .ref b), (1, .ref (ob 0)), (2, .ref (ob2 0)), (3, .ref q), (4, .int (nI (3 * n + 1)))]) hx hb d_law_685 hl (by decide) rfl (fun ls hl => ?_)
  refine lv_aload_n hx hb d_law_687 rfl (lv_at hl 3 rfl) ?_
  refine lv_aload_n hx hb d_law_688 rfl (lv_at hl 1 rfl) ?_
  refine lv_iload hx hb d_law_689 (lv_at hl 5 rfl) ?_
  refine lv_iconst (v := 1) hx hb d_law_691 (by decide) ?_
  refine lv_iadd hx hb d_law_692 ?_
  refine lw_ld (j := 3 * n + 2) C0 hS (nI_1 _) (by omega) hL d_law_693 ?_
  have hP := P_perm List.perm_append_comm hP
  have hD := D_perm List.perm_append_comm hD
  refine kg_l (w0 := mw cA cP ob2 ad2 Sm) (va_runV (As := [.int (xs (3 * n + 2))]) (rest := []) ⟨hx, hb, hml, hown, hts⟩ (c_Md_closest l D cA cP ob2 ad2 (xs (3 * n + 2)) Sm e2 H.size) ⟨callB_of 1 hts (gd_Md_closest) rfl rfl rfl (hts _ (List.mem_cons_of_mem _ wd_72)) (hts _ (List.mem_cons_of_mem _ wd_1076)) dd_Md_closest ⟨(Nat.le_of_ble_eq_true rfl), (Nat.le_of_ble_eq_true rfl)⟩, (hts _ (List.mem_cons_of_mem _ wd_1077)), (hts _ (List.mem_cons_of_mem _ wd_1078))⟩ (kpV hK2 (P_front hP) (D_front hD) hN hZ hS 7 0 rfl rfl) rfl rfl hl.1 rfl (lv_room (Nat.le_of_ble_eq_true rfl)) d_law_694 ⟨by show _ ≤ 601024; omega, by show _ ≤ 7293000; omega⟩) hP hD hS hA (fun r0 w H locs hw hP hD hS => ?_)
  obtain ⟨hr0, rfl⟩ := hw
  replace hr0 : r = r0 := hr0.symm
  subst hr0
  have hP := P_perm List.perm_append_comm hP
  have hD := D_perm List.perm_append_comm hD
  refine lv_lstore (lv' := [(6, .long r), (5, .int k), (0, .ref b), (1, .ref (ob 0)), (2, .ref (ob2 0)), (3, .ref q), (4, .int (nI (3 * n + 1)))]) hx hb d_law_697 hl (by decide) rfl (fun ls hl => ?_)
  refine lv_aload_n hx hb d_law_699 rfl (lv_at hl 4 rfl) ?_
  have hP := P_perm List.perm_append_comm hP
  have hD := D_perm List.perm_append_comm hD
  refine kg_i (w0 := mw cA cP ob2 ad2 Sm') (va_runV (As := []) (rest := []) ⟨hx, hb, hml, hown, hts⟩ (c_Md_thrown l D cA cP ob2 ad2  Sm' e3 H.size) ⟨callB_of 0 hts (gd_Md_thrown) rfl rfl rfl (hts _ (List.mem_cons_of_mem _ wd_72)) (hts _ (List.mem_cons_of_mem _ wd_901)) dd_Md_thrown ⟨(Nat.le_of_ble_eq_true rfl), (Nat.le_of_ble_eq_true rfl)⟩, (hts _ (List.mem_cons_of_mem _ wd_902)), (hts _ (List.mem_cons_of_mem _ wd_903))⟩ (kpV hK2 (P_front hP) (D_front hD) hN hZ hS 7 0 rfl rfl) rfl rfl hl.1 rfl (lv_room (Nat.le_of_ble_eq_true rfl)) d_law_700 ⟨by show _ ≤ 601024; omega, by show _ ≤ 7293000; omega⟩) hP hD hS hA (fun r0 w H locs hw hP hD hS => ?_)
  obtain ⟨hr0, rfl⟩ := hw
  replace hr0 : k = r0 := hr0.symm
  subst hr0
  have hP := P_perm List.perm_append_comm hP
  have hD := D_perm List.perm_append_comm hD
  refine lv_iload hx hb d_law_703 (lv_at hl 1 rfl) ?_
  refine lv_icmp_eq (tgt := 710) hx hb d_law_705 (by decide) (fun _ => ?_) (fun h => absurd rfl h)
  refine lv_iload hx hb d_law_710 (lv_at hl 1 rfl) ?_
  refine lv_if_ne (tgt := 726) hx hb d_law_712 (by decide) (fun hk => ?_) (fun hk => ?_)
  · skip
    refine lv_goto (tgt := 822) hx hb d_law_726 (by decide) ?_
    exact kend _ _ _ _ hP hD hS (lv_sub hl [2, 3, 4, 5, 6] rfl)
  refine lv_aload_n hx hb d_law_715 rfl (lv_at hl 5 rfl) ?_
  refine lv_iconst (v := 0) hx hb d_law_716 (by decide) ?_
  refine va_lald hx hb hK hP (cw cA cP ob ad3 Sc').length 2 (get_mid _ _ _) rfl (inb_in (show inb 0 1 = true by decide)) d_law_717 ?_
  refine lv_lload hx hb d_law_718 (lv_at hl 0 rfl) ?_
  refine lw_lcmp hx hb (e4 hk) d_law_720 ?_
  refine lv_if_eq (tgt := 726) hx hb d_law_721 (by decide) (fun _ => ?_) (fun h => absurd rfl h)
  refine lv_goto (tgt := 822) hx hb d_law_726 (by decide) ?_
  exact kend _ _ _ _ hP hD hS (lv_sub hl [2, 3, 4, 5, 6] rfl)
set_option maxHeartbeats 4000000 in
set_option maxRecDepth 100000 in
theorem lc_point {p : Program} {l : Launch} {e : Env} {s : State} {m : MethodId} {below : List Frame} {meth : Method} {c : Code} {H : Heap} {locs : List Loc} {cells slots : Nat} {Q : State → Prop} {ls : Array Slot} {D : va_G} {cA cP cL : ClassId} {b L : Nat} {xs : Nat → Int32} {ob ob2 : Nat → Nat} {ad ad2 : Nat → Nat → Nat} {q n : Nat} {Sc Sc' Sm Sm' : St} {v v' : Nat → Int64} {k : Int32} {r : Int32} (hl0 : l.flags = pinnedFlags ++ [noTraceFlag]) (C0 : LC p s m c b L xs D cA cP cL) (hL : L ≤ 1537) (hn : 3 * n + 4 ≤ L) (e1 : h_point (xs (3 * n + 2)) (xs (3 * n + 3)) v Sc = some (k, v', Sc')) (e2 : f_Md_point (xs (3 * n + 2)) (xs (3 * n + 3)) Sm = some (r, Sm')) (e3 : f_Md_thrown Sm' = some (k, Sm')) (e4 : k = 0 → v' (Int32.toNatClampNeg 0) = Int32.toInt64 r) (hc : cells + 12 ≤ 601024) (hs : slots + 384 ≤ 7293000) (hP : va_P D clC (lw cA cP cL ob ad ob2 ad2 q Sc v Sm) H) (hD : va_D (va_A [] s.heap.size) (lw cA cP cL ob ad ob2 ad2 q Sc v Sm)) (hS : va_S (va_A [] s.heap.size) s.heap H locs) (hl : lv_has ls 8 [(0, .ref b), (1, .ref (ob 0)), (2, .ref (ob2 0)), (3, .ref q), (4, .int (nI (3 * n + 1)))])
    (kend : ∀ (ad : Nat → Nat → Nat) (H : Heap) (locs : List Loc) (ls : Array Slot), va_P D clC (lw cA cP cL ob ad ob2 ad2 q Sc' v' Sm') H → va_D (va_A [] s.heap.size) (lw cA cP cL ob ad ob2 ad2 q Sc' v' Sm') → va_S (va_A [] s.heap.size) s.heap H locs → lv_has ls 8 [(0, .ref b), (1, .ref (ob 0)), (2, .ref (ob2 0)), (3, .ref q), (4, .int (nI (3 * n + 1)))] → W p l e room_1 s m #[Value.ref b] below meth c H locs (cells + 12) (slots + 384) Q (F0 m 822 ls [])) :
    W p l e room_1 s m #[Value.ref b] below meth c H locs cells slots Q (F0 m 729 ls []) := by
  have hA : ∀ q : Nat, s.heap.size ≤ q → va_A [] s.heap.size q := fun q h => Or.inr h
  obtain ⟨hx, hb, hml, hown, hts, hK, hN, hZ, hNC, hX, hbl⟩ := id C0
  have hK2 : va_K D clC (TY cA cP) s := hK.sub [0, 1] rfl
  refine lv_aload_n hx hb d_law_729 rfl (lv_at hl 1 rfl) ?_
  refine lv_aload_n hx hb d_law_730 rfl (lv_at hl 0 rfl) ?_
  refine lv_iload hx hb d_law_731 (lv_at hl 4 rfl) ?_
  refine lv_iconst (v := 1) hx hb d_law_733 (by decide) ?_
  refine lv_iadd hx hb d_law_734 ?_
  refine lw_ld (j := 3 * n + 2) C0 hS (nI_1 _) (by omega) hL d_law_735 ?_
  refine lv_aload_n hx hb d_law_736 rfl (lv_at hl 0 rfl) ?_
  refine lv_iload hx hb d_law_737 (lv_at hl 4 rfl) ?_
  refine lv_iconst (v := 2) hx hb d_law_739 (by decide) ?_
  refine lv_iadd hx hb d_law_740 ?_
  refine lw_ld (j := 3 * n + 3) C0 hS (nI_2 _) (by omega) hL d_law_741 ?_
  refine lv_aload_n hx hb d_law_742 rfl (lv_at hl 3 rfl) ?_
  refine kg_i (w0 := cw cA cP ob ad Sc ++ [oc cL q v]) (runSW (hh := [(0, 10, 13, 23)]) (bytes := b_Lw_point) (maxL := 5) (ret := some .int) (As := [.ref (ob 0), .int (xs (3 * n + 2)), .int (xs (3 * n + 3)), .ref q]) (rest := []) ⟨hx, hb, hml, hown, hts⟩ (c_Lw_point l hl0 D cA cP cL ob ad q (xs (3 * n + 2)) (xs (3 * n + 3)) v Sc e1 H.size) rfl rfl (Nat.le_of_ble_eq_true rfl) (Nat.le_of_ble_eq_true rfl) gd_Lw_point List.mem_cons_self (hts _ (List.mem_cons_of_mem _ wd_63)) ⟨dd_Lw_point.1, dd_Lw_point.2.1⟩ dd_Lw_point.2.2 (hts _ (List.mem_cons_of_mem _ wd_808)) (hts _ (List.mem_cons_of_mem _ wd_809)) (kpH hK (P_front hP) (D_front hD) hN hZ hS hNC) rfl rfl hl.1 rfl (lv_room (Nat.le_of_ble_eq_true rfl)) d_law_743 ⟨by show _ ≤ 601024; omega, by show _ ≤ 7293000; omega⟩) hP hD hS hA (fun r0 w H locs hw hP hD hS => ?_)
  obtain ⟨hr0, ad3, rfl⟩ := hw
  replace hr0 : k = r0 := hr0.symm
  subst hr0
  refine W.widen (k := cells + 12) (n := slots + 384) (by omega) (by omega) ?_
  refine lv_istore (lv' := [(5, .int k), (0, .ref b), (1, .ref (ob 0)), (2, .ref (ob2 0)), (3, .ref q), (4, .int (nI (3 * n + 1)))]) hx hb d_law_746 hl (by decide) rfl (fun ls hl => ?_)
  refine lv_aload_n hx hb d_law_748 rfl (lv_at hl 3 rfl) ?_
  refine lv_aload_n hx hb d_law_749 rfl (lv_at hl 1 rfl) ?_
  refine lv_iload hx hb d_law_750 (lv_at hl 5 rfl) ?_
  refine lv_iconst (v := 1) hx hb d_law_752 (by decide) ?_
  refine lv_iadd hx hb d_law_753 ?_
  refine lw_ld (j := 3 * n + 2) C0 hS (nI_1 _) (by omega) hL d_law_754 ?_
  refine lv_aload_n hx hb d_law_755 rfl (lv_at hl 1 rfl) ?_
  refine lv_iload hx hb d_law_756 (lv_at hl 5 rfl) ?_
  refine lv_iconst (v := 2) hx hb d_law_758 (by decide) ?_
  refine lv_iadd hx hb d_law_759 ?_
  refine lw_ld (j := 3 * n + 3) C0 hS (nI_2 _) (by omega) hL d_law_760 ?_
  have hP := P_perm List.perm_append_comm hP
  have hD := D_perm List.perm_append_comm hD
  refine kg_i (w0 := mw cA cP ob2 ad2 Sm) (va_runV (As := [.int (xs (3 * n + 2)), .int (xs (3 * n + 3))]) (rest := []) ⟨hx, hb, hml, hown, hts⟩ (c_Md_point l D cA cP ob2 ad2 (xs (3 * n + 2)) (xs (3 * n + 3)) Sm e2 H.size) ⟨callB_of 2 hts (gd_Md_point) rfl rfl rfl (hts _ (List.mem_cons_of_mem _ wd_72)) (hts _ (List.mem_cons_of_mem _ wd_1080)) dd_Md_point ⟨(Nat.le_of_ble_eq_true rfl), (Nat.le_of_ble_eq_true rfl)⟩, (hts _ (List.mem_cons_of_mem _ wd_1081)), (hts _ (List.mem_cons_of_mem _ wd_1082))⟩ (kpV hK2 (P_front hP) (D_front hD) hN hZ hS 7 0 rfl rfl) rfl rfl hl.1 rfl (lv_room (Nat.le_of_ble_eq_true rfl)) d_law_761 ⟨by show _ ≤ 601024; omega, by show _ ≤ 7293000; omega⟩) hP hD hS hA (fun r0 w H locs hw hP hD hS => ?_)
  obtain ⟨hr0, rfl⟩ := hw
  replace hr0 : r = r0 := hr0.symm
  subst hr0
  have hP := P_perm List.perm_append_comm hP
  have hD := D_perm List.perm_append_comm hD
  refine lv_istore (lv' := [(6, .int r), (5, .int k), (0, .ref b), (1, .ref (ob 0)), (2, .ref (ob2 0)), (3, .ref q), (4, .int (nI (3 * n + 1)))]) hx hb d_law_764 hl (by decide) rfl (fun ls hl => ?_)
  refine lv_aload_n hx hb d_law_766 rfl (lv_at hl 4 rfl) ?_
  have hP := P_perm List.perm_append_comm hP
  have hD := D_perm List.perm_append_comm hD
  refine kg_i (w0 := mw cA cP ob2 ad2 Sm') (va_runV (As := []) (rest := []) ⟨hx, hb, hml, hown, hts⟩ (c_Md_thrown l D cA cP ob2 ad2  Sm' e3 H.size) ⟨callB_of 0 hts (gd_Md_thrown) rfl rfl rfl (hts _ (List.mem_cons_of_mem _ wd_72)) (hts _ (List.mem_cons_of_mem _ wd_901)) dd_Md_thrown ⟨(Nat.le_of_ble_eq_true rfl), (Nat.le_of_ble_eq_true rfl)⟩, (hts _ (List.mem_cons_of_mem _ wd_902)), (hts _ (List.mem_cons_of_mem _ wd_903))⟩ (kpV hK2 (P_front hP) (D_front hD) hN hZ hS 7 0 rfl rfl) rfl rfl hl.1 rfl (lv_room (Nat.le_of_ble_eq_true rfl)) d_law_767 ⟨by show _ ≤ 601024; omega, by show _ ≤ 7293000; omega⟩) hP hD hS hA (fun r0 w H locs hw hP hD hS => ?_)
  obtain ⟨hr0, rfl⟩ := hw
  replace hr0 : k = r0 := hr0.symm
  subst hr0
  have hP := P_perm List.perm_append_comm hP
  have hD := D_perm List.perm_append_comm hD
  refine lv_iload hx hb d_law_770 (lv_at hl 1 rfl) ?_
  refine lv_icmp_eq (tgt := 777) hx hb d_law_772 (by decide) (fun _ => ?_) (fun h => absurd rfl h)
  refine lv_iload hx hb d_law_777 (lv_at hl 1 rfl) ?_
  refine lv_if_ne (tgt := 794) hx hb d_law_779 (by decide) (fun hk => ?_) (fun hk => ?_)
  · skip
    refine lv_goto (tgt := 822) hx hb d_law_794 (by decide) ?_
    exact kend _ _ _ _ hP hD hS (lv_sub hl [2, 3, 4, 5, 6] rfl)
  refine lv_aload_n hx hb d_law_782 rfl (lv_at hl 5 rfl) ?_
  refine lv_iconst (v := 0) hx hb d_law_783 (by decide) ?_
  refine va_lald hx hb hK hP (cw cA cP ob ad3 Sc').length 2 (get_mid _ _ _) rfl (inb_in (show inb 0 1 = true by decide)) d_law_784 ?_
  refine lv_iload hx hb d_law_785 (lv_at hl 0 rfl) ?_
  refine lv_i2l (v := Int32.toInt64 r) hx hb d_law_787 rfl ?_
  refine lw_lcmp hx hb (e4 hk) d_law_788 ?_
  refine lv_if_eq (tgt := 794) hx hb d_law_789 (by decide) (fun _ => ?_) (fun h => absurd rfl h)
  refine lv_goto (tgt := 822) hx hb d_law_794 (by decide) ?_
  exact kend _ _ _ _ hP hD hS (lv_sub hl [2, 3, 4, 5, 6] rfl)
set_option maxHeartbeats 4000000 in
set_option maxRecDepth 100000 in
theorem lc_count {p : Program} {l : Launch} {e : Env} {s : State} {m : MethodId} {below : List Frame} {meth : Method} {c : Code} {H : Heap} {locs : List Loc} {cells slots : Nat} {Q : State → Prop} {ls : Array Slot} {D : va_G} {cA cP cL : ClassId} {b L : Nat} {xs : Nat → Int32} {ob ob2 : Nat → Nat} {ad ad2 : Nat → Nat → Nat} {q n : Nat} {Sc Sc' Sm Sm' : St} {v v' : Nat → Int64} {r : Int32} (hl0 : l.flags = pinnedFlags ++ [noTraceFlag]) (C0 : LC p s m c b L xs D cA cP cL) (hL : L ≤ 1537) (hn : 3 * n + 4 ≤ L) (e1 : f_Pn_count (xs (3 * n + 2)) Sc = some (r, Sc')) (e2 : f_Md_count (xs (3 * n + 2)) Sm = some (r, Sm')) (hc : cells + 12 ≤ 601024) (hs : slots + 384 ≤ 7293000) (hP : va_P D clC (lw cA cP cL ob ad ob2 ad2 q Sc v Sm) H) (hD : va_D (va_A [] s.heap.size) (lw cA cP cL ob ad ob2 ad2 q Sc v Sm)) (hS : va_S (va_A [] s.heap.size) s.heap H locs) (hl : lv_has ls 8 [(0, .ref b), (1, .ref (ob 0)), (2, .ref (ob2 0)), (3, .ref q), (4, .int (nI (3 * n + 1)))])
    (kend : ∀ (ad : Nat → Nat → Nat) (H : Heap) (locs : List Loc) (ls : Array Slot), va_P D clC (lw cA cP cL ob ad ob2 ad2 q Sc' v Sm') H → va_D (va_A [] s.heap.size) (lw cA cP cL ob ad ob2 ad2 q Sc' v Sm') → va_S (va_A [] s.heap.size) s.heap H locs → lv_has ls 8 [(0, .ref b), (1, .ref (ob 0)), (2, .ref (ob2 0)), (3, .ref q), (4, .int (nI (3 * n + 1)))] → W p l e room_1 s m #[Value.ref b] below meth c H locs (cells + 12) (slots + 384) Q (F0 m 822 ls [])) :
    W p l e room_1 s m #[Value.ref b] below meth c H locs cells slots Q (F0 m 797 ls []) := by
  have hA : ∀ q : Nat, s.heap.size ≤ q → va_A [] s.heap.size q := fun q h => Or.inr h
  obtain ⟨hx, hb, hml, hown, hts, hK, hN, hZ, hNC, hX, hbl⟩ := id C0
  have hK2 : va_K D clC (TY cA cP) s := hK.sub [0, 1] rfl
  refine lv_aload_n hx hb d_law_797 rfl (lv_at hl 1 rfl) ?_
  refine lv_aload_n hx hb d_law_798 rfl (lv_at hl 0 rfl) ?_
  refine lv_iload hx hb d_law_799 (lv_at hl 4 rfl) ?_
  refine lv_iconst (v := 1) hx hb d_law_801 (by decide) ?_
  refine lv_iadd hx hb d_law_802 ?_
  refine lw_ld (j := 3 * n + 2) C0 hS (nI_1 _) (by omega) hL d_law_803 ?_
  rw [lw, List.append_assoc] at hP hD
  refine kg_i (w0 := cw cA cP ob ad Sc) (va_runV (As := [.int (xs (3 * n + 2))]) (rest := []) ⟨hx, hb, hml, hown, hts⟩ (c_Pn_count l D cA cP ob ad (xs (3 * n + 2)) Sc e1 H.size) ⟨callB_of 1 hts (gd_Pn_count) rfl rfl rfl (hts _ (List.mem_cons_of_mem _ wd_64)) (hts _ (List.mem_cons_of_mem _ wd_306)) dd_Pn_count ⟨(Nat.le_of_ble_eq_true rfl), (Nat.le_of_ble_eq_true rfl)⟩, (hts _ (List.mem_cons_of_mem _ wd_307)), (hts _ (List.mem_cons_of_mem _ wd_308))⟩ (kpV hK2 (P_front hP) (D_front hD) hN hZ hS 0 0 rfl rfl) rfl rfl hl.1 rfl (lv_room (Nat.le_of_ble_eq_true rfl)) d_law_804 ⟨by show _ ≤ 601024; omega, by show _ ≤ 7293000; omega⟩) hP hD hS hA (fun r0 w H locs hw hP hD hS => ?_)
  obtain ⟨hr0, rfl⟩ := hw
  replace hr0 : r = r0 := hr0.symm
  subst hr0
  rw [← List.append_assoc] at hP hD
  refine lv_aload_n hx hb d_law_807 rfl (lv_at hl 2 rfl) ?_
  refine lv_aload_n hx hb d_law_808 rfl (lv_at hl 0 rfl) ?_
  refine lv_iload hx hb d_law_809 (lv_at hl 4 rfl) ?_
  refine lv_iconst (v := 1) hx hb d_law_811 (by decide) ?_
  refine lv_iadd hx hb d_law_812 ?_
  refine lw_ld (j := 3 * n + 2) C0 hS (nI_1 _) (by omega) hL d_law_813 ?_
  have hP := P_perm List.perm_append_comm hP
  have hD := D_perm List.perm_append_comm hD
  refine kg_i (w0 := mw cA cP ob2 ad2 Sm) (va_runV (As := [.int (xs (3 * n + 2))]) (rest := [.int r]) ⟨hx, hb, hml, hown, hts⟩ (c_Md_count l D cA cP ob2 ad2 (xs (3 * n + 2)) Sm e2 H.size) ⟨callB_of 1 hts (gd_Md_count) rfl rfl rfl (hts _ (List.mem_cons_of_mem _ wd_72)) (hts _ (List.mem_cons_of_mem _ wd_1084)) dd_Md_count ⟨(Nat.le_of_ble_eq_true rfl), (Nat.le_of_ble_eq_true rfl)⟩, (hts _ (List.mem_cons_of_mem _ wd_1085)), (hts _ (List.mem_cons_of_mem _ wd_1086))⟩ (kpV hK2 (P_front hP) (D_front hD) hN hZ hS 7 0 rfl rfl) rfl rfl hl.1 rfl (lv_room (Nat.le_of_ble_eq_true rfl)) d_law_814 ⟨by show _ ≤ 601024; omega, by show _ ≤ 7293000; omega⟩) hP hD hS hA (fun r0 w H locs hw hP hD hS => ?_)
  obtain ⟨hr0, rfl⟩ := hw
  replace hr0 : r = r0 := hr0.symm
  subst hr0
  have hP := P_perm List.perm_append_comm hP
  have hD := D_perm List.perm_append_comm hD
  refine lv_icmp_eq (tgt := 822) hx hb d_law_817 (by decide) (fun _ => ?_) (fun h => absurd rfl h)
  refine W.widen (k := cells + 12) (n := slots + 384) (by omega) (by omega) ?_
  exact kend _ _ _ _ hP hD hS (lv_sub hl [0, 1, 2, 3, 4] rfl)
