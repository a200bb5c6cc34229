def h_add (x1 x2 : Int32) (v : Nat → Int64) (S : St) : Option (Int32 × (Nat → Int64) × St) := match t_Pn_add x1 x2 S with
  | some r => if r.1 = 1 then some (1, v, r.2) else if r.1 = 2 then some (2, v, r.2) else none
  | none => bd (f_Pn_add x1 x2 S) (fun r => some (0, vp_updL v (Int32.toNatClampNeg 0) (Int32.toInt64 r.1), r.2))
set_option maxHeartbeats 4000000 in
set_option maxRecDepth 100000 in
theorem c_Lw_add (l : Launch) (hl0 : l.flags = pinnedFlags ++ [noTraceFlag]) (D : va_G) (cA cP cL : ClassId) (ob : Nat → Nat) (ad : Nat → Nat → Nat) (q : Nat) (x1 x2 : Int32) (v : Nat → Int64) (S : St) {res : Int32 × (Nat → Int64) × St} (hf : h_add x1 x2 v S = some res) : CTh l y_Lw_add w_Lw_add rm_Lw_add 12 384 D clC (TYL cA cP cL) [.ref (ob 0), .int x1, .int x2, .ref q] (cw cA cP ob ad S ++ [oc cL q v]) (fun r w => r = res.1 ∧ ∃ ad, w = cw cA cP ob ad res.2.2 ++ [oc cL q res.2.1]) := by
  refine mk_h (cc := b_Lw_add) (maxL := 5) (own := R_Lw) (hh := [(0, 10, 13, 13), (0, 10, 17, 15)]) (by decide) rfl rfl (Nat.le_of_ble_eq_true rfl) ?_
  intro p e s m below meth c A Q C0 hret ls hl hP hD hS
  obtain ⟨hx, hb, hml, hown, hts, hK, hA, hN, hZ, hNC, htab⟩ := id C0
  have hl : lv_has ls 5 [(0, .ref (ob 0)), (1, .int x1), (2, .int x2), (3, .ref q)] := hl
  have hK2 : va_K D clC (TY cA cP) s := hK.sub [0, 1] rfl
  refine lv_aload_n hx hb d_Lw_add_0 rfl (lv_at hl 3 rfl) ?_
  refine lv_iconst (v := 0) hx hb d_Lw_add_1 (by decide) ?_
  refine lv_aload_n hx hb d_Lw_add_2 rfl (lv_at hl 0 rfl) ?_
  refine lv_iload_n hx hb d_Lw_add_3 rfl (lv_at hl 1 rfl) ?_
  refine lv_iload_n hx hb d_Lw_add_4 rfl (lv_at hl 2 rfl) ?_
  cases ht : t_Pn_add x1 x2 S with
  | none =>
    unfold h_add at hf
    rw [ht] at hf
    obtain ⟨r, hr, hf⟩ := bd_some hf
    cases hf
    refine kg_i (va_runV (As := [.int x1, .int x2]) (rest := [.int 0, .ref q]) ⟨hx, hb, hml, hown, hts⟩ (c_Pn_add l D cA cP ob ad x1 x2 S hr s.heap.size) ⟨callB_of 2 hts (gd_Pn_add) rfl rfl rfl (hts _ (List.mem_cons_of_mem _ wd_64)) (hts _ (List.mem_cons_of_mem _ wd_420)) dd_Pn_add ⟨(Nat.le_of_ble_eq_true rfl), (Nat.le_of_ble_eq_true rfl)⟩, (hts _ (List.mem_cons_of_mem _ wd_421)), (hts _ (List.mem_cons_of_mem _ wd_422))⟩ (kpV hK2 (P_front hP) (D_front hD) hN hZ hS 0 0 rfl rfl) rfl rfl hl.1 rfl (lv_room (Nat.le_of_ble_eq_true rfl)) d_Lw_add_5 ⟨by decide +kernel, by decide +kernel⟩) hP hD hS hA (fun r0 w H locs hw hP hD hS => ?_)
    obtain ⟨rfl, ad2, rfl⟩ := hw
    refine W.widen (k := 12) (n := 384) (by decide +kernel) (by decide +kernel) ?_
    refine lv_i2l (v := Int32.toInt64 r.1) hx hb d_Lw_add_8 rfl ?_
    refine va_last hx hb hK hP hD hS (cw cA cP ob ad2 r.2).length 2 (by rw [List.getElem?_concat_length]) rfl (inb_in (show inb 0 1 = true by decide)) d_Lw_add_9 (fun H locs hP hD hS => ?_)
    rw [set_last] at hP hD
    refine lv_goto (tgt := 21) hx hb d_Lw_add_10 (by decide) ?_
    refine lv_iconst (v := 0) hx hb d_Lw_add_21 (by decide) ?_
    exact hret _ _ _ _ _ _ ⟨rfl, ad2, rfl⟩ hP hD hS d_Lw_add_22
  | some r =>
    unfold h_add at hf
    rw [ht] at hf
    by_cases hn_1 : r.1 = 1
    · simp only [hn_1, if_true] at hf
      cases hf
      have hct := ct_Pn_add l hl0 D cA cP ob ad x1 x2 S ht s.heap.size
      rw [hn_1] at hct
      refine th_caughtW (hp := 13) C0 (th_runV (As := [.int x1, .int x2]) (rest := [.int 0, .ref q]) ⟨hx, hb, hml, hown, hts⟩ hct ⟨callB_of 2 hts (gd_Pn_add) rfl rfl rfl (hts _ (List.mem_cons_of_mem _ wd_64)) (hts _ (List.mem_cons_of_mem _ wd_420)) dd_Pn_add ⟨(Nat.le_of_ble_eq_true rfl), (Nat.le_of_ble_eq_true rfl)⟩, (hts _ (List.mem_cons_of_mem _ wd_421)), (hts _ (List.mem_cons_of_mem _ wd_422))⟩ (kpV hK2 (P_front hP) (D_front hD) hN hZ hS 0 0 rfl rfl) rfl rfl hl.1 rfl (lv_room (Nat.le_of_ble_eq_true rfl)) d_Lw_add_5 ⟨(Nat.le_of_ble_eq_true rfl), (Nat.le_of_ble_eq_true rfl)⟩) hP hD hS (fun T ce x hpl hW hm hc hcell hX hvm => ?_) (fun x w H locs hw hP hD hS => ?_)
      · rcases htl : c.exceptionTable.toList with _ | ⟨y1, tl⟩
        · rw [htl] at htab; cases htab
        · rcases tl with _ | ⟨y2, tl⟩
          · rw [htl] at htab; simp at htab
          · rw [htl] at htab
            simp only [List.map_cons, List.cons.injEq, Prod.mk.injEq] at htab
            obtain ⟨⟨g1, g2, g3, g4⟩, ⟨f1, f2, f3, f4⟩, -⟩ := htab
            rw [← g3]
            exact ft_first hpl hown (hts _ (List.mem_cons_of_mem _ wd_418)) hW hm hc htl (by simp [covers, g1, g2]) g4 (by decide) hcell hX hvm
      · obtain rfl := hw
        refine W.widen (k := 12) (n := 384) (by decide +kernel) (by decide +kernel) ?_
        refine lv_astore (lv' := [(4, .ref x), (0, .ref (ob 0)), (1, .int x1), (2, .int x2), (3, .ref q)]) hx hb d_Lw_add_13 hl (by decide) rfl (fun ls hl => ?_)
        refine lv_iconst (v := 1) hx hb d_Lw_add_15 (by decide) ?_
        exact hret _ _ _ _ _ _ ⟨rfl, ad, rfl⟩ hP hD hS d_Lw_add_16
    by_cases hn_2 : r.1 = 2
    · simp only [hn_2, if_true, show ¬ (2 : Nat) = 1 by decide, if_false] at hf
      cases hf
      have hct := ct_Pn_add l hl0 D cA cP ob ad x1 x2 S ht s.heap.size
      rw [hn_2] at hct
      refine th_caughtW (hp := 17) C0 (th_runV (As := [.int x1, .int x2]) (rest := [.int 0, .ref q]) ⟨hx, hb, hml, hown, hts⟩ hct ⟨callB_of 2 hts (gd_Pn_add) rfl rfl rfl (hts _ (List.mem_cons_of_mem _ wd_64)) (hts _ (List.mem_cons_of_mem _ wd_420)) dd_Pn_add ⟨(Nat.le_of_ble_eq_true rfl), (Nat.le_of_ble_eq_true rfl)⟩, (hts _ (List.mem_cons_of_mem _ wd_421)), (hts _ (List.mem_cons_of_mem _ wd_422))⟩ (kpV hK2 (P_front hP) (D_front hD) hN hZ hS 0 0 rfl rfl) rfl rfl hl.1 rfl (lv_room (Nat.le_of_ble_eq_true rfl)) d_Lw_add_5 ⟨(Nat.le_of_ble_eq_true rfl), (Nat.le_of_ble_eq_true rfl)⟩) hP hD hS (fun T ce x hpl hW hm hc hcell hX hvm => ?_) (fun x w H locs hw hP hD hS => ?_)
      · rcases htl : c.exceptionTable.toList with _ | ⟨y1, tl⟩
        · rw [htl] at htab; cases htab
        · rcases tl with _ | ⟨y2, tl⟩
          · rw [htl] at htab; simp at htab
          · rw [htl] at htab
            simp only [List.map_cons, List.cons.injEq, Prod.mk.injEq] at htab
            obtain ⟨⟨g1, g2, g3, g4⟩, ⟨f1, f2, f3, f4⟩, -⟩ := htab
            rw [← f3]
            exact ft_second hpl hown (hts _ (List.mem_cons_of_mem _ wd_418)) (hts _ (List.mem_cons_of_mem _ wd_419)) hNC.1 hW hm hc htl (by simp [covers, g1, g2]) g4 (by decide) (by simp [covers, f1, f2]) f4 (by decide) hcell hX hvm
      · obtain rfl := hw
        refine W.widen (k := 12) (n := 384) (by decide +kernel) (by decide +kernel) ?_
        refine lv_astore (lv' := [(4, .ref x), (0, .ref (ob 0)), (1, .int x1), (2, .int x2), (3, .ref q)]) hx hb d_Lw_add_17 hl (by decide) rfl (fun ls hl => ?_)
        refine lv_iconst (v := 2) hx hb d_Lw_add_19 (by decide) ?_
        exact hret _ _ _ _ _ _ ⟨rfl, ad, rfl⟩ hP hD hS d_Lw_add_20
    · simp only [hn_1, hn_2, if_false] at hf
      cases hf
def h_find (x1 x2 : Int32) (v : Nat → Int64) (S : St) : Option (Int32 × (Nat → Int64) × St) := match t_Pn_find x1 x2 S with
  | some r => if r.1 = 1 then some (1, v, r.2) else none
  | none => bd (f_Pn_find x1 x2 S) (fun r => some (0, vp_updL v (Int32.toNatClampNeg 0) (Int32.toInt64 r.1), r.2))
set_option maxHeartbeats 4000000 in
set_option maxRecDepth 100000 in
theorem c_Lw_find (l : Launch) (hl0 : l.flags = pinnedFlags ++ [noTraceFlag]) (D : va_G) (cA cP cL : ClassId) (ob : Nat → Nat) (ad : Nat → Nat → Nat) (q : Nat) (x1 x2 : Int32) (v : Nat → Int64) (S : St) {res : Int32 × (Nat → Int64) × St} (hf : h_find x1 x2 v S = some res) : CTh l y_Lw_find w_Lw_find rm_Lw_find 1 6 D clC (TYL cA cP cL) [.ref (ob 0), .int x1, .int x2, .ref q] (cw cA cP ob ad S ++ [oc cL q v]) (fun r w => r = res.1 ∧ ∃ ad, w = cw cA cP ob ad res.2.2 ++ [oc cL q res.2.1]) := by
  refine mk_h (cc := b_Lw_find) (maxL := 5) (own := R_Lw) (hh := [(0, 10, 13, 13)]) (by decide) rfl rfl (Nat.le_of_ble_eq_true rfl) ?_
  intro p e s m below meth c A Q C0 hret ls hl hP hD hS
  obtain ⟨hx, hb, hml, hown, hts, hK, hA, hN, hZ, hNC, htab⟩ := id C0
  have hl : lv_has ls 5 [(0, .ref (ob 0)), (1, .int x1), (2, .int x2), (3, .ref q)] := hl
  have hK2 : va_K D clC (TY cA cP) s := hK.sub [0, 1] rfl
  refine lv_aload_n hx hb d_Lw_find_0 rfl (lv_at hl 3 rfl) ?_
  refine lv_iconst (v := 0) hx hb d_Lw_find_1 (by decide) ?_
  refine lv_aload_n hx hb d_Lw_find_2 rfl (lv_at hl 0 rfl) ?_
  refine lv_iload_n hx hb d_Lw_find_3 rfl (lv_at hl 1 rfl) ?_
  refine lv_iload_n hx hb d_Lw_find_4 rfl (lv_at hl 2 rfl) ?_
  cases ht : t_Pn_find x1 x2 S with
  | none =>
    unfold h_find at hf
    rw [ht] at hf
    obtain ⟨r, hr, hf⟩ := bd_some hf
    cases hf
    refine kg_i (va_runV (As := [.int x1, .int x2]) (rest := [.int 0, .ref q]) ⟨hx, hb, hml, hown, hts⟩ (c_Pn_find l D cA cP ob ad x1 x2 S hr s.heap.size) ⟨callB_of 2 hts (gd_Pn_find) rfl rfl rfl (hts _ (List.mem_cons_of_mem _ wd_64)) (hts _ (List.mem_cons_of_mem _ wd_654)) dd_Pn_find ⟨(Nat.le_of_ble_eq_true rfl), (Nat.le_of_ble_eq_true rfl)⟩, (hts _ (List.mem_cons_of_mem _ wd_655)), (hts _ (List.mem_cons_of_mem _ wd_656))⟩ (kpV hK2 (P_front hP) (D_front hD) hN hZ hS 0 0 rfl rfl) rfl rfl hl.1 rfl (lv_room (Nat.le_of_ble_eq_true rfl)) d_Lw_find_5 ⟨by decide +kernel, by decide +kernel⟩) hP hD hS hA (fun r0 w H locs hw hP hD hS => ?_)
    obtain ⟨rfl, rfl⟩ := hw
    refine W.widen (k := 1) (n := 6) (by decide +kernel) (by decide +kernel) ?_
    refine lv_i2l (v := Int32.toInt64 r.1) hx hb d_Lw_find_8 rfl ?_
    refine va_last hx hb hK hP hD hS (cw cA cP ob ad r.2).length 2 (by rw [List.getElem?_concat_length]) rfl (inb_in (show inb 0 1 = true by decide)) d_Lw_find_9 (fun H locs hP hD hS => ?_)
    rw [set_last] at hP hD
    refine lv_goto (tgt := 17) hx hb d_Lw_find_10 (by decide) ?_
    refine lv_iconst (v := 0) hx hb d_Lw_find_17 (by decide) ?_
    exact hret _ _ _ _ _ _ ⟨rfl, ad, rfl⟩ hP hD hS d_Lw_find_18
  | some r =>
    unfold h_find at hf
    rw [ht] at hf
    by_cases hn_1 : r.1 = 1
    · simp only [hn_1, if_true] at hf
      cases hf
      have hct := ct_Pn_find l hl0 D cA cP ob ad x1 x2 S ht s.heap.size
      rw [hn_1] at hct
      refine th_caughtW (hp := 13) C0 (th_runV (As := [.int x1, .int x2]) (rest := [.int 0, .ref q]) ⟨hx, hb, hml, hown, hts⟩ hct ⟨callB_of 2 hts (gd_Pn_find) rfl rfl rfl (hts _ (List.mem_cons_of_mem _ wd_64)) (hts _ (List.mem_cons_of_mem _ wd_654)) dd_Pn_find ⟨(Nat.le_of_ble_eq_true rfl), (Nat.le_of_ble_eq_true rfl)⟩, (hts _ (List.mem_cons_of_mem _ wd_655)), (hts _ (List.mem_cons_of_mem _ wd_656))⟩ (kpV hK2 (P_front hP) (D_front hD) hN hZ hS 0 0 rfl rfl) rfl rfl hl.1 rfl (lv_room (Nat.le_of_ble_eq_true rfl)) d_Lw_find_5 ⟨(Nat.le_of_ble_eq_true rfl), (Nat.le_of_ble_eq_true rfl)⟩) hP hD hS (fun T ce x hpl hW hm hc hcell hX hvm => ?_) (fun x w H locs hw hP hD hS => ?_)
      · rcases htl : c.exceptionTable.toList with _ | ⟨y1, tl⟩
        · rw [htl] at htab; cases htab
        · rw [htl] at htab
          simp only [List.map_cons, List.cons.injEq, Prod.mk.injEq] at htab
          obtain ⟨⟨g1, g2, g3, g4⟩, -⟩ := htab
          rw [← g3]
          exact ft_first hpl hown (hts _ (List.mem_cons_of_mem _ wd_418)) hW hm hc htl (by simp [covers, g1, g2]) g4 (by decide) hcell hX hvm
      · obtain rfl := hw
        refine W.widen (k := 1) (n := 6) (by decide +kernel) (by decide +kernel) ?_
        refine lv_astore (lv' := [(4, .ref x), (0, .ref (ob 0)), (1, .int x1), (2, .int x2), (3, .ref q)]) hx hb d_Lw_find_13 hl (by decide) rfl (fun ls hl => ?_)
        refine lv_iconst (v := 1) hx hb d_Lw_find_15 (by decide) ?_
        exact hret _ _ _ _ _ _ ⟨rfl, ad, rfl⟩ hP hD hS d_Lw_find_16
    · simp only [hn_1, if_false] at hf
      cases hf
def h_triangle (x1 x2 : Int32) (v : Nat → Int64) (S : St) : Option (Int32 × (Nat → Int64) × St) := match t_Pn_triangle x1 x2 S with
  | some r => if r.1 = 3 then some (1, v, r.2) else none
  | none => bd (f_Pn_triangle x1 x2 S) (fun r => some (0, vp_updL v (Int32.toNatClampNeg 0) (Int32.toInt64 r.1), r.2))
set_option maxHeartbeats 4000000 in
set_option maxRecDepth 100000 in
theorem c_Lw_triangle (l : Launch) (hl0 : l.flags = pinnedFlags ++ [noTraceFlag]) (D : va_G) (cA cP cL : ClassId) (ob : Nat → Nat) (ad : Nat → Nat → Nat) (q : Nat) (x1 x2 : Int32) (v : Nat → Int64) (S : St) {res : Int32 × (Nat → Int64) × St} (hf : h_triangle x1 x2 v S = some res) : CTh l y_Lw_triangle w_Lw_triangle rm_Lw_triangle 1 6 D clC (TYL cA cP cL) [.ref (ob 0), .int x1, .int x2, .ref q] (cw cA cP ob ad S ++ [oc cL q v]) (fun r w => r = res.1 ∧ ∃ ad, w = cw cA cP ob ad res.2.2 ++ [oc cL q res.2.1]) := by
  refine mk_h (cc := b_Lw_triangle) (maxL := 5) (own := R_Lw) (hh := [(0, 10, 13, 23)]) (by decide) rfl rfl (Nat.le_of_ble_eq_true rfl) ?_
  intro p e s m below meth c A Q C0 hret ls hl hP hD hS
  obtain ⟨hx, hb, hml, hown, hts, hK, hA, hN, hZ, hNC, htab⟩ := id C0
  have hl : lv_has ls 5 [(0, .ref (ob 0)), (1, .int x1), (2, .int x2), (3, .ref q)] := hl
  have hK2 : va_K D clC (TY cA cP) s := hK.sub [0, 1] rfl
  refine lv_aload_n hx hb d_Lw_triangle_0 rfl (lv_at hl 3 rfl) ?_
  refine lv_iconst (v := 0) hx hb d_Lw_triangle_1 (by decide) ?_
  refine lv_aload_n hx hb d_Lw_triangle_2 rfl (lv_at hl 0 rfl) ?_
  refine lv_iload_n hx hb d_Lw_triangle_3 rfl (lv_at hl 1 rfl) ?_
  refine lv_iload_n hx hb d_Lw_triangle_4 rfl (lv_at hl 2 rfl) ?_
  cases ht : t_Pn_triangle x1 x2 S with
  | none =>
    unfold h_triangle at hf
    rw [ht] at hf
    obtain ⟨r, hr, hf⟩ := bd_some hf
    cases hf
    refine kg_i (va_runV (As := [.int x1, .int x2]) (rest := [.int 0, .ref q]) ⟨hx, hb, hml, hown, hts⟩ (c_Pn_triangle l D cA cP ob ad x1 x2 S hr s.heap.size) ⟨callB_of 2 hts (gd_Pn_triangle) rfl rfl rfl (hts _ (List.mem_cons_of_mem _ wd_64)) (hts _ (List.mem_cons_of_mem _ wd_662)) dd_Pn_triangle ⟨(Nat.le_of_ble_eq_true rfl), (Nat.le_of_ble_eq_true rfl)⟩, (hts _ (List.mem_cons_of_mem _ wd_663)), (hts _ (List.mem_cons_of_mem _ wd_664))⟩ (kpV hK2 (P_front hP) (D_front hD) hN hZ hS 0 0 rfl rfl) rfl rfl hl.1 rfl (lv_room (Nat.le_of_ble_eq_true rfl)) d_Lw_triangle_5 ⟨by decide +kernel, by decide +kernel⟩) hP hD hS hA (fun r0 w H locs hw hP hD hS => ?_)
    obtain ⟨rfl, rfl⟩ := hw
    refine W.widen (k := 1) (n := 6) (by decide +kernel) (by decide +kernel) ?_
    refine lv_i2l (v := Int32.toInt64 r.1) hx hb d_Lw_triangle_8 rfl ?_
    refine va_last hx hb hK hP hD hS (cw cA cP ob ad r.2).length 2 (by rw [List.getElem?_concat_length]) rfl (inb_in (show inb 0 1 = true by decide)) d_Lw_triangle_9 (fun H locs hP hD hS => ?_)
    rw [set_last] at hP hD
    refine lv_goto (tgt := 17) hx hb d_Lw_triangle_10 (by decide) ?_
    refine lv_iconst (v := 0) hx hb d_Lw_triangle_17 (by decide) ?_
    exact hret _ _ _ _ _ _ ⟨rfl, ad, rfl⟩ hP hD hS d_Lw_triangle_18
  | some r =>
    unfold h_triangle at hf
    rw [ht] at hf
    by_cases hn_3 : r.1 = 3
    · simp only [hn_3, if_true] at hf
      cases hf
      have hct := ct_Pn_triangle l hl0 D cA cP ob ad x1 x2 S ht s.heap.size
      rw [hn_3] at hct
      refine th_caughtW (hp := 13) C0 (th_runV (As := [.int x1, .int x2]) (rest := [.int 0, .ref q]) ⟨hx, hb, hml, hown, hts⟩ hct ⟨callB_of 2 hts (gd_Pn_triangle) rfl rfl rfl (hts _ (List.mem_cons_of_mem _ wd_64)) (hts _ (List.mem_cons_of_mem _ wd_662)) dd_Pn_triangle ⟨(Nat.le_of_ble_eq_true rfl), (Nat.le_of_ble_eq_true rfl)⟩, (hts _ (List.mem_cons_of_mem _ wd_663)), (hts _ (List.mem_cons_of_mem _ wd_664))⟩ (kpV hK2 (P_front hP) (D_front hD) hN hZ hS 0 0 rfl rfl) rfl rfl hl.1 rfl (lv_room (Nat.le_of_ble_eq_true rfl)) d_Lw_triangle_5 ⟨(Nat.le_of_ble_eq_true rfl), (Nat.le_of_ble_eq_true rfl)⟩) hP hD hS (fun T ce x hpl hW hm hc hcell hX hvm => ?_) (fun x w H locs hw hP hD hS => ?_)
      · rcases htl : c.exceptionTable.toList with _ | ⟨y1, tl⟩
        · rw [htl] at htab; cases htab
        · rw [htl] at htab
          simp only [List.map_cons, List.cons.injEq, Prod.mk.injEq] at htab
          obtain ⟨⟨g1, g2, g3, g4⟩, -⟩ := htab
          rw [← g3]
          exact ft_first hpl hown (hts _ (List.mem_cons_of_mem _ wd_661)) hW hm hc htl (by simp [covers, g1, g2]) g4 (by decide) hcell hX hvm
      · obtain rfl := hw
        refine W.widen (k := 1) (n := 6) (by decide +kernel) (by decide +kernel) ?_
        refine lv_astore (lv' := [(4, .ref x), (0, .ref (ob 0)), (1, .int x1), (2, .int x2), (3, .ref q)]) hx hb d_Lw_triangle_13 hl (by decide) rfl (fun ls hl => ?_)
        refine lv_iconst (v := 1) hx hb d_Lw_triangle_15 (by decide) ?_
        exact hret _ _ _ _ _ _ ⟨rfl, ad, rfl⟩ hP hD hS d_Lw_triangle_16
    · simp only [hn_3, if_false] at hf
      cases hf
def h_neighbours (x1 : Int32) (v : Nat → Int64) (S : St) : Option (Int32 × (Nat → Int64) × St) := match t_Pn_neighbours x1 S with
  | some r => if r.1 = 3 then some (1, v, r.2) else none
  | none => bd (f_Pn_neighbours x1 S) (fun r => some (0, vp_updL v (Int32.toNatClampNeg 0) (Int32.toInt64 r.1), r.2))
set_option maxHeartbeats 4000000 in
set_option maxRecDepth 100000 in
theorem c_Lw_neighbours (l : Launch) (hl0 : l.flags = pinnedFlags ++ [noTraceFlag]) (D : va_G) (cA cP cL : ClassId) (ob : Nat → Nat) (ad : Nat → Nat → Nat) (q : Nat) (x1 : Int32) (v : Nat → Int64) (S : St) {res : Int32 × (Nat → Int64) × St} (hf : h_neighbours x1 v S = some res) : CTh l y_Lw_neighbours w_Lw_neighbours rm_Lw_neighbours 1 6 D clC (TYL cA cP cL) [.ref (ob 0), .int x1, .ref q] (cw cA cP ob ad S ++ [oc cL q v]) (fun r w => r = res.1 ∧ ∃ ad, w = cw cA cP ob ad res.2.2 ++ [oc cL q res.2.1]) := by
  refine mk_h (cc := b_Lw_neighbours) (maxL := 4) (own := R_Lw) (hh := [(0, 9, 12, 23)]) (by decide) rfl rfl (Nat.le_of_ble_eq_true rfl) ?_
  intro p e s m below meth c A Q C0 hret ls hl hP hD hS
  obtain ⟨hx, hb, hml, hown, hts, hK, hA, hN, hZ, hNC, htab⟩ := id C0
  have hl : lv_has ls 4 [(0, .ref (ob 0)), (1, .int x1), (2, .ref q)] := hl
  have hK2 : va_K D clC (TY cA cP) s := hK.sub [0, 1] rfl
  refine lv_aload_n hx hb d_Lw_neighbours_0 rfl (lv_at hl 2 rfl) ?_
  refine lv_iconst (v := 0) hx hb d_Lw_neighbours_1 (by decide) ?_
  refine lv_aload_n hx hb d_Lw_neighbours_2 rfl (lv_at hl 0 rfl) ?_
  refine lv_iload_n hx hb d_Lw_neighbours_3 rfl (lv_at hl 1 rfl) ?_
  cases ht : t_Pn_neighbours x1 S with
  | none =>
    unfold h_neighbours at hf
    rw [ht] at hf
    obtain ⟨r, hr, hf⟩ := bd_some hf
    cases hf
    refine kg_i (va_runV (As := [.int x1]) (rest := [.int 0, .ref q]) ⟨hx, hb, hml, hown, hts⟩ (c_Pn_neighbours l D cA cP ob ad x1 S hr s.heap.size) ⟨callB_of 1 hts (gd_Pn_neighbours) rfl rfl rfl (hts _ (List.mem_cons_of_mem _ wd_64)) (hts _ (List.mem_cons_of_mem _ wd_716)) dd_Pn_neighbours ⟨(Nat.le_of_ble_eq_true rfl), (Nat.le_of_ble_eq_true rfl)⟩, (hts _ (List.mem_cons_of_mem _ wd_717)), (hts _ (List.mem_cons_of_mem _ wd_718))⟩ (kpV hK2 (P_front hP) (D_front hD) hN hZ hS 0 0 rfl rfl) rfl rfl hl.1 rfl (lv_room (Nat.le_of_ble_eq_true rfl)) d_Lw_neighbours_4 ⟨by decide +kernel, by decide +kernel⟩) hP hD hS hA (fun r0 w H locs hw hP hD hS => ?_)
    obtain ⟨rfl, rfl⟩ := hw
    refine W.widen (k := 1) (n := 6) (by decide +kernel) (by decide +kernel) ?_
    refine lv_i2l (v := Int32.toInt64 r.1) hx hb d_Lw_neighbours_7 rfl ?_
    refine va_last hx hb hK hP hD hS (cw cA cP ob ad r.2).length 2 (by rw [List.getElem?_concat_length]) rfl (inb_in (show inb 0 1 = true by decide)) d_Lw_neighbours_8 (fun H locs hP hD hS => ?_)
    rw [set_last] at hP hD
    refine lv_goto (tgt := 15) hx hb d_Lw_neighbours_9 (by decide) ?_
    refine lv_iconst (v := 0) hx hb d_Lw_neighbours_15 (by decide) ?_
    exact hret _ _ _ _ _ _ ⟨rfl, ad, rfl⟩ hP hD hS d_Lw_neighbours_16
  | some r =>
    unfold h_neighbours at hf
    rw [ht] at hf
    by_cases hn_3 : r.1 = 3
    · simp only [hn_3, if_true] at hf
      cases hf
      have hct := ct_Pn_neighbours l hl0 D cA cP ob ad x1 S ht s.heap.size
      rw [hn_3] at hct
      refine th_caughtW (hp := 12) C0 (th_runV (As := [.int x1]) (rest := [.int 0, .ref q]) ⟨hx, hb, hml, hown, hts⟩ hct ⟨callB_of 1 hts (gd_Pn_neighbours) rfl rfl rfl (hts _ (List.mem_cons_of_mem _ wd_64)) (hts _ (List.mem_cons_of_mem _ wd_716)) dd_Pn_neighbours ⟨(Nat.le_of_ble_eq_true rfl), (Nat.le_of_ble_eq_true rfl)⟩, (hts _ (List.mem_cons_of_mem _ wd_717)), (hts _ (List.mem_cons_of_mem _ wd_718))⟩ (kpV hK2 (P_front hP) (D_front hD) hN hZ hS 0 0 rfl rfl) rfl rfl hl.1 rfl (lv_room (Nat.le_of_ble_eq_true rfl)) d_Lw_neighbours_4 ⟨(Nat.le_of_ble_eq_true rfl), (Nat.le_of_ble_eq_true rfl)⟩) hP hD hS (fun T ce x hpl hW hm hc hcell hX hvm => ?_) (fun x w H locs hw hP hD hS => ?_)
      · rcases htl : c.exceptionTable.toList with _ | ⟨y1, tl⟩
        · rw [htl] at htab; cases htab
        · rw [htl] at htab
          simp only [List.map_cons, List.cons.injEq, Prod.mk.injEq] at htab
          obtain ⟨⟨g1, g2, g3, g4⟩, -⟩ := htab
          rw [← g3]
          exact ft_first hpl hown (hts _ (List.mem_cons_of_mem _ wd_661)) hW hm hc htl (by simp [covers, g1, g2]) g4 (by decide) hcell hX hvm
      · obtain rfl := hw
        refine W.widen (k := 1) (n := 6) (by decide +kernel) (by decide +kernel) ?_
        refine lv_astore_n (lv' := [(3, .ref x), (0, .ref (ob 0)), (1, .int x1), (2, .ref q)]) hx hb d_Lw_neighbours_12 rfl hl (by decide) rfl (fun ls hl => ?_)
        refine lv_iconst (v := 1) hx hb d_Lw_neighbours_13 (by decide) ?_
        exact hret _ _ _ _ _ _ ⟨rfl, ad, rfl⟩ hP hD hS d_Lw_neighbours_14
    · simp only [hn_3, if_false] at hf
      cases hf
def h_neighbour (x1 x2 : Int32) (v : Nat → Int64) (S : St) : Option (Int32 × (Nat → Int64) × St) := match t_Pn_neighbour x1 x2 S with
  | some r => if r.1 = 3 then some (1, v, r.2) else none
  | none => bd (f_Pn_neighbour x1 x2 S) (fun r => some (0, vp_updL v (Int32.toNatClampNeg 0) (Int32.toInt64 r.1), r.2))
set_option maxHeartbeats 4000000 in
set_option maxRecDepth 100000 in
theorem c_Lw_neighbour (l : Launch) (hl0 : l.flags = pinnedFlags ++ [noTraceFlag]) (D : va_G) (cA cP cL : ClassId) (ob : Nat → Nat) (ad : Nat → Nat → Nat) (q : Nat) (x1 x2 : Int32) (v : Nat → Int64) (S : St) {res : Int32 × (Nat → Int64) × St} (hf : h_neighbour x1 x2 v S = some res) : CTh l y_Lw_neighbour w_Lw_neighbour rm_Lw_neighbour 1 6 D clC (TYL cA cP cL) [.ref (ob 0), .int x1, .int x2, .ref q] (cw cA cP ob ad S ++ [oc cL q v]) (fun r w => r = res.1 ∧ ∃ ad, w = cw cA cP ob ad res.2.2 ++ [oc cL q res.2.1]) := by
  refine mk_h (cc := b_Lw_neighbour) (maxL := 5) (own := R_Lw) (hh := [(0, 10, 13, 23)]) (by decide) rfl rfl (Nat.le_of_ble_eq_true rfl) ?_
  intro p e s m below meth c A Q C0 hret ls hl hP hD hS
  obtain ⟨hx, hb, hml, hown, hts, hK, hA, hN, hZ, hNC, htab⟩ := id C0
  have hl : lv_has ls 5 [(0, .ref (ob 0)), (1, .int x1), (2, .int x2), (3, .ref q)] := hl
  have hK2 : va_K D clC (TY cA cP) s := hK.sub [0, 1] rfl
  refine lv_aload_n hx hb d_Lw_neighbour_0 rfl (lv_at hl 3 rfl) ?_
  refine lv_iconst (v := 0) hx hb d_Lw_neighbour_1 (by decide) ?_
  refine lv_aload_n hx hb d_Lw_neighbour_2 rfl (lv_at hl 0 rfl) ?_
  refine lv_iload_n hx hb d_Lw_neighbour_3 rfl (lv_at hl 1 rfl) ?_
  refine lv_iload_n hx hb d_Lw_neighbour_4 rfl (lv_at hl 2 rfl) ?_
  cases ht : t_Pn_neighbour x1 x2 S with
  | none =>
    unfold h_neighbour at hf
    rw [ht] at hf
    obtain ⟨r, hr, hf⟩ := bd_some hf
    cases hf
    refine kg_i (va_runV (As := [.int x1, .int x2]) (rest := [.int 0, .ref q]) ⟨hx, hb, hml, hown, hts⟩ (c_Pn_neighbour l D cA cP ob ad x1 x2 S hr s.heap.size) ⟨callB_of 2 hts (gd_Pn_neighbour) rfl rfl rfl (hts _ (List.mem_cons_of_mem _ wd_64)) (hts _ (List.mem_cons_of_mem _ wd_738)) dd_Pn_neighbour ⟨(Nat.le_of_ble_eq_true rfl), (Nat.le_of_ble_eq_true rfl)⟩, (hts _ (List.mem_cons_of_mem _ wd_739)), (hts _ (List.mem_cons_of_mem _ wd_740))⟩ (kpV hK2 (P_front hP) (D_front hD) hN hZ hS 0 0 rfl rfl) rfl rfl hl.1 rfl (lv_room (Nat.le_of_ble_eq_true rfl)) d_Lw_neighbour_5 ⟨by decide +kernel, by decide +kernel⟩) hP hD hS hA (fun r0 w H locs hw hP hD hS => ?_)
    obtain ⟨rfl, rfl⟩ := hw
    refine W.widen (k := 1) (n := 6) (by decide +kernel) (by decide +kernel) ?_
    refine lv_i2l (v := Int32.toInt64 r.1) hx hb d_Lw_neighbour_8 rfl ?_
    refine va_last hx hb hK hP hD hS (cw cA cP ob ad r.2).length 2 (by rw [List.getElem?_concat_length]) rfl (inb_in (show inb 0 1 = true by decide)) d_Lw_neighbour_9 (fun H locs hP hD hS => ?_)
    rw [set_last] at hP hD
    refine lv_goto (tgt := 17) hx hb d_Lw_neighbour_10 (by decide) ?_
    refine lv_iconst (v := 0) hx hb d_Lw_neighbour_17 (by decide) ?_
    exact hret _ _ _ _ _ _ ⟨rfl, ad, rfl⟩ hP hD hS d_Lw_neighbour_18
  | some r =>
    unfold h_neighbour at hf
    rw [ht] at hf
    by_cases hn_3 : r.1 = 3
    · simp only [hn_3, if_true] at hf
      cases hf
      have hct := ct_Pn_neighbour l hl0 D cA cP ob ad x1 x2 S ht s.heap.size
      rw [hn_3] at hct
      refine th_caughtW (hp := 13) C0 (th_runV (As := [.int x1, .int x2]) (rest := [.int 0, .ref q]) ⟨hx, hb, hml, hown, hts⟩ hct ⟨callB_of 2 hts (gd_Pn_neighbour) rfl rfl rfl (hts _ (List.mem_cons_of_mem _ wd_64)) (hts _ (List.mem_cons_of_mem _ wd_738)) dd_Pn_neighbour ⟨(Nat.le_of_ble_eq_true rfl), (Nat.le_of_ble_eq_true rfl)⟩, (hts _ (List.mem_cons_of_mem _ wd_739)), (hts _ (List.mem_cons_of_mem _ wd_740))⟩ (kpV hK2 (P_front hP) (D_front hD) hN hZ hS 0 0 rfl rfl) rfl rfl hl.1 rfl (lv_room (Nat.le_of_ble_eq_true rfl)) d_Lw_neighbour_5 ⟨(Nat.le_of_ble_eq_true rfl), (Nat.le_of_ble_eq_true rfl)⟩) hP hD hS (fun T ce x hpl hW hm hc hcell hX hvm => ?_) (fun x w H locs hw hP hD hS => ?_)
      · rcases htl : c.exceptionTable.toList with _ | ⟨y1, tl⟩
        · rw [htl] at htab; cases htab
        · rw [htl] at htab
          simp only [List.map_cons, List.cons.injEq, Prod.mk.injEq] at htab
          obtain ⟨⟨g1, g2, g3, g4⟩, -⟩ := htab
          rw [← g3]
          exact ft_first hpl hown (hts _ (List.mem_cons_of_mem _ wd_661)) hW hm hc htl (by simp [covers, g1, g2]) g4 (by decide) hcell hX hvm
      · obtain rfl := hw
        refine W.widen (k := 1) (n := 6) (by decide +kernel) (by decide +kernel) ?_
        refine lv_astore (lv' := [(4, .ref x), (0, .ref (ob 0)), (1, .int x1), (2, .int x2), (3, .ref q)]) hx hb d_Lw_neighbour_13 hl (by decide) rfl (fun ls hl => ?_)
        refine lv_iconst (v := 1) hx hb d_Lw_neighbour_15 (by decide) ?_
        exact hret _ _ _ _ _ _ ⟨rfl, ad, rfl⟩ hP hD hS d_Lw_neighbour_16
    · simp only [hn_3, if_false] at hf
      cases hf
def h_corner (x1 : Int32) (v : Nat → Int64) (S : St) : Option (Int32 × (Nat → Int64) × St) := match t_Pn_corner x1 S with
  | some r => if r.1 = 3 then some (1, v, r.2) else none
  | none => bd (f_Pn_corner x1 S) (fun r => some (0, vp_updL v (Int32.toNatClampNeg 0) (Int32.toInt64 r.1), r.2))
set_option maxHeartbeats 4000000 in
set_option maxRecDepth 100000 in
theorem c_Lw_corner (l : Launch) (hl0 : l.flags = pinnedFlags ++ [noTraceFlag]) (D : va_G) (cA cP cL : ClassId) (ob : Nat → Nat) (ad : Nat → Nat → Nat) (q : Nat) (x1 : Int32) (v : Nat → Int64) (S : St) {res : Int32 × (Nat → Int64) × St} (hf : h_corner x1 v S = some res) : CTh l y_Lw_corner w_Lw_corner rm_Lw_corner 1 6 D clC (TYL cA cP cL) [.ref (ob 0), .int x1, .ref q] (cw cA cP ob ad S ++ [oc cL q v]) (fun r w => r = res.1 ∧ ∃ ad, w = cw cA cP ob ad res.2.2 ++ [oc cL q res.2.1]) := by
  refine mk_h (cc := b_Lw_corner) (maxL := 4) (own := R_Lw) (hh := [(0, 9, 12, 23)]) (by decide) rfl rfl (Nat.le_of_ble_eq_true rfl) ?_
  intro p e s m below meth c A Q C0 hret ls hl hP hD hS
  obtain ⟨hx, hb, hml, hown, hts, hK, hA, hN, hZ, hNC, htab⟩ := id C0
  have hl : lv_has ls 4 [(0, .ref (ob 0)), (1, .int x1), (2, .ref q)] := hl
  have hK2 : va_K D clC (TY cA cP) s := hK.sub [0, 1] rfl
  refine lv_aload_n hx hb d_Lw_corner_0 rfl (lv_at hl 2 rfl) ?_
  refine lv_iconst (v := 0) hx hb d_Lw_corner_1 (by decide) ?_
  refine lv_aload_n hx hb d_Lw_corner_2 rfl (lv_at hl 0 rfl) ?_
  refine lv_iload_n hx hb d_Lw_corner_3 rfl (lv_at hl 1 rfl) ?_
  cases ht : t_Pn_corner x1 S with
  | none =>
    unfold h_corner at hf
    rw [ht] at hf
    obtain ⟨r, hr, hf⟩ := bd_some hf
    cases hf
    refine kg_i (va_runV (As := [.int x1]) (rest := [.int 0, .ref q]) ⟨hx, hb, hml, hown, hts⟩ (c_Pn_corner l D cA cP ob ad x1 S hr s.heap.size) ⟨callB_of 1 hts (gd_Pn_corner) rfl rfl rfl (hts _ (List.mem_cons_of_mem _ wd_64)) (hts _ (List.mem_cons_of_mem _ wd_758)) dd_Pn_corner ⟨(Nat.le_of_ble_eq_true rfl), (Nat.le_of_ble_eq_true rfl)⟩, (hts _ (List.mem_cons_of_mem _ wd_759)), (hts _ (List.mem_cons_of_mem _ wd_760))⟩ (kpV hK2 (P_front hP) (D_front hD) hN hZ hS 0 0 rfl rfl) rfl rfl hl.1 rfl (lv_room (Nat.le_of_ble_eq_true rfl)) d_Lw_corner_4 ⟨by decide +kernel, by decide +kernel⟩) hP hD hS hA (fun r0 w H locs hw hP hD hS => ?_)
    obtain ⟨rfl, rfl⟩ := hw
    refine W.widen (k := 1) (n := 6) (by decide +kernel) (by decide +kernel) ?_
    refine lv_i2l (v := Int32.toInt64 r.1) hx hb d_Lw_corner_7 rfl ?_
    refine va_last hx hb hK hP hD hS (cw cA cP ob ad r.2).length 2 (by rw [List.getElem?_concat_length]) rfl (inb_in (show inb 0 1 = true by decide)) d_Lw_corner_8 (fun H locs hP hD hS => ?_)
    rw [set_last] at hP hD
    refine lv_goto (tgt := 15) hx hb d_Lw_corner_9 (by decide) ?_
    refine lv_iconst (v := 0) hx hb d_Lw_corner_15 (by decide) ?_
    exact hret _ _ _ _ _ _ ⟨rfl, ad, rfl⟩ hP hD hS d_Lw_corner_16
  | some r =>
    unfold h_corner at hf
    rw [ht] at hf
    by_cases hn_3 : r.1 = 3
    · simp only [hn_3, if_true] at hf
      cases hf
      have hct := ct_Pn_corner l hl0 D cA cP ob ad x1 S ht s.heap.size
      rw [hn_3] at hct
      refine th_caughtW (hp := 12) C0 (th_runV (As := [.int x1]) (rest := [.int 0, .ref q]) ⟨hx, hb, hml, hown, hts⟩ hct ⟨callB_of 1 hts (gd_Pn_corner) rfl rfl rfl (hts _ (List.mem_cons_of_mem _ wd_64)) (hts _ (List.mem_cons_of_mem _ wd_758)) dd_Pn_corner ⟨(Nat.le_of_ble_eq_true rfl), (Nat.le_of_ble_eq_true rfl)⟩, (hts _ (List.mem_cons_of_mem _ wd_759)), (hts _ (List.mem_cons_of_mem _ wd_760))⟩ (kpV hK2 (P_front hP) (D_front hD) hN hZ hS 0 0 rfl rfl) rfl rfl hl.1 rfl (lv_room (Nat.le_of_ble_eq_true rfl)) d_Lw_corner_4 ⟨(Nat.le_of_ble_eq_true rfl), (Nat.le_of_ble_eq_true rfl)⟩) hP hD hS (fun T ce x hpl hW hm hc hcell hX hvm => ?_) (fun x w H locs hw hP hD hS => ?_)
      · rcases htl : c.exceptionTable.toList with _ | ⟨y1, tl⟩
        · rw [htl] at htab; cases htab
        · rw [htl] at htab
          simp only [List.map_cons, List.cons.injEq, Prod.mk.injEq] at htab
          obtain ⟨⟨g1, g2, g3, g4⟩, -⟩ := htab
          rw [← g3]
          exact ft_first hpl hown (hts _ (List.mem_cons_of_mem _ wd_661)) hW hm hc htl (by simp [covers, g1, g2]) g4 (by decide) hcell hX hvm
      · obtain rfl := hw
        refine W.widen (k := 1) (n := 6) (by decide +kernel) (by decide +kernel) ?_
        refine lv_astore_n (lv' := [(3, .ref x), (0, .ref (ob 0)), (1, .int x1), (2, .ref q)]) hx hb d_Lw_corner_12 rfl hl (by decide) rfl (fun ls hl => ?_)
        refine lv_iconst (v := 1) hx hb d_Lw_corner_13 (by decide) ?_
        exact hret _ _ _ _ _ _ ⟨rfl, ad, rfl⟩ hP hD hS d_Lw_corner_14
    · simp only [hn_3, if_false] at hf
      cases hf
def h_locate (x1 x2 : Int32) (v : Nat → Int64) (S : St) : Option (Int32 × (Nat → Int64) × St) := match t_Pn_locate x1 x2 S with
  | some r => if r.1 = 1 then some (1, v, r.2) else none
  | none => bd (f_Pn_locate x1 x2 S) (fun r => some (0, vp_updL v (Int32.toNatClampNeg 0) (Int32.toInt64 r.1), r.2))
set_option maxHeartbeats 4000000 in
set_option maxRecDepth 100000 in
theorem c_Lw_locate (l : Launch) (hl0 : l.flags = pinnedFlags ++ [noTraceFlag]) (D : va_G) (cA cP cL : ClassId) (ob : Nat → Nat) (ad : Nat → Nat → Nat) (q : Nat) (x1 x2 : Int32) (v : Nat → Int64) (S : St) {res : Int32 × (Nat → Int64) × St} (hf : h_locate x1 x2 v S = some res) : CTh l y_Lw_locate w_Lw_locate rm_Lw_locate 1 6 D clC (TYL cA cP cL) [.ref (ob 0), .int x1, .int x2, .ref q] (cw cA cP ob ad S ++ [oc cL q v]) (fun r w => r = res.1 ∧ ∃ ad, w = cw cA cP ob ad res.2.2 ++ [oc cL q res.2.1]) := by
  refine mk_h (cc := b_Lw_locate) (maxL := 5) (own := R_Lw) (hh := [(0, 10, 13, 13)]) (by decide) rfl rfl (Nat.le_of_ble_eq_true rfl) ?_
  intro p e s m below meth c A Q C0 hret ls hl hP hD hS
  obtain ⟨hx, hb, hml, hown, hts, hK, hA, hN, hZ, hNC, htab⟩ := id C0
  have hl : lv_has ls 5 [(0, .ref (ob 0)), (1, .int x1), (2, .int x2), (3, .ref q)] := hl
  have hK2 : va_K D clC (TY cA cP) s := hK.sub [0, 1] rfl
  refine lv_aload_n hx hb d_Lw_locate_0 rfl (lv_at hl 3 rfl) ?_
  refine lv_iconst (v := 0) hx hb d_Lw_locate_1 (by decide) ?_
  refine lv_aload_n hx hb d_Lw_locate_2 rfl (lv_at hl 0 rfl) ?_
  refine lv_iload_n hx hb d_Lw_locate_3 rfl (lv_at hl 1 rfl) ?_
  refine lv_iload_n hx hb d_Lw_locate_4 rfl (lv_at hl 2 rfl) ?_
  cases ht : t_Pn_locate x1 x2 S with
  | none =>
    unfold h_locate at hf
    rw [ht] at hf
    obtain ⟨r, hr, hf⟩ := bd_some hf
    cases hf
    refine kg_i (va_runV (As := [.int x1, .int x2]) (rest := [.int 0, .ref q]) ⟨hx, hb, hml, hown, hts⟩ (c_Pn_locate l D cA cP ob ad x1 x2 S hr s.heap.size) ⟨callB_of 2 hts (gd_Pn_locate) rfl rfl rfl (hts _ (List.mem_cons_of_mem _ wd_64)) (hts _ (List.mem_cons_of_mem _ wd_771)) dd_Pn_locate ⟨(Nat.le_of_ble_eq_true rfl), (Nat.le_of_ble_eq_true rfl)⟩, (hts _ (List.mem_cons_of_mem _ wd_772)), (hts _ (List.mem_cons_of_mem _ wd_773))⟩ (kpV hK2 (P_front hP) (D_front hD) hN hZ hS 0 0 rfl rfl) rfl rfl hl.1 rfl (lv_room (Nat.le_of_ble_eq_true rfl)) d_Lw_locate_5 ⟨by decide +kernel, by decide +kernel⟩) hP hD hS hA (fun r0 w H locs hw hP hD hS => ?_)
    obtain ⟨rfl, rfl⟩ := hw
    refine W.widen (k := 1) (n := 6) (by decide +kernel) (by decide +kernel) ?_
    refine lv_i2l (v := Int32.toInt64 r.1) hx hb d_Lw_locate_8 rfl ?_
    refine va_last hx hb hK hP hD hS (cw cA cP ob ad r.2).length 2 (by rw [List.getElem?_concat_length]) rfl (inb_in (show inb 0 1 = true by decide)) d_Lw_locate_9 (fun H locs hP hD hS => ?_)
    rw [set_last] at hP hD
    refine lv_goto (tgt := 17) hx hb d_Lw_locate_10 (by decide) ?_
    refine lv_iconst (v := 0) hx hb d_Lw_locate_17 (by decide) ?_
    exact hret _ _ _ _ _ _ ⟨rfl, ad, rfl⟩ hP hD hS d_Lw_locate_18
  | some r =>
    unfold h_locate at hf
    rw [ht] at hf
    by_cases hn_1 : r.1 = 1
    · simp only [hn_1, if_true] at hf
      cases hf
      have hct := ct_Pn_locate l hl0 D cA cP ob ad x1 x2 S ht s.heap.size
      rw [hn_1] at hct
      refine th_caughtW (hp := 13) C0 (th_runV (As := [.int x1, .int x2]) (rest := [.int 0, .ref q]) ⟨hx, hb, hml, hown, hts⟩ hct ⟨callB_of 2 hts (gd_Pn_locate) rfl rfl rfl (hts _ (List.mem_cons_of_mem _ wd_64)) (hts _ (List.mem_cons_of_mem _ wd_771)) dd_Pn_locate ⟨(Nat.le_of_ble_eq_true rfl), (Nat.le_of_ble_eq_true rfl)⟩, (hts _ (List.mem_cons_of_mem _ wd_772)), (hts _ (List.mem_cons_of_mem _ wd_773))⟩ (kpV hK2 (P_front hP) (D_front hD) hN hZ hS 0 0 rfl rfl) rfl rfl hl.1 rfl (lv_room (Nat.le_of_ble_eq_true rfl)) d_Lw_locate_5 ⟨(Nat.le_of_ble_eq_true rfl), (Nat.le_of_ble_eq_true rfl)⟩) hP hD hS (fun T ce x hpl hW hm hc hcell hX hvm => ?_) (fun x w H locs hw hP hD hS => ?_)
      · rcases htl : c.exceptionTable.toList with _ | ⟨y1, tl⟩
        · rw [htl] at htab; cases htab
        · rw [htl] at htab
          simp only [List.map_cons, List.cons.injEq, Prod.mk.injEq] at htab
          obtain ⟨⟨g1, g2, g3, g4⟩, -⟩ := htab
          rw [← g3]
          exact ft_first hpl hown (hts _ (List.mem_cons_of_mem _ wd_418)) hW hm hc htl (by simp [covers, g1, g2]) g4 (by decide) hcell hX hvm
      · obtain rfl := hw
        refine W.widen (k := 1) (n := 6) (by decide +kernel) (by decide +kernel) ?_
        refine lv_astore (lv' := [(4, .ref x), (0, .ref (ob 0)), (1, .int x1), (2, .int x2), (3, .ref q)]) hx hb d_Lw_locate_13 hl (by decide) rfl (fun ls hl => ?_)
        refine lv_iconst (v := 1) hx hb d_Lw_locate_15 (by decide) ?_
        exact hret _ _ _ _ _ _ ⟨rfl, ad, rfl⟩ hP hD hS d_Lw_locate_16
    · simp only [hn_1, if_false] at hf
      cases hf
def h_nearest (x1 x2 : Int32) (v : Nat → Int64) (S : St) : Option (Int32 × (Nat → Int64) × St) := match t_Pn_nearest x1 x2 S with
  | some r => if r.1 = 1 then some (1, v, r.2) else if r.1 = 2 then some (2, v, r.2) else none
  | none => bd (f_Pn_nearest x1 x2 S) (fun r => some (0, vp_updL v (Int32.toNatClampNeg 0) (Int32.toInt64 r.1), r.2))
set_option maxHeartbeats 4000000 in
set_option maxRecDepth 100000 in
theorem c_Lw_nearest (l : Launch) (hl0 : l.flags = pinnedFlags ++ [noTraceFlag]) (D : va_G) (cA cP cL : ClassId) (ob : Nat → Nat) (ad : Nat → Nat → Nat) (q : Nat) (x1 x2 : Int32) (v : Nat → Int64) (S : St) {res : Int32 × (Nat → Int64) × St} (hf : h_nearest x1 x2 v S = some res) : CTh l y_Lw_nearest w_Lw_nearest rm_Lw_nearest 1 6 D clC (TYL cA cP cL) [.ref (ob 0), .int x1, .int x2, .ref q] (cw cA cP ob ad S ++ [oc cL q v]) (fun r w => r = res.1 ∧ ∃ ad, w = cw cA cP ob ad res.2.2 ++ [oc cL q res.2.1]) := by
  refine mk_h (cc := b_Lw_nearest) (maxL := 5) (own := R_Lw) (hh := [(0, 10, 13, 13), (0, 10, 17, 15)]) (by decide) rfl rfl (Nat.le_of_ble_eq_true rfl) ?_
  intro p e s m below meth c A Q C0 hret ls hl hP hD hS
  obtain ⟨hx, hb, hml, hown, hts, hK, hA, hN, hZ, hNC, htab⟩ := id C0
  have hl : lv_has ls 5 [(0, .ref (ob 0)), (1, .int x1), (2, .int x2), (3, .ref q)] := hl
  have hK2 : va_K D clC (TY cA cP) s := hK.sub [0, 1] rfl
  refine lv_aload_n hx hb d_Lw_nearest_0 rfl (lv_at hl 3 rfl) ?_
  refine lv_iconst (v := 0) hx hb d_Lw_nearest_1 (by decide) ?_
  refine lv_aload_n hx hb d_Lw_nearest_2 rfl (lv_at hl 0 rfl) ?_
  refine lv_iload_n hx hb d_Lw_nearest_3 rfl (lv_at hl 1 rfl) ?_
  refine lv_iload_n hx hb d_Lw_nearest_4 rfl (lv_at hl 2 rfl) ?_
  cases ht : t_Pn_nearest x1 x2 S with
  | none =>
    unfold h_nearest at hf
    rw [ht] at hf
    obtain ⟨r, hr, hf⟩ := bd_some hf
    cases hf
    refine kg_i (va_runV (As := [.int x1, .int x2]) (rest := [.int 0, .ref q]) ⟨hx, hb, hml, hown, hts⟩ (c_Pn_nearest l D cA cP ob ad x1 x2 S hr s.heap.size) ⟨callB_of 2 hts (gd_Pn_nearest) rfl rfl rfl (hts _ (List.mem_cons_of_mem _ wd_64)) (hts _ (List.mem_cons_of_mem _ wd_794)) dd_Pn_nearest ⟨(Nat.le_of_ble_eq_true rfl), (Nat.le_of_ble_eq_true rfl)⟩, (hts _ (List.mem_cons_of_mem _ wd_795)), (hts _ (List.mem_cons_of_mem _ wd_796))⟩ (kpV hK2 (P_front hP) (D_front hD) hN hZ hS 0 0 rfl rfl) rfl rfl hl.1 rfl (lv_room (Nat.le_of_ble_eq_true rfl)) d_Lw_nearest_5 ⟨by decide +kernel, by decide +kernel⟩) hP hD hS hA (fun r0 w H locs hw hP hD hS => ?_)
    obtain ⟨rfl, rfl⟩ := hw
    refine W.widen (k := 1) (n := 6) (by decide +kernel) (by decide +kernel) ?_
    refine lv_i2l (v := Int32.toInt64 r.1) hx hb d_Lw_nearest_8 rfl ?_
    refine va_last hx hb hK hP hD hS (cw cA cP ob ad r.2).length 2 (by rw [List.getElem?_concat_length]) rfl (inb_in (show inb 0 1 = true by decide)) d_Lw_nearest_9 (fun H locs hP hD hS => ?_)
    rw [set_last] at hP hD
    refine lv_goto (tgt := 21) hx hb d_Lw_nearest_10 (by decide) ?_
    refine lv_iconst (v := 0) hx hb d_Lw_nearest_21 (by decide) ?_
    exact hret _ _ _ _ _ _ ⟨rfl, ad, rfl⟩ hP hD hS d_Lw_nearest_22
  | some r =>
    unfold h_nearest at hf
    rw [ht] at hf
    by_cases hn_1 : r.1 = 1
    · simp only [hn_1, if_true] at hf
      cases hf
      have hct := ct_Pn_nearest l hl0 D cA cP ob ad x1 x2 S ht s.heap.size
      rw [hn_1] at hct
      refine th_caughtW (hp := 13) C0 (th_runV (As := [.int x1, .int x2]) (rest := [.int 0, .ref q]) ⟨hx, hb, hml, hown, hts⟩ hct ⟨callB_of 2 hts (gd_Pn_nearest) rfl rfl rfl (hts _ (List.mem_cons_of_mem _ wd_64)) (hts _ (List.mem_cons_of_mem _ wd_794)) dd_Pn_nearest ⟨(Nat.le_of_ble_eq_true rfl), (Nat.le_of_ble_eq_true rfl)⟩, (hts _ (List.mem_cons_of_mem _ wd_795)), (hts _ (List.mem_cons_of_mem _ wd_796))⟩ (kpV hK2 (P_front hP) (D_front hD) hN hZ hS 0 0 rfl rfl) rfl rfl hl.1 rfl (lv_room (Nat.le_of_ble_eq_true rfl)) d_Lw_nearest_5 ⟨(Nat.le_of_ble_eq_true rfl), (Nat.le_of_ble_eq_true rfl)⟩) hP hD hS (fun T ce x hpl hW hm hc hcell hX hvm => ?_) (fun x w H locs hw hP hD hS => ?_)
      · rcases htl : c.exceptionTable.toList with _ | ⟨y1, tl⟩
        · rw [htl] at htab; cases htab
        · rcases tl with _ | ⟨y2, tl⟩
          · rw [htl] at htab; simp at htab
          · rw [htl] at htab
            simp only [List.map_cons, List.cons.injEq, Prod.mk.injEq] at htab
            obtain ⟨⟨g1, g2, g3, g4⟩, ⟨f1, f2, f3, f4⟩, -⟩ := htab
            rw [← g3]
            exact ft_first hpl hown (hts _ (List.mem_cons_of_mem _ wd_418)) hW hm hc htl (by simp [covers, g1, g2]) g4 (by decide) hcell hX hvm
      · obtain rfl := hw
        refine W.widen (k := 1) (n := 6) (by decide +kernel) (by decide +kernel) ?_
        refine lv_astore (lv' := [(4, .ref x), (0, .ref (ob 0)), (1, .int x1), (2, .int x2), (3, .ref q)]) hx hb d_Lw_nearest_13 hl (by decide) rfl (fun ls hl => ?_)
        refine lv_iconst (v := 1) hx hb d_Lw_nearest_15 (by decide) ?_
        exact hret _ _ _ _ _ _ ⟨rfl, ad, rfl⟩ hP hD hS d_Lw_nearest_16
    by_cases hn_2 : r.1 = 2
    · simp only [hn_2, if_true, show ¬ (2 : Nat) = 1 by decide, if_false] at hf
      cases hf
      have hct := ct_Pn_nearest l hl0 D cA cP ob ad x1 x2 S ht s.heap.size
      rw [hn_2] at hct
      refine th_caughtW (hp := 17) C0 (th_runV (As := [.int x1, .int x2]) (rest := [.int 0, .ref q]) ⟨hx, hb, hml, hown, hts⟩ hct ⟨callB_of 2 hts (gd_Pn_nearest) rfl rfl rfl (hts _ (List.mem_cons_of_mem _ wd_64)) (hts _ (List.mem_cons_of_mem _ wd_794)) dd_Pn_nearest ⟨(Nat.le_of_ble_eq_true rfl), (Nat.le_of_ble_eq_true rfl)⟩, (hts _ (List.mem_cons_of_mem _ wd_795)), (hts _ (List.mem_cons_of_mem _ wd_796))⟩ (kpV hK2 (P_front hP) (D_front hD) hN hZ hS 0 0 rfl rfl) rfl rfl hl.1 rfl (lv_room (Nat.le_of_ble_eq_true rfl)) d_Lw_nearest_5 ⟨(Nat.le_of_ble_eq_true rfl), (Nat.le_of_ble_eq_true rfl)⟩) hP hD hS (fun T ce x hpl hW hm hc hcell hX hvm => ?_) (fun x w H locs hw hP hD hS => ?_)
      · rcases htl : c.exceptionTable.toList with _ | ⟨y1, tl⟩
        · rw [htl] at htab; cases htab
        · rcases tl with _ | ⟨y2, tl⟩
          · rw [htl] at htab; simp at htab
          · rw [htl] at htab
            simp only [List.map_cons, List.cons.injEq, Prod.mk.injEq] at htab
            obtain ⟨⟨g1, g2, g3, g4⟩, ⟨f1, f2, f3, f4⟩, -⟩ := htab
            rw [← f3]
            exact ft_second hpl hown (hts _ (List.mem_cons_of_mem _ wd_418)) (hts _ (List.mem_cons_of_mem _ wd_419)) hNC.1 hW hm hc htl (by simp [covers, g1, g2]) g4 (by decide) (by simp [covers, f1, f2]) f4 (by decide) hcell hX hvm
      · obtain rfl := hw
        refine W.widen (k := 1) (n := 6) (by decide +kernel) (by decide +kernel) ?_
        refine lv_astore (lv' := [(4, .ref x), (0, .ref (ob 0)), (1, .int x1), (2, .int x2), (3, .ref q)]) hx hb d_Lw_nearest_17 hl (by decide) rfl (fun ls hl => ?_)
        refine lv_iconst (v := 2) hx hb d_Lw_nearest_19 (by decide) ?_
        exact hret _ _ _ _ _ _ ⟨rfl, ad, rfl⟩ hP hD hS d_Lw_nearest_20
    · simp only [hn_1, hn_2, if_false] at hf
      cases hf
def h_closest (x1 : Int32) (v : Nat → Int64) (S : St) : Option (Int32 × (Nat → Int64) × St) := match t_Pn_closest x1 S with
  | some r => if r.1 = 2 then some (2, v, r.2) else if r.1 = 3 then some (1, v, r.2) else none
  | none => bd (f_Pn_closest x1 S) (fun r => some (0, vp_updL v (Int32.toNatClampNeg 0) (r.1), r.2))
set_option maxHeartbeats 4000000 in
set_option maxRecDepth 100000 in
theorem c_Lw_closest (l : Launch) (hl0 : l.flags = pinnedFlags ++ [noTraceFlag]) (D : va_G) (cA cP cL : ClassId) (ob : Nat → Nat) (ad : Nat → Nat → Nat) (q : Nat) (x1 : Int32) (v : Nat → Int64) (S : St) {res : Int32 × (Nat → Int64) × St} (hf : h_closest x1 v S = some res) : CTh l y_Lw_closest w_Lw_closest rm_Lw_closest 1 6 D clC (TYL cA cP cL) [.ref (ob 0), .int x1, .ref q] (cw cA cP ob ad S ++ [oc cL q v]) (fun r w => r = res.1 ∧ ∃ ad, w = cw cA cP ob ad res.2.2 ++ [oc cL q res.2.1]) := by
  refine mk_h (cc := b_Lw_closest) (maxL := 4) (own := R_Lw) (hh := [(0, 8, 11, 23), (0, 8, 14, 15)]) (by decide) rfl rfl (Nat.le_of_ble_eq_true rfl) ?_
  intro p e s m below meth c A Q C0 hret ls hl hP hD hS
  obtain ⟨hx, hb, hml, hown, hts, hK, hA, hN, hZ, hNC, htab⟩ := id C0
  have hl : lv_has ls 4 [(0, .ref (ob 0)), (1, .int x1), (2, .ref q)] := hl
  have hK2 : va_K D clC (TY cA cP) s := hK.sub [0, 1] rfl
  refine lv_aload_n hx hb d_Lw_closest_0 rfl (lv_at hl 2 rfl) ?_
  refine lv_iconst (v := 0) hx hb d_Lw_closest_1 (by decide) ?_
  refine lv_aload_n hx hb d_Lw_closest_2 rfl (lv_at hl 0 rfl) ?_
  refine lv_iload_n hx hb d_Lw_closest_3 rfl (lv_at hl 1 rfl) ?_
  cases ht : t_Pn_closest x1 S with
  | none =>
    unfold h_closest at hf
    rw [ht] at hf
    obtain ⟨r, hr, hf⟩ := bd_some hf
    cases hf
    refine kg_l (va_runV (As := [.int x1]) (rest := [.int 0, .ref q]) ⟨hx, hb, hml, hown, hts⟩ (c_Pn_closest l D cA cP ob ad x1 S hr s.heap.size) ⟨callB_of 1 hts (gd_Pn_closest) rfl rfl rfl (hts _ (List.mem_cons_of_mem _ wd_64)) (hts _ (List.mem_cons_of_mem _ wd_802)) dd_Pn_closest ⟨(Nat.le_of_ble_eq_true rfl), (Nat.le_of_ble_eq_true rfl)⟩, (hts _ (List.mem_cons_of_mem _ wd_803)), (hts _ (List.mem_cons_of_mem _ wd_804))⟩ (kpV hK2 (P_front hP) (D_front hD) hN hZ hS 0 0 rfl rfl) rfl rfl hl.1 rfl (lv_room (Nat.le_of_ble_eq_true rfl)) d_Lw_closest_4 ⟨by decide +kernel, by decide +kernel⟩) hP hD hS hA (fun r0 w H locs hw hP hD hS => ?_)
    obtain ⟨rfl, rfl⟩ := hw
    refine W.widen (k := 1) (n := 6) (by decide +kernel) (by decide +kernel) ?_
    refine va_last hx hb hK hP hD hS (cw cA cP ob ad r.2).length 2 (by rw [List.getElem?_concat_length]) rfl (inb_in (show inb 0 1 = true by decide)) d_Lw_closest_7 (fun H locs hP hD hS => ?_)
    rw [set_last] at hP hD
    refine lv_goto (tgt := 17) hx hb d_Lw_closest_8 (by decide) ?_
    refine lv_iconst (v := 0) hx hb d_Lw_closest_17 (by decide) ?_
    exact hret _ _ _ _ _ _ ⟨rfl, ad, rfl⟩ hP hD hS d_Lw_closest_18
  | some r =>
    unfold h_closest at hf
    rw [ht] at hf
    by_cases hn_2 : r.1 = 2
    · simp only [hn_2, if_true] at hf
      cases hf
      have hct := ct_Pn_closest l hl0 D cA cP ob ad x1 S ht s.heap.size
      rw [hn_2] at hct
      refine th_caughtW (hp := 14) C0 (th_runV (As := [.int x1]) (rest := [.int 0, .ref q]) ⟨hx, hb, hml, hown, hts⟩ hct ⟨callB_of 1 hts (gd_Pn_closest) rfl rfl rfl (hts _ (List.mem_cons_of_mem _ wd_64)) (hts _ (List.mem_cons_of_mem _ wd_802)) dd_Pn_closest ⟨(Nat.le_of_ble_eq_true rfl), (Nat.le_of_ble_eq_true rfl)⟩, (hts _ (List.mem_cons_of_mem _ wd_803)), (hts _ (List.mem_cons_of_mem _ wd_804))⟩ (kpV hK2 (P_front hP) (D_front hD) hN hZ hS 0 0 rfl rfl) rfl rfl hl.1 rfl (lv_room (Nat.le_of_ble_eq_true rfl)) d_Lw_closest_4 ⟨(Nat.le_of_ble_eq_true rfl), (Nat.le_of_ble_eq_true rfl)⟩) hP hD hS (fun T ce x hpl hW hm hc hcell hX hvm => ?_) (fun x w H locs hw hP hD hS => ?_)
      · rcases htl : c.exceptionTable.toList with _ | ⟨y1, tl⟩
        · rw [htl] at htab; cases htab
        · rcases tl with _ | ⟨y2, tl⟩
          · rw [htl] at htab; simp at htab
          · rw [htl] at htab
            simp only [List.map_cons, List.cons.injEq, Prod.mk.injEq] at htab
            obtain ⟨⟨g1, g2, g3, g4⟩, ⟨f1, f2, f3, f4⟩, -⟩ := htab
            rw [← f3]
            exact ft_second hpl hown (hts _ (List.mem_cons_of_mem _ wd_661)) (hts _ (List.mem_cons_of_mem _ wd_419)) hNC.2 hW hm hc htl (by simp [covers, g1, g2]) g4 (by decide) (by simp [covers, f1, f2]) f4 (by decide) hcell hX hvm
      · obtain rfl := hw
        refine W.widen (k := 1) (n := 6) (by decide +kernel) (by decide +kernel) ?_
        refine lv_astore_n (lv' := [(3, .ref x), (0, .ref (ob 0)), (1, .int x1), (2, .ref q)]) hx hb d_Lw_closest_14 rfl hl (by decide) rfl (fun ls hl => ?_)
        refine lv_iconst (v := 2) hx hb d_Lw_closest_15 (by decide) ?_
        exact hret _ _ _ _ _ _ ⟨rfl, ad, rfl⟩ hP hD hS d_Lw_closest_16
    by_cases hn_3 : r.1 = 3
    · simp only [hn_3, if_true, show ¬ (3 : Nat) = 2 by decide, if_false] at hf
      cases hf
      have hct := ct_Pn_closest l hl0 D cA cP ob ad x1 S ht s.heap.size
      rw [hn_3] at hct
      refine th_caughtW (hp := 11) C0 (th_runV (As := [.int x1]) (rest := [.int 0, .ref q]) ⟨hx, hb, hml, hown, hts⟩ hct ⟨callB_of 1 hts (gd_Pn_closest) rfl rfl rfl (hts _ (List.mem_cons_of_mem _ wd_64)) (hts _ (List.mem_cons_of_mem _ wd_802)) dd_Pn_closest ⟨(Nat.le_of_ble_eq_true rfl), (Nat.le_of_ble_eq_true rfl)⟩, (hts _ (List.mem_cons_of_mem _ wd_803)), (hts _ (List.mem_cons_of_mem _ wd_804))⟩ (kpV hK2 (P_front hP) (D_front hD) hN hZ hS 0 0 rfl rfl) rfl rfl hl.1 rfl (lv_room (Nat.le_of_ble_eq_true rfl)) d_Lw_closest_4 ⟨(Nat.le_of_ble_eq_true rfl), (Nat.le_of_ble_eq_true rfl)⟩) hP hD hS (fun T ce x hpl hW hm hc hcell hX hvm => ?_) (fun x w H locs hw hP hD hS => ?_)
      · rcases htl : c.exceptionTable.toList with _ | ⟨y1, tl⟩
        · rw [htl] at htab; cases htab
        · rcases tl with _ | ⟨y2, tl⟩
          · rw [htl] at htab; simp at htab
          · rw [htl] at htab
            simp only [List.map_cons, List.cons.injEq, Prod.mk.injEq] at htab
            obtain ⟨⟨g1, g2, g3, g4⟩, ⟨f1, f2, f3, f4⟩, -⟩ := htab
            rw [← g3]
            exact ft_first hpl hown (hts _ (List.mem_cons_of_mem _ wd_661)) hW hm hc htl (by simp [covers, g1, g2]) g4 (by decide) hcell hX hvm
      · obtain rfl := hw
        refine W.widen (k := 1) (n := 6) (by decide +kernel) (by decide +kernel) ?_
        refine lv_astore_n (lv' := [(3, .ref x), (0, .ref (ob 0)), (1, .int x1), (2, .ref q)]) hx hb d_Lw_closest_11 rfl hl (by decide) rfl (fun ls hl => ?_)
        refine lv_iconst (v := 1) hx hb d_Lw_closest_12 (by decide) ?_
        exact hret _ _ _ _ _ _ ⟨rfl, ad, rfl⟩ hP hD hS d_Lw_closest_13
    · simp only [hn_2, hn_3, if_false] at hf
      cases hf
def h_point (x1 x2 : Int32) (v : Nat → Int64) (S : St) : Option (Int32 × (Nat → Int64) × St) := match t_Pn_point x1 x2 S with
  | some r => if r.1 = 3 then some (1, v, r.2) else none
  | none => bd (f_Pn_point x1 x2 S) (fun r => some (0, vp_updL v (Int32.toNatClampNeg 0) (Int32.toInt64 r.1), r.2))
set_option maxHeartbeats 4000000 in
set_option maxRecDepth 100000 in
theorem c_Lw_point (l : Launch) (hl0 : l.flags = pinnedFlags ++ [noTraceFlag]) (D : va_G) (cA cP cL : ClassId) (ob : Nat → Nat) (ad : Nat → Nat → Nat) (q : Nat) (x1 x2 : Int32) (v : Nat → Int64) (S : St) {res : Int32 × (Nat → Int64) × St} (hf : h_point x1 x2 v S = some res) : CTh l y_Lw_point w_Lw_point rm_Lw_point 1 6 D clC (TYL cA cP cL) [.ref (ob 0), .int x1, .int x2, .ref q] (cw cA cP ob ad S ++ [oc cL q v]) (fun r w => r = res.1 ∧ ∃ ad, w = cw cA cP ob ad res.2.2 ++ [oc cL q res.2.1]) := by
  refine mk_h (cc := b_Lw_point) (maxL := 5) (own := R_Lw) (hh := [(0, 10, 13, 23)]) (by decide) rfl rfl (Nat.le_of_ble_eq_true rfl) ?_
  intro p e s m below meth c A Q C0 hret ls hl hP hD hS
  obtain ⟨hx, hb, hml, hown, hts, hK, hA, hN, hZ, hNC, htab⟩ := id C0
  have hl : lv_has ls 5 [(0, .ref (ob 0)), (1, .int x1), (2, .int x2), (3, .ref q)] := hl
  have hK2 : va_K D clC (TY cA cP) s := hK.sub [0, 1] rfl
  refine lv_aload_n hx hb d_Lw_point_0 rfl (lv_at hl 3 rfl) ?_
  refine lv_iconst (v := 0) hx hb d_Lw_point_1 (by decide) ?_
  refine lv_aload_n hx hb d_Lw_point_2 rfl (lv_at hl 0 rfl) ?_
  refine lv_iload_n hx hb d_Lw_point_3 rfl (lv_at hl 1 rfl) ?_
  refine lv_iload_n hx hb d_Lw_point_4 rfl (lv_at hl 2 rfl) ?_
  cases ht : t_Pn_point x1 x2 S with
  | none =>
    unfold h_point at hf
    rw [ht] at hf
    obtain ⟨r, hr, hf⟩ := bd_some hf
    cases hf
    refine kg_i (va_runV (As := [.int x1, .int x2]) (rest := [.int 0, .ref q]) ⟨hx, hb, hml, hown, hts⟩ (c_Pn_point l D cA cP ob ad x1 x2 S hr s.heap.size) ⟨callB_of 2 hts (gd_Pn_point) rfl rfl rfl (hts _ (List.mem_cons_of_mem _ wd_64)) (hts _ (List.mem_cons_of_mem _ wd_811)) dd_Pn_point ⟨(Nat.le_of_ble_eq_true rfl), (Nat.le_of_ble_eq_true rfl)⟩, (hts _ (List.mem_cons_of_mem _ wd_812)), (hts _ (List.mem_cons_of_mem _ wd_813))⟩ (kpV hK2 (P_front hP) (D_front hD) hN hZ hS 0 0 rfl rfl) rfl rfl hl.1 rfl (lv_room (Nat.le_of_ble_eq_true rfl)) d_Lw_point_5 ⟨by decide +kernel, by decide +kernel⟩) hP hD hS hA (fun r0 w H locs hw hP hD hS => ?_)
    obtain ⟨rfl, rfl⟩ := hw
    refine W.widen (k := 1) (n := 6) (by decide +kernel) (by decide +kernel) ?_
    refine lv_i2l (v := Int32.toInt64 r.1) hx hb d_Lw_point_8 rfl ?_
    refine va_last hx hb hK hP hD hS (cw cA cP ob ad r.2).length 2 (by rw [List.getElem?_concat_length]) rfl (inb_in (show inb 0 1 = true by decide)) d_Lw_point_9 (fun H locs hP hD hS => ?_)
    rw [set_last] at hP hD
    refine lv_goto (tgt := 17) hx hb d_Lw_point_10 (by decide) ?_
    refine lv_iconst (v := 0) hx hb d_Lw_point_17 (by decide) ?_
    exact hret _ _ _ _ _ _ ⟨rfl, ad, rfl⟩ hP hD hS d_Lw_point_18
  | some r =>
    unfold h_point at hf
    rw [ht] at hf
    by_cases hn_3 : r.1 = 3
    · simp only [hn_3, if_true] at hf
      cases hf
      have hct := ct_Pn_point l hl0 D cA cP ob ad x1 x2 S ht s.heap.size
      rw [hn_3] at hct
      refine th_caughtW (hp := 13) C0 (th_runV (As := [.int x1, .int x2]) (rest := [.int 0, .ref q]) ⟨hx, hb, hml, hown, hts⟩ hct ⟨callB_of 2 hts (gd_Pn_point) rfl rfl rfl (hts _ (List.mem_cons_of_mem _ wd_64)) (hts _ (List.mem_cons_of_mem _ wd_811)) dd_Pn_point ⟨(Nat.le_of_ble_eq_true rfl), (Nat.le_of_ble_eq_true rfl)⟩, (hts _ (List.mem_cons_of_mem _ wd_812)), (hts _ (List.mem_cons_of_mem _ wd_813))⟩ (kpV hK2 (P_front hP) (D_front hD) hN hZ hS 0 0 rfl rfl) rfl rfl hl.1 rfl (lv_room (Nat.le_of_ble_eq_true rfl)) d_Lw_point_5 ⟨(Nat.le_of_ble_eq_true rfl), (Nat.le_of_ble_eq_true rfl)⟩) hP hD hS (fun T ce x hpl hW hm hc hcell hX hvm => ?_) (fun x w H locs hw hP hD hS => ?_)
      · rcases htl : c.exceptionTable.toList with _ | ⟨y1, tl⟩
        · rw [htl] at htab; cases htab
        · rw [htl] at htab
          simp only [List.map_cons, List.cons.injEq, Prod.mk.injEq] at htab
          obtain ⟨⟨g1, g2, g3, g4⟩, -⟩ := htab
          rw [← g3]
          exact ft_first hpl hown (hts _ (List.mem_cons_of_mem _ wd_661)) hW hm hc htl (by simp [covers, g1, g2]) g4 (by decide) hcell hX hvm
      · obtain rfl := hw
        refine W.widen (k := 1) (n := 6) (by decide +kernel) (by decide +kernel) ?_
        refine lv_astore (lv' := [(4, .ref x), (0, .ref (ob 0)), (1, .int x1), (2, .int x2), (3, .ref q)]) hx hb d_Lw_point_13 hl (by decide) rfl (fun ls hl => ?_)
        refine lv_iconst (v := 1) hx hb d_Lw_point_15 (by decide) ?_
        exact hret _ _ _ _ _ _ ⟨rfl, ad, rfl⟩ hP hD hS d_Lw_point_16
    · simp only [hn_3, if_false] at hf
      cases hf
