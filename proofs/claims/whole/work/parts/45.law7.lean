/-! THE LAW, 7: its beginning. -/
def R_law : String := "PlaneNetLaw"
def lw_P (b : Addr) (xs : List Int32) (args : Array Value) (s : State) : Prop := args = #[.ref b] ∧ s.IntsAt b xs ∧ xs.length ≤ 1537 ∧ (Jvm.Cond.and given_1 narrow_1).before args s = true
def lw_Q (_ : Array Value) (s : State) (o : Outcome) (t : State) : Prop := o = .returned (some (.int 1)) ∧ Framed s o t [] 601024 7293000
def lw_Z (below : List Frame) (a : Array Value) (s : State) : State → Prop := fun t => ∃ o, t.status = .running ∧ Ended t below o ∧ lw_Q a s o t
/-- the law's own end, with 1 on the stack, nothing written that was there before, its room as the claim has it -/
theorem lw_ret {p : Program} {l : Launch} {e : Env} {s : State} {m : MethodId} {below : List Frame} {meth : Method} {c : Code} {b : Nat} (hx : p.tables.exec = Jvm.exec) (hb : c.code = code) (hr : meth.sig.returnType = ret) (hlocks : meth.locks = false) {pc : Nat} {H : Heap} {ls : Array Slot} (hdg : decode code pc = .ok (.ireturn, 1)) : W p l e room_1 s m #[Value.ref b] below meth c H [] 601024 7293000 (lw_Z below #[Value.ref b] s) (F0 m pc ls [.int 1]) := by
  intro T hT X
  obtain ⟨fs, hret, hrun, hended, hW, hframe⟩ := X.leave (v := some (.int 1)) (hlocks := hlocks) (fun h => by rw [hr] at h; cases h)
  have hmeth' : T.vm.method? m = some meth := X.method'
  refine ⟨T.setFrames fs, ?_, .returned (some (.int 1)), hrun, hended, rfl, ⟨_, rfl⟩, hW, hframe⟩
  jvm_step X.here [X.here.top, hx, hb, hdg, hmeth', hr, ret, narrow_b1]
  (try refine ⟨rfl, ?_⟩); (try refine ⟨rfl, ?_⟩)
  first | (intro acts; rw [hret _ acts rfl rfl rfl]) | rw [hret _ _ rfl rfl rfl]
  exact Steps.refl _
/-- what holds at the law's entry: the machine, the code, the tables' words (any of lw_tbl by 'hts w (by decide +kernel)'), the script of L ints xs at the cell b, what the Statement gives of the start (any of its parts by flat_of_before) -/
def lw_At (p : Program) (s : State) (m : MethodId) (meth : Method) (c : Code) (b L : Nat) (xs : Nat → Int32) : Prop :=
  p.tables.exec = Jvm.exec ∧ c.code = code ∧ meth.sig.returnType = ret ∧ c.maxLocals = 8 ∧ s.vm.findClass R_law = some m.cls ∧ (∀ w ∈ lw_tbl, w.before #[Value.ref b] s = true) ∧ va_X b L xs s s.heap ∧ b < s.heap.size ∧ meth.locks = false ∧ (Jvm.Cond.and given_1 narrow_1).before #[Value.ref b] s = true
theorem str_ref {args : Array Value} {s : State} {own tx : String} {k : Nat} (h : (Cond.stringRef own k tx).before args s = true) : ∃ a : Nat, vk_R own k tx a s := by
  cases hc : s.vm.findClass own with
  | none => simp [Cond.before, Cond.holds, Cond.value, hc] at h
  | some cur =>
    obtain ⟨kk, cf, i, a, -, -, -, -, -, hev⟩ := Cond.stringRef_spec hc h
    exact ⟨a, vk_R.of h hev⟩
theorem arr_ty {args : Array Value} {s : State} {ty : FieldType} (h : (Cond.arrayClass ty).before args s = true) : ∃ c : ClassId, ArrOfT s c ty ∧ s.vm.findClass ("[" ++ ty.toString) = some c := by
  obtain ⟨c, k, comp, h1, h2, h3⟩ := Cond.arrayClass_spec h
  exact ⟨c, fun n z => ⟨fun q h => (by cases h), k, h2, comp, h3⟩, h1⟩
theorem cls_known {s : State} {args : Array Value} {C : String} {T : u_T} {N n : Nat} (hts : ∀ w ∈ TT, w.before args s = true) (hin : ∀ w ∈ u_ws C T N, w ∈ TT) (hi : Cond.instantiable C n ∈ TT) : ∃ (cC : ClassId) (iS : Nat → Nat), u_Kn s C T N cC iS := u_known hts hin (hts _ hi)
set_option maxHeartbeats 4000000 in
set_option maxRecDepth 100000 in
theorem law_C0 {p : Program} {s : State} {m : MethodId} {meth : Method} {c : Code} {b L : Nat} {xs : Nat → Int32} (C : lw_At p s m meth c b L xs) : ∃ (D : va_G) (cA cP cL : ClassId), LC p s m c b L xs D cA cP cL := by
  obtain ⟨hx, hb, hr, hml, hown, hts0, hX, hbl, hlk, hgv⟩ := C
  have hts : ∀ w ∈ TT, w.before #[Value.ref b] s = true := fun w h => hts0 w (List.mem_filter.mp h).1
  have hflat := flat_of_before _ hgv
  obtain ⟨c0, i0, k0⟩ := cls_known hts in_Pn wd_81
  obtain ⟨c1, i1, k1⟩ := cls_known hts in_Pt wd_89
  obtain ⟨c2, i2, k2⟩ := cls_known hts in_Wd wd_116
  obtain ⟨c3, i3, k3⟩ := cls_known hts in_Nt wd_151
  obtain ⟨c4, i4, k4⟩ := cls_known hts in_Rl wd_199
  obtain ⟨c5, i5, k5⟩ := cls_known hts in_Ol wd_226
  obtain ⟨c6, i6, k6⟩ := cls_known hts in_Rw wd_101
  obtain ⟨c7, i7, k7⟩ := cls_known hts in_Md wd_817
  obtain ⟨cA, tA, nA⟩ := arr_ty (hts _ wd_274)
  obtain ⟨cL, tL, nL⟩ := arr_ty (hts _ wd_1088)
  have hao : va_Nw (.arrayOver (.array .int)) s := hts0 _ w_ao
  obtain ⟨comp, cP, kP, -, -, p3, p4, p5⟩ := arrayOverA_spec hao
  have hN : NW s := ⟨fun w hw hk => va_Nw.of (thK_tab hk) (hts0 w hw), fun own k tx hm => str_ref (hts0 _ hm), hao⟩
  have hZ : ZQ (fun _ => False) s s.heap := ⟨ZL.of (hts0 _ w_ls1) (hflat _ (by decide +kernel)), ZL.of (hts0 _ w_ls2) (hflat _ (by decide +kernel))⟩
  have hNC : NCs s := ⟨va_Nc.of (hflat _ (by decide +kernel)), va_Nc.of (hflat _ (by decide +kernel))⟩
  have hK : va_K (fun k => [c0, c1, c2, c3, c4, c5, c6, c7].getD k 0, fun k => [i0, i1, i2, i3, i4, i5, i6, i7].getD k (fun _ => 0)) clC (TYL cA cP cL) s := by
    refine ⟨fun k q hq => ?_, fun k q hq => ?_⟩
    · match k, hq with
      | 0, hq => cases hq; exact k0
      | 1, hq => cases hq; exact k1
      | 2, hq => cases hq; exact k2
      | 3, hq => cases hq; exact k3
      | 4, hq => cases hq; exact k4
      | 5, hq => cases hq; exact k5
      | 6, hq => cases hq; exact k6
      | 7, hq => cases hq; exact k7
      | n + 8, hq => cases hq
    · match k, hq with
      | 0, hq => cases hq; exact ⟨tA, nA⟩
      | 1, hq => cases hq; exact ⟨fun n z => ⟨fun q h => (by cases h), kP, p3, comp, p4⟩, p5⟩
      | 2, hq => cases hq; exact ⟨tL, nL⟩
      | n + 3, hq => cases hq
  refine ⟨_, cA, cP, cL, hx, hb, hml, hown, fun w hw => ?_, hK, hN, ⟨zl_in hK P_nil hZ.1, zl_in hK P_nil hZ.2⟩, hNC, hX, hbl⟩
  rcases List.mem_cons.mp hw with rfl | h
  · exact hts _ wd_64
  · exact hts w h
set_option maxHeartbeats 4000000 in
set_option maxRecDepth 100000 in
theorem law_walk {I : Rel} (hI : LawInv I) {p : Program} {l : Launch} {e : Env} {s : State} {m : MethodId} {below : List Frame} {meth : Method} {c : Code} {Q : State → Prop} {D : va_G} {cA cP cL : ClassId} {b L : Nat} {xs : Nat → Int32} (hl0 : l.flags = pinnedFlags ++ [noTraceFlag]) (C0 : LC p s m c b L xs D cA cP cL) (hL : L ≤ 1537)
    (hend : ∀ (H : Heap) (locs : List Loc) (ls : Array Slot) (cells slots : Nat), va_S (va_A [] s.heap.size) s.heap H locs → cells ≤ 601024 → slots ≤ 7293000 → W p l e room_1 s m #[Value.ref b] below meth c H locs cells slots Q (F0 m 828 ls []))
    {ls : Array Slot} (hl : lv_has ls 8 [(0, .ref b)]) : W p l e room_1 s m #[Value.ref b] below meth c s.heap [] 0 0 Q (F0 m 0 ls []) := by
  have hA : ∀ q : Nat, s.heap.size ≤ q → va_A [] s.heap.size q := fun q h => Or.inr h
  obtain ⟨hx, hb, hml, hown, hts, hK, hN, hZ, hNC, hX, hbl⟩ := id C0
  have hK2 : va_K D clC (TY cA cP) s := hK.sub [0, 1] rfl
  have hbA := C0.out
  have hP : va_P D clC [] s.heap := P_nil
  have hD : va_D (va_A [] s.heap.size) [] := D_nil
  have hS : va_S (va_A [] s.heap.size) s.heap s.heap [] := va_S.rf
  have hpre : ∀ (H : Heap) (locs : List Loc), va_S (va_A [] s.heap.size) s.heap H locs → PreS s H (va_Pc [.ref b, .int 0] (fun U => U.heap.size = H.size ∧ va_X b L xs U U.heap ∧ b < H.size ∧ va_K D clC (TYL cA cP cL) U)) [.ref b, .int 0] := by
    intro H locs hS
    refine ⟨fun a U g mk q => ?_, fun U hU hW => ⟨rfl, by rw [hU], ?_, Nat.lt_of_lt_of_le hbl hS.1, va_K.moved hW.alike hK⟩⟩
    · obtain ⟨q0, q1, q2, q3, q4⟩ := q
      exact ⟨q0, q1, va_X.moved (u := U) (U := U.calling g mk a) (Vm.Alike.refl U.vm) q2, q3, va_K.moved (u := U) (U := U.calling g mk a) (Vm.Alike.refl U.vm) q4⟩
    · rw [hU]
      exact va_X.moved hW.alike (hX.kept (hS.2.1 b hbl hbA))
  refine va_new (ci := 0) (fs := [.null, .null, .null, .null, .null, .long 0, .int 0, .int 0]) (C := R_Pn) (T := F_Pn) (N := 8) hx hb hts (fun w h => List.mem_cons_of_mem _ (in_Pn w h)) t_Pn tk_Pn hown (hts _ (List.mem_cons_of_mem _ wd_80)) (hts _ (List.mem_cons_of_mem _ wd_81)) (hts _ (List.mem_cons_of_mem _ wd_64)) hK hP hD hS hA rfl (fun j hj => by rcases (show j = 0 ∨ j = 1 ∨ j = 2 ∨ j = 3 ∨ j = 4 ∨ j = 5 ∨ j = 6 ∨ j = 7 by omega) with rfl | rfl | rfl | rfl | rfl | rfl | rfl | rfl <;> rfl) (show 1 ≤ room_1.cells by decide +kernel) (show 8 ≤ room_1.slots by decide +kernel) d_law_0 (fun h0 H hP hD hS => ?_)
  refine lv_dup hx hb d_law_3 rfl ?_
  refine lv_aload_n hx hb d_law_4 rfl (lv_at hl 0 rfl) ?_
  refine lv_iconst (v := 0) hx hb d_law_5 (by decide) ?_
  refine kg_i (w0 := []) (va_runS (As := [.ref b, .int 0]) (rest := [.ref h0, .ref h0]) ⟨hx, hb, hml, hown, hts⟩ (c_Lw_cell l D cA cP cL hL H.size) ⟨callB_of 2 hts (gd_Lw_cell) rfl rfl rfl (hts _ (List.mem_cons_of_mem _ wd_63)) (hts _ (List.mem_cons_of_mem _ wd_412)) dd_Lw_cell ⟨Nat.le_of_ble_eq_true rfl, Nat.le_of_ble_eq_true rfl⟩, (hts _ (List.mem_cons_of_mem _ wd_413))⟩ (hpre _ _ hS) rfl rfl hl.1 rfl (lv_room (Nat.le_of_ble_eq_true rfl)) d_law_6 ⟨by decide +kernel, by decide +kernel⟩) hP hD hS hA (fun r0 w H locs hw hP hD hS => ?_)
  obtain ⟨rfl, rfl⟩ := hw
  refine kg_v (w0 := [(h0, .inr (0, [.null, .null, .null, .null, .null, .long 0, .int 0, .int 0]))]) (wr := []) (va_runI (As := [.int (cv L xs)]) (rest := [.ref h0]) ⟨hx, hb, hml, hown, hts⟩ (c_Pn_init l D cA cP h0 (cv L xs) (hI.2.1 _) H.size) ⟨callB_of 1 hts gd_Pn_init rfl rfl rfl (hts _ (List.mem_cons_of_mem _ wd_64)) (hts _ (List.mem_cons_of_mem _ wd_82)) dd_Pn_init ⟨Nat.le_of_ble_eq_true rfl, Nat.le_of_ble_eq_true rfl⟩, rfl, (hts _ (List.mem_cons_of_mem _ wd_83))⟩ (kpS hK2 hP hD hN hZ hS) rfl rfl hl.1 rfl (lv_room (Nat.le_of_ble_eq_true rfl)) d_law_9 ⟨by decide +kernel, by decide +kernel⟩) hP hD hS hA (fun w H2 locs2 hw hP2 hD2 hS2 => ?_)
  obtain ⟨ob, ad, hob, rfl⟩ := hw
  rw [List.append_nil] at hP2 hD2
  obtain rfl : ob 0 = h0 := hob
  refine lv_astore_n (lv' := [(1, .ref (ob 0)), (0, .ref b)]) hx hb d_law_12 rfl hl (by decide) rfl (fun ls hl => ?_)
  refine va_new (ci := 7) (fs := [.int 0, .int 0, .int 0, .null, .null, .int 0, .int 0, .null, .null, .null, .int 0, .null, .int 0, .int 0, .null, .null, .int 0, .null, .long 0, .long 0, .long 0, .long 0, .long 0, .int 0, .null, .null]) (C := R_Md) (T := F_Md) (N := 26) hx hb hts (fun w h => List.mem_cons_of_mem _ (in_Md w h)) t_Md tk_Md hown (hts _ (List.mem_cons_of_mem _ wd_816)) (hts _ (List.mem_cons_of_mem _ wd_817)) (hts _ (List.mem_cons_of_mem _ wd_72)) hK hP2 hD2 hS2 hA rfl (fun j hj => by rcases (show j = 0 ∨ j = 1 ∨ j = 2 ∨ j = 3 ∨ j = 4 ∨ j = 5 ∨ j = 6 ∨ j = 7 ∨ j = 8 ∨ j = 9 ∨ j = 10 ∨ j = 11 ∨ j = 12 ∨ j = 13 ∨ j = 14 ∨ j = 15 ∨ j = 16 ∨ j = 17 ∨ j = 18 ∨ j = 19 ∨ j = 20 ∨ j = 21 ∨ j = 22 ∨ j = 23 ∨ j = 24 ∨ j = 25 by omega) with rfl | rfl | rfl | rfl | rfl | rfl | rfl | rfl | rfl | rfl | rfl | rfl | rfl | rfl | rfl | rfl | rfl | rfl | rfl | rfl | rfl | rfl | rfl | rfl | rfl | rfl <;> rfl) (by decide +kernel) (by decide +kernel) d_law_13 (fun h1 H3 hP3 hD3 hS3 => ?_)
  have hP4 := P_perm List.perm_append_comm hP3
  have hD4 := D_perm List.perm_append_comm hD3
  refine lv_dup hx hb d_law_16 rfl ?_
  refine lv_aload_n hx hb d_law_17 rfl (lv_at hl 1 rfl) ?_
  refine lv_iconst (v := 0) hx hb d_law_18 (by decide) ?_
  refine kg_i (w0 := []) (va_runS (As := [.ref b, .int 0]) (rest := [.ref h1, .ref h1]) ⟨hx, hb, hml, hown, hts⟩ (c_Lw_cell l D cA cP cL hL H3.size) ⟨callB_of 2 hts (gd_Lw_cell) rfl rfl rfl (hts _ (List.mem_cons_of_mem _ wd_63)) (hts _ (List.mem_cons_of_mem _ wd_412)) dd_Lw_cell ⟨Nat.le_of_ble_eq_true rfl, Nat.le_of_ble_eq_true rfl⟩, (hts _ (List.mem_cons_of_mem _ wd_413))⟩ (hpre _ _ hS3) rfl rfl hl.1 rfl (lv_room (Nat.le_of_ble_eq_true rfl)) d_law_19 ⟨by decide +kernel, by decide +kernel⟩) hP4 hD4 hS3 hA (fun r0 w H5 locs5 hw hP5 hD5 hS5 => ?_)
  obtain ⟨rfl, rfl⟩ := hw
  refine kg_v (w0 := [(h1, .inr (7, [.int 0, .int 0, .int 0, .null, .null, .int 0, .int 0, .null, .null, .null, .int 0, .null, .int 0, .int 0, .null, .null, .int 0, .null, .long 0, .long 0, .long 0, .long 0, .long 0, .int 0, .null, .null]))]) (wr := cw cA cP ob ad (s0_c (clampC (cv L xs)))) (va_runI (As := [.int (cv L xs)]) (rest := [.ref h1]) ⟨hx, hb, hml, hown, hts⟩ (c_Md_init l D cA cP h1 (cv L xs) H5.size) ⟨callB_of 1 hts gd_Md_init rfl rfl rfl (hts _ (List.mem_cons_of_mem _ wd_72)) (hts _ (List.mem_cons_of_mem _ wd_818)) dd_Md_init ⟨Nat.le_of_ble_eq_true rfl, Nat.le_of_ble_eq_true rfl⟩, rfl, (hts _ (List.mem_cons_of_mem _ wd_819))⟩ (kpS hK2 (P_front hP5) (D_front hD5) hN hZ hS5) rfl rfl hl.1 rfl (lv_room (Nat.le_of_ble_eq_true rfl)) d_law_22 ⟨by decide +kernel, by decide +kernel⟩) hP5 hD5 hS5 hA (fun w H6 locs6 hw hP6 hD6 hS6 => ?_)
  obtain ⟨ob2, ad2, r2, rfl, hob2, rfl⟩ := hw
  obtain rfl : ob2 0 = h1 := hob2
  refine lv_astore_n (lv' := [(2, .ref (ob2 0)), (1, .ref (ob 0)), (0, .ref b)]) hx hb d_law_25 rfl hl (by decide) rfl (fun ls hl => ?_)
  refine lv_iconst (v := 1) hx hb d_law_26 (by decide) ?_
  refine va_newa (atype := .long) (ty := .long) (N' := 1) (a0 := (1, .inr (.inl (fun _ => 0)))) hx hb (hts _ (List.mem_cons_of_mem _ wd_1088)) rfl hK hP6 hD6 hS6 hA (fun _ => rfl) (by decide) (by decide) (by decide) (by decide +kernel) (by decide +kernel) d_law_27 (fun q cB H7 hK1 hP7 hD7 hS7 => ?_)
  obtain rfl : cL = cB := by
    have a1 := (hK1.2 2 (cL, .long) rfl).2
    have a2 := (hK1.2 3 (cB, .long) rfl).2
    exact Option.some.inj (a1.symm.trans a2)
  have e1 : ((mw cA cP ob2 ad2 (s0_m (clampM (cv L xs))) ++ cw cA cP ob ad (s0_c (clampC (cv L xs)))) ++ [oc cL q (fun _ => 0)]).Perm (lw cA cP cL ob ad ob2 ad2 q (s0_c (clampC (cv L xs))) (fun _ => 0) (s0_m (clampM (cv L xs)))) := by
    rw [List.append_assoc]
    exact List.perm_append_comm
  have hP8 := P_perm e1 hP7
  have hD8 := D_perm e1 hD7
  refine lv_astore_n (lv' := [(3, .ref q), (2, .ref (ob2 0)), (1, .ref (ob 0)), (0, .ref b)]) hx hb d_law_29 rfl hl (by decide) rfl (fun ls hl => ?_)
  refine lv_iconst (v := 1) hx hb d_law_30 (by decide) ?_
  refine lv_istore (lv' := [(4, .int 1), (3, .ref q), (2, .ref (ob2 0)), (1, .ref (ob 0)), (0, .ref b)]) hx hb d_law_31 hl (by decide) rfl (fun ls hl => ?_)
  refine W.widen (k := 1000 + 12 * 0) (n := 100000 + 384 * 0) (by decide +kernel) (by decide +kernel) ?_
  exact law_loop hI hl0 C0 hL hend 512 0 rfl _ _ _ ad H7 locs6 ls (hI.1 _) hP8 hD8 hS7 (lv_sub hl [4, 3, 2, 1, 0] rfl)

