theorem nI_3 (a : Nat) : nI a + 3 = nI (a + 3) := by rw [show (3 : Int32) = nI 3 from rfl, nI_add]
theorem and15 (x : Int32) : 0 ≤ Int32.toInt (x &&& 15) ∧ Int32.toInt (x &&& 15) ≤ 15 := by
  have h : (x &&& 15).toBitVec = x.toBitVec &&& 15#32 := rfl
  have h2 : (x &&& 15).toBitVec.toNat ≤ 15 := by
    rw [h, BitVec.toNat_and]
    exact Nat.and_le_right
  have h3 : Int32.toInt (x &&& 15) = ((x &&& 15).toBitVec.toNat : Int) := by
    show (x &&& 15).toBitVec.toInt = _
    rw [BitVec.toInt_eq_toNat_of_lt (by omega)]
  omega
theorem sub3 {L n : Nat} (hL : L ≤ 1537) (hn : n ≤ 512) (h : ¬ Int32.ofNat L - 3 < nI (3 * n + 1)) : 3 * n + 4 ≤ L := by
  have e1 : (Int32.ofNat L - 3).toInt = (L : Int) - 3 := by
    rw [Int32.toInt_sub, show (Int32.ofNat L).toInt = (L : Int) from nI_toInt (by omega), show (3 : Int32).toInt = 3 from rfl]
    exact Int.bmod_eq_of_le (by omega) (by omega)
  rw [Int32.lt_iff_toInt_lt, e1, nI_toInt (by omega)] at h
  omega
set_option maxHeartbeats 4000000 in
set_option maxRecDepth 100000 in
theorem law_loop {I : Rel} (hI : LawInv I) {p : Program} {l : Launch} {e : Env} {s : State} {m : MethodId} {below : List Frame} {meth : Method} {c : Code} {Q : State → Prop} {D : va_G} {cA cP cL : ClassId} {b L : Nat} {xs : Nat → Int32} {ob ob2 : Nat → Nat} {ad2 : Nat → Nat → Nat} {q : Nat} (hl0 : l.flags = pinnedFlags ++ [noTraceFlag]) (C0 : LC p s m c b L xs D cA cP cL) (hL : L ≤ 1537)
    (hend : ∀ (H : Heap) (locs : List Loc) (ls : Array Slot) (cells slots : Nat), va_S (va_A [] s.heap.size) s.heap H locs → cells ≤ 601024 → slots ≤ 7293000 → W p l e room_1 s m #[Value.ref b] below meth c H locs cells slots Q (F0 m 828 ls [])) :
    ∀ (d n : Nat), n + d = 512 → ∀ (Sc Sm : St) (v : Nat → Int64) (ad : Nat → Nat → Nat) (H : Heap) (locs : List Loc) (ls : Array Slot), I n Sc Sm → va_P D clC (lw cA cP cL ob ad ob2 ad2 q Sc v Sm) H → va_D (va_A [] s.heap.size) (lw cA cP cL ob ad ob2 ad2 q Sc v Sm) → va_S (va_A [] s.heap.size) s.heap H locs → lv_has ls 8 [(0, .ref b), (1, .ref (ob 0)), (2, .ref (ob2 0)), (3, .ref q), (4, .int (nI (3 * n + 1)))] → W p l e room_1 s m #[Value.ref b] below meth c H locs (1000 + 12 * n) (100000 + 384 * n) Q (F0 m 33 ls []) := by
  obtain ⟨hx, hb, hml, hown, hts, hK, hN, hZ, hNC, hX, hbl⟩ := id C0
  have hbA := C0.out
  obtain ⟨-, -, hskip, h_clear, h_add, h_find, h_triangle, h_neighbours, h_neighbour, h_corner, h_locate, h_located, h_nearest, h_closest, h_point, h_count⟩ := hI
  intro d
  induction d with
  | zero =>
    intro n hnd Sc Sm v ad H locs ls hi hP hD hS hl
    refine lv_iload hx hb d_law_33 (lv_at hl 4 rfl) ?_
    refine lv_aload_n hx hb d_law_35 rfl (lv_at hl 0 rfl) ?_
    refine va_slen hx hb hX hbl hbA hS d_law_36 ?_
    refine lv_iconst (v := 3) hx hb d_law_37 (by decide) ?_
    refine lv_isub hx hb d_law_38 ?_
    refine lv_icmp_gt (tgt := 828) hx hb d_law_39 (by decide) (fun _ => hend _ _ _ _ _ hS (by omega) (by omega)) (fun h0 => ?_)
    have hn : 3 * n + 4 ≤ L := sub3 hL (by omega) h0
    omega
  | succ d ih =>
    intro n hnd Sc Sm v ad H locs ls hi hP hD hS hl
    refine lv_iload hx hb d_law_33 (lv_at hl 4 rfl) ?_
    refine lv_aload_n hx hb d_law_35 rfl (lv_at hl 0 rfl) ?_
    refine va_slen hx hb hX hbl hbA hS d_law_36 ?_
    refine lv_iconst (v := 3) hx hb d_law_37 (by decide) ?_
    refine lv_isub hx hb d_law_38 ?_
    refine lv_icmp_gt (tgt := 828) hx hb d_law_39 (by decide) (fun _ => hend _ _ _ _ _ hS (by omega) (by omega)) (fun h0 => ?_)
    have hn : 3 * n + 4 ≤ L := sub3 hL (by omega) h0
    have hn5 : n < 512 := by omega
    refine lv_aload_n hx hb d_law_42 rfl (lv_at hl 0 rfl) ?_
    refine lv_iload hx hb d_law_43 (lv_at hl 4 rfl) ?_
    refine lw_ld (j := 3 * n + 1) C0 hS rfl (by omega) hL d_law_45 ?_
    refine lv_bipush (v := 15) hx hb d_law_46 (by decide) ?_
    refine lv_iand hx hb d_law_48 ?_
    have kend : ∀ (Sc Sm : St) (v : Nat → Int64) (ad : Nat → Nat → Nat) (H : Heap) (locs : List Loc) (ls : Array Slot), I (n + 1) Sc Sm → va_P D clC (lw cA cP cL ob ad ob2 ad2 q Sc v Sm) H → va_D (va_A [] s.heap.size) (lw cA cP cL ob ad ob2 ad2 q Sc v Sm) → va_S (va_A [] s.heap.size) s.heap H locs → lv_has ls 8 [(0, .ref b), (1, .ref (ob 0)), (2, .ref (ob2 0)), (3, .ref q), (4, .int (nI (3 * n + 1)))] → W p l e room_1 s m #[Value.ref b] below meth c H locs (1000 + 12 * n + 12) (100000 + 384 * n + 384) Q (F0 m 822 ls []) := by
      intro Sc Sm v ad H locs ls hi hP hD hS hl
      refine lv_iinc (v := nI (3 * (n + 1) + 1)) (lv' := [(4, .int (nI (3 * (n + 1) + 1))), (0, .ref b), (1, .ref (ob 0)), (2, .ref (ob2 0)), (3, .ref q)]) hx hb d_law_822 hl (k := 4) rfl (by rw [show (3 * (n + 1) + 1) = (3 * n + 1) + 3 by omega]; exact nI_3 _) (by decide) rfl (fun ls hl => ?_)
      refine lv_goto (tgt := 33) hx hb d_law_825 (by decide) ?_
      refine W.widen (k := 1000 + 12 * (n + 1)) (n := 100000 + 384 * (n + 1)) (by omega) (by omega) ?_
      exact ih (n + 1) (by omega) Sc Sm v ad H locs ls hi hP hD hS (lv_sub hl [1, 2, 3, 4, 0] rfl)
    by_cases c_0 : Int32.toInt (xs (3 * n + 1) &&& 15) = 0
    · refine lv_tableIn (tgt := 116) hx hb d_law_49 (by omega) (by omega) (by rw [c_0]; rfl) (by decide) ?_
      obtain ⟨k, v', Sc', r, Sm', e1, e2, e3, e4, hi2⟩ := h_add n Sc Sm (xs (3 * n + 2)) (xs (3 * n + 3)) v hn5 hi
      exact lc_add hl0 C0 hL hn e1 e2 e3 e4 (by omega) (by omega) hP hD hS hl (fun ad H locs ls hP hD hS hl => kend _ _ _ ad H locs ls hi2 hP hD hS hl)
    by_cases c_1 : Int32.toInt (xs (3 * n + 1) &&& 15) = 1
    · refine lv_tableIn (tgt := 184) hx hb d_law_49 (by omega) (by omega) (by rw [c_1]; rfl) (by decide) ?_
      obtain ⟨r, Sc', Sm', e1, e2, hi2⟩ := h_clear n Sc Sm  hn5 hi
      exact lc_clear (v' := v) hl0 C0 hL hn e1 e2 (by omega) (by omega) hP hD hS hl (fun ad H locs ls hP hD hS hl => kend _ _ _ ad H locs ls hi2 hP hD hS hl)
    by_cases c_2 : Int32.toInt (xs (3 * n + 1) &&& 15) = 2
    · refine lv_tableIn (tgt := 197) hx hb d_law_49 (by omega) (by omega) (by rw [c_2]; rfl) (by decide) ?_
      obtain ⟨k, v', Sc', r, Sm', e1, e2, e3, e4, hi2⟩ := h_find n Sc Sm (xs (3 * n + 2)) (xs (3 * n + 3)) v hn5 hi
      exact lc_find hl0 C0 hL hn e1 e2 e3 e4 (by omega) (by omega) hP hD hS hl (fun ad H locs ls hP hD hS hl => kend _ _ _ ad H locs ls hi2 hP hD hS hl)
    by_cases c_3 : Int32.toInt (xs (3 * n + 1) &&& 15) = 3
    · refine lv_tableIn (tgt := 265) hx hb d_law_49 (by omega) (by omega) (by rw [c_3]; rfl) (by decide) ?_
      obtain ⟨k, v', Sc', r, Sm', e1, e2, e3, e4, hi2⟩ := h_triangle n Sc Sm (xs (3 * n + 2)) (xs (3 * n + 3)) v hn5 hi
      exact lc_triangle hl0 C0 hL hn e1 e2 e3 e4 (by omega) (by omega) hP hD hS hl (fun ad H locs ls hP hD hS hl => kend _ _ _ ad H locs ls hi2 hP hD hS hl)
    by_cases c_4 : Int32.toInt (xs (3 * n + 1) &&& 15) = 4
    · refine lv_tableIn (tgt := 333) hx hb d_law_49 (by omega) (by omega) (by rw [c_4]; rfl) (by decide) ?_
      obtain ⟨k, v', Sc', r, Sm', e1, e2, e3, e4, hi2⟩ := h_neighbours n Sc Sm (xs (3 * n + 2)) v hn5 hi
      exact lc_neighbours hl0 C0 hL hn e1 e2 e3 e4 (by omega) (by omega) hP hD hS hl (fun ad H locs ls hP hD hS hl => kend _ _ _ ad H locs ls hi2 hP hD hS hl)
    by_cases c_5 : Int32.toInt (xs (3 * n + 1) &&& 15) = 5
    · refine lv_tableIn (tgt := 389) hx hb d_law_49 (by omega) (by omega) (by rw [c_5]; rfl) (by decide) ?_
      obtain ⟨k, v', Sc', r, Sm', e1, e2, e3, e4, hi2⟩ := h_neighbour n Sc Sm (xs (3 * n + 2)) (xs (3 * n + 3)) v hn5 hi
      exact lc_neighbour hl0 C0 hL hn e1 e2 e3 e4 (by omega) (by omega) hP hD hS hl (fun ad H locs ls hP hD hS hl => kend _ _ _ ad H locs ls hi2 hP hD hS hl)
    by_cases c_6 : Int32.toInt (xs (3 * n + 1) &&& 15) = 6
    · refine lv_tableIn (tgt := 457) hx hb d_law_49 (by omega) (by omega) (by rw [c_6]; rfl) (by decide) ?_
      obtain ⟨k, v', Sc', r, Sm', e1, e2, e3, e4, hi2⟩ := h_corner n Sc Sm (xs (3 * n + 2)) v hn5 hi
      exact lc_corner hl0 C0 hL hn e1 e2 e3 e4 (by omega) (by omega) hP hD hS hl (fun ad H locs ls hP hD hS hl => kend _ _ _ ad H locs ls hi2 hP hD hS hl)
    by_cases c_7 : Int32.toInt (xs (3 * n + 1) &&& 15) = 7
    · refine lv_tableIn (tgt := 513) hx hb d_law_49 (by omega) (by omega) (by rw [c_7]; rfl) (by decide) ?_
      obtain ⟨k, v', Sc', r, Sm', e1, e2, e3, e4, hi2⟩ := h_locate n Sc Sm (xs (3 * n + 2)) (xs (3 * n + 3)) v hn5 hi
      exact lc_locate hl0 C0 hL hn e1 e2 e3 e4 (by omega) (by omega) hP hD hS hl (fun ad H locs ls hP hD hS hl => kend _ _ _ ad H locs ls hi2 hP hD hS hl)
    by_cases c_8 : Int32.toInt (xs (3 * n + 1) &&& 15) = 8
    · refine lv_tableIn (tgt := 581) hx hb d_law_49 (by omega) (by omega) (by rw [c_8]; rfl) (by decide) ?_
      obtain ⟨r, Sc', Sm', e1, e2, hi2⟩ := h_located n Sc Sm (xs (3 * n + 2)) hn5 hi
      exact lc_located (v' := v) hl0 C0 hL hn e1 e2 (by omega) (by omega) hP hD hS hl (fun ad H locs ls hP hD hS hl => kend _ _ _ ad H locs ls hi2 hP hD hS hl)
    by_cases c_9 : Int32.toInt (xs (3 * n + 1) &&& 15) = 9
    · refine lv_tableIn (tgt := 606) hx hb d_law_49 (by omega) (by omega) (by rw [c_9]; rfl) (by decide) ?_
      obtain ⟨k, v', Sc', r, Sm', e1, e2, e3, e4, hi2⟩ := h_nearest n Sc Sm (xs (3 * n + 2)) (xs (3 * n + 3)) v hn5 hi
      exact lc_nearest hl0 C0 hL hn e1 e2 e3 e4 (by omega) (by omega) hP hD hS hl (fun ad H locs ls hP hD hS hl => kend _ _ _ ad H locs ls hi2 hP hD hS hl)
    by_cases c_10 : Int32.toInt (xs (3 * n + 1) &&& 15) = 10
    · refine lv_tableIn (tgt := 674) hx hb d_law_49 (by omega) (by omega) (by rw [c_10]; rfl) (by decide) ?_
      obtain ⟨k, v', Sc', r, Sm', e1, e2, e3, e4, hi2⟩ := h_closest n Sc Sm (xs (3 * n + 2)) v hn5 hi
      exact lc_closest hl0 C0 hL hn e1 e2 e3 e4 (by omega) (by omega) hP hD hS hl (fun ad H locs ls hP hD hS hl => kend _ _ _ ad H locs ls hi2 hP hD hS hl)
    by_cases c_11 : Int32.toInt (xs (3 * n + 1) &&& 15) = 11
    · refine lv_tableIn (tgt := 729) hx hb d_law_49 (by omega) (by omega) (by rw [c_11]; rfl) (by decide) ?_
      obtain ⟨k, v', Sc', r, Sm', e1, e2, e3, e4, hi2⟩ := h_point n Sc Sm (xs (3 * n + 2)) (xs (3 * n + 3)) v hn5 hi
      exact lc_point hl0 C0 hL hn e1 e2 e3 e4 (by omega) (by omega) hP hD hS hl (fun ad H locs ls hP hD hS hl => kend _ _ _ ad H locs ls hi2 hP hD hS hl)
    by_cases c_12 : Int32.toInt (xs (3 * n + 1) &&& 15) = 12
    · refine lv_tableIn (tgt := 797) hx hb d_law_49 (by omega) (by omega) (by rw [c_12]; rfl) (by decide) ?_
      obtain ⟨r, Sc', Sm', e1, e2, hi2⟩ := h_count n Sc Sm (xs (3 * n + 2)) hn5 hi
      exact lc_count (v' := v) hl0 C0 hL hn e1 e2 (by omega) (by omega) hP hD hS hl (fun ad H locs ls hP hD hS hl => kend _ _ _ ad H locs ls hi2 hP hD hS hl)
    refine lv_tableOut (tgt := 822) hx hb d_law_49 (by have := and15 (xs (3 * n + 1)); omega) (by decide) ?_
    refine W.widen (k := 1000 + 12 * n + 12) (n := 100000 + 384 * n + 384) (by omega) (by omega) ?_
    exact kend Sc Sm v ad H locs ls (hskip n Sc Sm hn5 hi) hP hD hS hl
