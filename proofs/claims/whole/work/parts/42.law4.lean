/-! THE LAW, 4: what its walk stands on. -/
theorem lg_cmp_self (x : Int64) : lg_cmp x x = 0 := by
  unfold lg_cmp
  simp
/-- the first number of a script, 0 when there is none -/
def cv (L : Nat) (xs : Nat → Int32) : Int32 := if Int32.ofNat L ≤ 0 then 0 else xs 0
theorem P_nil {D : va_G} {cl : List vw_C} {H : Heap} : va_P D cl [] H := fun k q h => by cases h
theorem D_nil {A : Nat → Prop} : va_D A [] := by
  refine ⟨fun i j p q h => ?_, fun k q h => ?_⟩
  · cases h
  · cases h
set_option maxHeartbeats 1000000 in
theorem c_Lw_cell (l : Launch) (D : va_G) (cA cP cL : ClassId) {b L : Nat} {xs : Nat → Int32} (hL : L ≤ 1537) (sz : Nat) : Met l y_Lw_cell w_Lw_cell rm_Lw_cell (va_Pc [.ref b, .int 0] (fun U => U.heap.size = sz ∧ va_X b L xs U U.heap ∧ b < sz ∧ va_K D clC (TYL cA cP cL) U)) (va_Qi (fun r w => r = cv L xs ∧ w = []) (WQ D clC (TYL cA cP cL) [] sz) (va_A [] sz)) 0 0 (va_A [] sz) := by
  refine Met.ofW (cc := b_Lw_cell) (maxL := 2) (ret := some .int) (by decide) rfl ?_
  intro p e s m args below meth c s₁ B hml hv
  obtain ⟨rfl, hsz, hX, hbl, hK⟩ := hv
  subst hsz
  have hlocks := B.notSynchronized
  have hx := B.exec
  have hb := B.bytes
  have hS : va_S (va_A [] s.heap.size) s.heap s.heap [] := va_S.rf
  have hbA : ¬ va_A [] s.heap.size b := by
    rintro (⟨k, e, h⟩ | h)
    · cases h
    · omega
  have hend : ∀ (pc : Nat) (ls : Array Slot) (r : Int32), r = cv L xs → decode b_Lw_cell pc = .ok (.ireturn, 1) → W p l e (headSpec w_Lw_cell rm_Lw_cell).room s m [Value.ref b, Value.int 0].toArray below meth c s.heap [] 0 0 (MQ below (va_Qi (fun r w => r = cv L xs ∧ w = []) (WQ D clC (TYL cA cP cL) [] s.heap.size) (va_A [] s.heap.size)) [Value.ref b, Value.int 0].toArray s 0 0 (va_A [] s.heap.size)) (F0 m pc ls [.int r]) := fun pc ls r hr hd =>
    W.iret B.exec B.bytes B.returns (fun t ht hW => ⟨⟨r, [], rfl, ⟨hr, rfl⟩, P_nil, va_K.moved hW.alike hK, D_nil⟩, hS.F ht⟩) hS.2.2 hd
  rw [lg_entry_eq]
  have hl := lv_entry ([.ref b, .int 0] : List Value) (n := 2) (Nat.le_of_ble_eq_true rfl)
  generalize ((lg_sl ([.ref b, .int 0] : List Value) ++ List.replicate (2 - (lg_sl ([.ref b, .int 0] : List Value)).length) Slot.unset).toArray) = ls at hl ⊢
  have hl : lv_has ls 2 [(0, .ref b), (1, .int 0)] := hl
  refine lv_iload_n hx hb d_Lw_cell_0 rfl (lv_at hl 1 rfl) ?_
  refine lv_aload_n hx hb d_Lw_cell_1 rfl (lv_at hl 0 rfl) ?_
  refine va_slen hx hb hX hbl hbA hS d_Lw_cell_2 ?_
  refine lv_icmp_ge (tgt := 12) hx hb d_Lw_cell_3 (by decide) (fun c_1 => ?_) (fun c_1 => ?_)
  · refine lv_iconst (v := 0) hx hb d_Lw_cell_12 (by decide) ?_
    exact hend _ _ _ (by unfold cv; rw [if_pos c_1]) d_Lw_cell_13
  · refine lv_aload_n hx hb d_Lw_cell_6 rfl (lv_at hl 0 rfl) ?_
    refine lv_iload_n hx hb d_Lw_cell_7 rfl (lv_at hl 1 rfl) ?_
    refine va_sld hx hb hX hbl hbA hS ?_ d_Lw_cell_8 ?_
    · rintro (h | h)
      · exact absurd h (by decide)
      · have : L = 0 := Nat.le_zero.mp h
        subst this
        exact c_1 (by decide)
    · refine lv_goto (tgt := 13) hx hb d_Lw_cell_9 (by decide) ?_
      exact hend _ _ _ (by unfold cv; rw [if_neg c_1]; rfl) d_Lw_cell_13
/-- what holds all through the law -/
def LC (p : Program) (s : State) (m : MethodId) (c : Code) (b L : Nat) (xs : Nat → Int32) (D : va_G) (cA cP cL : ClassId) : Prop :=
  p.tables.exec = Jvm.exec ∧ c.code = code ∧ c.maxLocals = 8 ∧ s.vm.findClass R_Lw = some m.cls ∧ (∀ w ∈ (Cond.initialized "PlaneNet" :: TT), w.before #[Value.ref b] s = true) ∧ va_K D clC (TYL cA cP cL) s ∧ NW s ∧ ZQ (va_A [] s.heap.size) s s.heap ∧ NCs s ∧ va_X b L xs s s.heap ∧ b < s.heap.size
/-- both sides and the row of one long -/
abbrev lw (cA cP cL : ClassId) (ob : Nat → Nat) (ad : Nat → Nat → Nat) (ob2 : Nat → Nat) (ad2 : Nat → Nat → Nat) (q : Nat) (Sc : St) (v : Nat → Int64) (Sm : St) : va_W := (cw cA cP ob ad Sc ++ [oc cL q v]) ++ mw cA cP ob2 ad2 Sm
theorem get_mid {α : Type} (a b : List α) (x : α) : ((a ++ [x]) ++ b)[a.length]? = some x := by simp
theorem WPL.blind {D : va_G} {cl : List vw_C} {tys : List (ClassId × FieldType)} {w0 : va_W} {sz : Nat} {as : List Value} : FrameBlind (va_Pc as (WPL D cl tys w0 sz)) := fun a U g mk q => by
  obtain ⟨q0, qW, qN⟩ := q
  have h := WP.blind (as := as) (D := D) (cl := cl) (tys := tys) (w0 := w0) (sz := sz) a U g mk ⟨q0, qW⟩
  exact ⟨h.1, h.2, NCs.moved (u := U) (U := U.calling g mk a) (Vm.Alike.refl U.vm) qN⟩
section
variable {p : Program} {l : Launch} {e : Env} {R : Room} {s : State} {m : MethodId} {args : Array Value} {below : List Frame} {meth : Method} {c : Code} {H : Heap} {locs : List Loc} {cells slots : Nat} {Q : State → Prop} {pc : Nat} {ls : Array Slot} {rest : List Value} {D : va_G} {cl : List vw_C} {A : Nat → Prop} {w0 : va_W} {tys : List (ClassId × FieldType)} {cA cP cL : ClassId} {b L : Nat} {xs : Nat → Int32}
theorem kpH {as : List Value} (hK : va_K D cl tys s) (hP : va_P D cl w0 H) (hD : va_D A w0) (hN : NW s) (hZ : ZQ A s s.heap) (hS : va_S A s.heap H locs) (hNC : NCs s) : PreS s H (va_Pc as (WPL D cl tys w0 H.size)) as :=
  ⟨WPL.blind, fun _ hU hW => ⟨rfl, ⟨by rw [hU], by rw [hU]; exact hP, va_K.moved hW.alike hK, hD.weaken (fun _ _ _ _ => trivial), hN.warm hW, hZ.at hS hU hW⟩, hNC.moved hW.alike⟩⟩
theorem LC.out (C0 : LC p s m c b L xs D cA cP cL) : ¬ va_A [] s.heap.size b := by
  rintro (⟨k, e, h⟩ | h)
  · cases h
  · have := C0.2.2.2.2.2.2.2.2.2.2
    omega
theorem lw_ld (C0 : LC p s m c b L xs D cA cP cL) (hS : va_S (va_A [] s.heap.size) s.heap H locs) {i : Int32} {j : Nat} (hi : i = nI j) (hj : j < L) (hL : L ≤ 1537) (hdg : decode code pc = .ok (.iaload, 1))
    (kk : W p l e R s m args below meth c H locs cells slots Q (F0 m (pc + 1) ls (.int (xs j) :: rest))) : W p l e R s m args below meth c H locs cells slots Q (F0 m pc ls (.int i :: .ref b :: rest)) := by
  subst hi
  have h := C0.out
  obtain ⟨hx, hb, hml, hown, hts, hK, hN, hZ, hNC, hX, hbl⟩ := C0
  refine va_sld hx hb hX hbl h hS (nI_in hj (by omega)) hdg ?_
  rw [nI_clamp (by omega)]
  exact kk
end
theorem lw_lcmp {p : Program} {l : Launch} {e : Env} {R : Room} {s : State} {m : MethodId} {args : Array Value} {below : List Frame} {meth : Method} {c : Code} {H : Heap} {locs : List Loc} {cells slots : Nat} {Q : State → Prop} {pc : Nat} {ls : Array Slot} {rest : List Value} {cc : ByteArray} {x y : Int64} (hx : p.tables.exec = Jvm.exec) (hb : c.code = cc) (h : x = y) (hdg : decode cc pc = .ok (.lcmp, 1))
    (kk : W p l e R s m args below meth c H locs cells slots Q (F0 m (pc + 1) ls (.int 0 :: rest))) : W p l e R s m args below meth c H locs cells slots Q (F0 m pc ls (.long y :: .long x :: rest)) := by
  subst h
  refine W.lcmp hx hb hdg ?_
  rw [lg_cmp_self]
  exact kk
theorem nI_2 (a : Nat) : nI a + 2 = nI (a + 2) := by rw [show (2 : Int32) = nI 2 from rfl, nI_add]
/-! what the two sides must do, call by call -/
abbrev Rel : Type := Nat → St → St → Prop
def ok1 (I : Rel) (h : Int32 → (Nat → Int64) → St → Option (Int32 × (Nat → Int64) × St)) (f : Int32 → St → Option (Int32 × St)) : Prop := ∀ (n : Nat) (Sc Sm : St) (x1 : Int32) (v : Nat → Int64), n < 512 → I n Sc Sm → ∃ (k : Int32) (v' : Nat → Int64) (Sc' : St) (r : Int32) (Sm' : St), h x1 v Sc = some (k, v', Sc') ∧ f x1 Sm = some (r, Sm') ∧ f_Md_thrown Sm' = some (k, Sm') ∧ (k = 0 → v' (Int32.toNatClampNeg 0) = Int32.toInt64 r) ∧ I (n + 1) Sc' Sm'
def ok2 (I : Rel) (h : Int32 → Int32 → (Nat → Int64) → St → Option (Int32 × (Nat → Int64) × St)) (f : Int32 → Int32 → St → Option (Int32 × St)) : Prop := ∀ (n : Nat) (Sc Sm : St) (x1 x2 : Int32) (v : Nat → Int64), n < 512 → I n Sc Sm → ∃ (k : Int32) (v' : Nat → Int64) (Sc' : St) (r : Int32) (Sm' : St), h x1 x2 v Sc = some (k, v', Sc') ∧ f x1 x2 Sm = some (r, Sm') ∧ f_Md_thrown Sm' = some (k, Sm') ∧ (k = 0 → v' (Int32.toNatClampNeg 0) = Int32.toInt64 r) ∧ I (n + 1) Sc' Sm'
def okl (I : Rel) (h : Int32 → (Nat → Int64) → St → Option (Int32 × (Nat → Int64) × St)) (f : Int32 → St → Option (Int64 × St)) : Prop := ∀ (n : Nat) (Sc Sm : St) (x1 : Int32) (v : Nat → Int64), n < 512 → I n Sc Sm → ∃ (k : Int32) (v' : Nat → Int64) (Sc' : St) (r : Int64) (Sm' : St), h x1 v Sc = some (k, v', Sc') ∧ f x1 Sm = some (r, Sm') ∧ f_Md_thrown Sm' = some (k, Sm') ∧ (k = 0 → v' (Int32.toNatClampNeg 0) = r) ∧ I (n + 1) Sc' Sm'
def okd (I : Rel) (g : Int32 → St → Option (Int32 × St)) (f : Int32 → St → Option (Int32 × St)) : Prop := ∀ (n : Nat) (Sc Sm : St) (x1 : Int32), n < 512 → I n Sc Sm → ∃ (r : Int32) (Sc' Sm' : St), g x1 Sc = some (r, Sc') ∧ f x1 Sm = some (r, Sm') ∧ I (n + 1) Sc' Sm'
/-- a relation of the two sides' states that every call keeps, with equal answers -/
def LawInv (I : Rel) : Prop :=
  (∀ x : Int32, I 0 (s0_c (clampC x)) (s0_m (clampM x))) ∧ (∀ x : Int32, HR (clampC x)) ∧ (∀ (n : Nat) (Sc Sm : St), n < 512 → I n Sc Sm → I (n + 1) Sc Sm) ∧
  (∀ (n : Nat) (Sc Sm : St), n < 512 → I n Sc Sm → ∃ (r : Int32) (Sc' Sm' : St), f_Pn_clear Sc = some (r, Sc') ∧ f_Md_clear Sm = some (r, Sm') ∧ I (n + 1) Sc' Sm') ∧
  ok2 I h_add f_Md_add ∧ ok2 I h_find f_Md_find ∧ ok2 I h_triangle f_Md_triangle ∧ ok1 I h_neighbours f_Md_neighbours ∧ ok2 I h_neighbour f_Md_neighbour ∧ ok1 I h_corner f_Md_corner ∧
  ok2 I h_locate f_Md_locate ∧ okd I f_Pn_located f_Md_located ∧ ok2 I h_nearest f_Md_nearest ∧ okl I h_closest f_Md_closest ∧ ok2 I h_point f_Md_point ∧ okd I f_Pn_count f_Md_count

