/-! THE LAW, 1: calls over the front of a world; what is thrown is caught. -/
theorem map_front {α : Type} (a b : List α) : (List.range a.length).map (fun i => (a ++ b)[i]?) = a.map some := by
  apply List.ext_getElem?
  intro i
  simp only [List.getElem?_map]
  by_cases h : i < a.length
  · simp [h, List.getElem?_append_left]
  · simp [h]
theorem map_back {α : Type} (a b : List α) : (List.range' a.length b.length).map (fun i => (a ++ b)[i]?) = b.map some := by
  apply List.ext_getElem?
  intro i
  simp only [List.getElem?_map]
  by_cases h : i < b.length
  · rw [List.getElem?_range' h]
    simp [h]
  · rw [List.getElem?_eq_none (by simp; omega), List.getElem?_eq_none (by omega)]
    rfl
theorem nd_range' : ∀ (n s : Nat), va_nd (List.range' s n) = true
  | 0, _ => rfl
  | n + 1, s => by
    rw [List.range'_succ, va_nd, nd_range' n, Bool.and_true, decide_eq_true_eq]
    intro h
    have := List.mem_range'_1.mp h
    omega
theorem P_front {D : va_G} {cl : List vw_C} {a b : va_W} {H : Heap} (h : va_P D cl (a ++ b) H) : va_P D cl a H := P_mem.mpr fun q hq => P_mem.mp h q (List.mem_append_left _ hq)
theorem D_front {A : Nat → Prop} {a b : va_W} (h : va_D A (a ++ b)) : va_D A a := by
  rw [D_mem] at h ⊢
  exact ⟨(List.pairwise_append.mp h.1).1, fun q hq => h.2 q (List.mem_append_left _ hq)⟩
section
variable {p : Program} {l : Launch} {e : Env} {R : Room} {s : State} {m : MethodId} {args : Array Value} {below : List Frame} {meth : Method} {c : Code} {H : Heap} {locs : List Loc} {cells slots : Nat} {Q : State → Prop} {pc : Nat} {ls : Array Slot} {rest st0 : List Value} {D : va_G} {cl : List vw_C} {tys : List (ClassId × FieldType)} {A : Nat → Prop} {w0 wr : va_W} {a : Array Value} {mc ms : Nat}
theorem kg_i {Post : Int32 → va_W → Prop} (hr : va_Run p l e R s m args below meth c H locs cells slots mc ms (F0 m pc ls st0) rest (va_Qi Post (WQ D cl tys w0 H.size) (va_A w0 H.size) a) (va_A w0 H.size)) (hP : va_P D cl (w0 ++ wr) H) (hD : va_D A (w0 ++ wr)) (hS : va_S A s.heap H locs) (hA : ∀ q : Nat, s.heap.size ≤ q → A q)
    (kk : ∀ (r : Int32) (w : va_W) (H1 : Heap) (locs1 : List Loc), Post r w → va_P D cl (w ++ wr) H1 → va_D A (w ++ wr) → va_S A s.heap H1 locs1 → W p l e R s m args below meth c H1 locs1 (cells + mc) (slots + ms) Q (F0 m (pc + 3) ls (.int r :: rest))) : W p l e R s m args below meth c H locs cells slots Q (F0 m pc ls st0) := by
  have hFc := va_free (wc := w0) hD hS hA (List.range w0.length) (map_front w0 wr)
  refine va_calli hr hS (fun q _ h => hFc q h) hFc (fun r u t H1 locs1 ht hvm hw hB hz hk hS1 => ?_)
  obtain ⟨hP1, hK1, hD1⟩ := hB
  rw [ht] at hP1
  obtain ⟨hP2, hD2⟩ := va_join (wr := wr) hP hD (List.range w0.length) (List.range' w0.length wr.length) (map_front w0 wr) (map_back w0 wr) (nd_range' _ _) (fun i hi hj => by have h1 := List.mem_range'_1.mp hi; have h2 := List.mem_range.mp hj; omega) hk hFc hP1 hD1
  exact kk r u H1 locs1 hw (P_perm List.perm_append_comm hP2) (D_perm List.perm_append_comm hD2) hS1
theorem kg_l {Post : Int64 → va_W → Prop} (hr : va_Run p l e R s m args below meth c H locs cells slots mc ms (F0 m pc ls st0) rest (va_Ql Post (WQ D cl tys w0 H.size) (va_A w0 H.size) a) (va_A w0 H.size)) (hP : va_P D cl (w0 ++ wr) H) (hD : va_D A (w0 ++ wr)) (hS : va_S A s.heap H locs) (hA : ∀ q : Nat, s.heap.size ≤ q → A q)
    (kk : ∀ (r : Int64) (w : va_W) (H1 : Heap) (locs1 : List Loc), Post r w → va_P D cl (w ++ wr) H1 → va_D A (w ++ wr) → va_S A s.heap H1 locs1 → W p l e R s m args below meth c H1 locs1 (cells + mc) (slots + ms) Q (F0 m (pc + 3) ls (.long r :: rest))) : W p l e R s m args below meth c H locs cells slots Q (F0 m pc ls st0) := by
  have hFc := va_free (wc := w0) hD hS hA (List.range w0.length) (map_front w0 wr)
  refine va_calll hr hS (fun q _ h => hFc q h) hFc (fun r u t H1 locs1 ht hvm hw hB hz hk hS1 => ?_)
  obtain ⟨hP1, hK1, hD1⟩ := hB
  rw [ht] at hP1
  obtain ⟨hP2, hD2⟩ := va_join (wr := wr) hP hD (List.range w0.length) (List.range' w0.length wr.length) (map_front w0 wr) (map_back w0 wr) (nd_range' _ _) (fun i hi hj => by have h1 := List.mem_range'_1.mp hi; have h2 := List.mem_range.mp hj; omega) hk hFc hP1 hD1
  exact kk r u H1 locs1 hw (P_perm List.perm_append_comm hP2) (D_perm List.perm_append_comm hD2) hS1
theorem kg_v {Post : va_W → Prop} (hr : va_Run p l e R s m args below meth c H locs cells slots mc ms (F0 m pc ls st0) rest (va_Qv Post (WQ D cl tys w0 H.size) (va_A w0 H.size) a) (va_A w0 H.size)) (hP : va_P D cl (w0 ++ wr) H) (hD : va_D A (w0 ++ wr)) (hS : va_S A s.heap H locs) (hA : ∀ q : Nat, s.heap.size ≤ q → A q)
    (kk : ∀ (w : va_W) (H1 : Heap) (locs1 : List Loc), Post w → va_P D cl (w ++ wr) H1 → va_D A (w ++ wr) → va_S A s.heap H1 locs1 → W p l e R s m args below meth c H1 locs1 (cells + mc) (slots + ms) Q (F0 m (pc + 3) ls rest)) : W p l e R s m args below meth c H locs cells slots Q (F0 m pc ls st0) := by
  have hFc := va_free (wc := w0) hD hS hA (List.range w0.length) (map_front w0 wr)
  refine va_callv hr hS (fun q _ h => hFc q h) hFc (fun u t H1 locs1 ht hvm hw hB hz hk hS1 => ?_)
  obtain ⟨hP1, hK1, hD1⟩ := hB
  rw [ht] at hP1
  obtain ⟨hP2, hD2⟩ := va_join (wr := wr) hP hD (List.range w0.length) (List.range' w0.length wr.length) (map_front w0 wr) (map_back w0 wr) (nd_range' _ _) (fun i hi hj => by have h1 := List.mem_range'_1.mp hi; have h2 := List.mem_range.mp hj; omega) hk hFc hP1 hD1
  exact kk u H1 locs1 hw (P_perm List.perm_append_comm hP2) (D_perm List.perm_append_comm hD2) hS1
end
/-! a search for a handler that may resolve the classes which the table names -/
section
variable {e : Env} {s : State} {f : JFrame} {a : Addr}
def FT (e : Env) (s : State) (f : JFrame) (a : Addr) (h : Handler) (vm' : Vm) : Prop := ∀ (Q : Handler → Pre) (E : CtlPost) (d : Bool) (acts : List Action), wp (findHandler f a) Q E e d acts s ↔ Q h d acts (s.setVm vm')
theorem go_cold {x : ExceptionTableEntry} {t : List ExceptionTableEntry} {c : ClassId} {cell : Cell} {vm' : Vm} {Q : Handler → Pre} {E : CtlPost} {d : Bool} {acts : List Action} (hx : covers x f.pc = true) (h0 : x.catchType ≠ 0)
    (hg : (Jvm.resolveClass f.method.cls x.catchType).Gives e.toSetting s.vm (.ok c) vm') (hr : vm'.classReady f.method.cls x.catchType c) (hcell : s.heap[a]? = some cell) (hobj : ∀ k, cell.vm ≠ .statics k)
    (hk : ∃ k, vm'.classes[cell.cls]? = some k) (hc : ∃ k, vm'.classes[c]? = some k) (hsz : vm'.classes.size ≤ s.vm.classes.size := by no_record) :
    wp (findHandler.go f a (x :: t)) Q E e d acts s ↔ if vm'.assignable cell.cls c = true then Q (.found x.handlerPc) d acts (s.setVm vm') else wp (findHandler.go f a t) Q E e d acts (s.setVm vm') := by
  obtain ⟨ha, ht⟩ := hg.op (op := VmOp.resolveClass f.method.cls x.catchType) rfl
  simp only [covers] at hx
  cases hfit : vm'.assignable cell.cls c <;> simp [findHandler.go, hx, h0, ha, ht, hsz, hcell, hobj, hk, hc, hfit, VmOp.dirties, VmOp.acts]
theorem step_cold {r : List Frame} {pc : Nat} {vm' : Vm} (hfind : FT e s f a (.found pc) vm') : (stepThrowing e s a (.java f :: r)).Is ((s.setVm vm').setFrames (.java { f with pc := pc, stack := [.ref a] } :: r)) [] := by
  simp only [stepThrowing, searchFrame, vmDo]
  generalize hr : Sem.go _ e false [] s = res
  obtain ⟨as, rfl, ha⟩ := Sem.eq_ok_of hr (a := Handler.found pc) (s' := s.setVm vm') (acts' := []) (by simp [hfind _ _ _ _])
  exact ⟨rfl, ha⟩
end
theorem steps_cold {tb : Tables} {e : Env} {s target : State} {g : JFrame} {c : Code} {below : List Frame} {a : Addr} (h : At s g.method c below) {pc : Nat} {vm' : Vm} (hfind : FT e ((s.setTop g).pushFrame (.throwing a)) g a (.found pc) vm')
    (hrest : Steps tb e below ((s.setVm vm').setTop { g with pc := pc, stack := [.ref a] }) target) : Steps tb e below ((s.setTop g).pushFrame (.throwing a)) target := by
  obtain ⟨hgo, hw⟩ := h.throwing a
  refine Steps.head hgo hw ?_
  rw [stepThread_throwing (frames_entered h.top _), (step_cold (s := (s.setTop g).pushFrame (.throwing a)) hfind).1]
  obtain ⟨g₀, hg⟩ := Option.isSome_iff_exists.mp h.top
  obtain ⟨r, hr⟩ := State.topJava?_eq_some.mp hg
  have hr' : (s.setVm vm').frames = .java g₀ :: r := hr
  have e1 : (((s.setTop g).pushFrame (.throwing a)).setVm vm').setFrames (.java { g with pc := pc, stack := [.ref a] } :: s.frames.tail) = (s.setVm vm').setTop { g with pc := pc, stack := [.ref a] } := by
    rw [State.setTop_of_frames _ hr', State.setTop_of_frames _ hr, State.pushFrame, State.setFrames_setFrames, hr]
    show ((s.setFrames _).setVm vm').setFrames _ = _
    rw [show ∀ F, (s.setFrames F).setVm vm' = (s.setVm vm').setFrames F from fun _ => rfl, State.setFrames_setFrames]
    rfl
  rw [e1]
  exact hrest
/-! what the helpers of the law stand on -/
abbrev TYL (cA cP cL : ClassId) : List (ClassId × FieldType) := [(cA, .int), (cP, .array .int), (cL, .long)]
/-- the law's row of one long -/
abbrev oc (cL : ClassId) (q : Nat) (v : Nat → Int64) : Nat × va_E := (q, .inl (cL, 1, .inr (.inl v)))
def NCs (U : State) : Prop := va_Nc "java/lang/IllegalStateException" "java/lang/IllegalArgumentException" U ∧ va_Nc "java/lang/IllegalStateException" "java/lang/IndexOutOfBoundsException" U
def WPL (D : va_G) (cl : List vw_C) (tys : List (ClassId × FieldType)) (w0 : va_W) (sz : Nat) (U : State) : Prop := WP D cl tys w0 sz U ∧ NCs U
def CTh (l : Launch) (y : MethodName) (ws : List Cond) (rm : Room) (mc ms : Nat) (D : va_G) (cl : List vw_C) (tys : List (ClassId × FieldType)) (as : List Value) (w0 : va_W) (Post : Int32 → va_W → Prop) : Prop :=
  ∀ sz : Nat, Met l y ws rm (va_Pc as (WPL D cl tys w0 sz)) (va_Qi Post (WQ D cl tys w0 sz) (va_A w0 sz)) mc ms (va_A w0 sz)
def CXL (p : Program) (s : State) (m : MethodId) (c : Code) (cc : ByteArray) (nL : Nat) (own : String) (Ts : List Cond) (args : Array Value) (D : va_G) (cl : List vw_C) (cA cP cL : ClassId) (A : Nat → Prop) (hh : List (Nat × Nat × Nat × Nat)) : Prop :=
  p.tables.exec = Jvm.exec ∧ c.code = cc ∧ c.maxLocals = nL ∧ s.vm.findClass own = some m.cls ∧ (∀ w ∈ Ts, w.before args s = true) ∧ va_K D cl (TYL cA cP cL) s ∧ (∀ q : Nat, s.heap.size ≤ q → A q) ∧ NW s ∧ ZQ A s s.heap ∧ NCs s ∧ c.exceptionTable.toList.map (fun h => (h.startPc, h.endPc, h.handlerPc, h.catchType)) = hh
theorem NCs.moved {u U : State} (hvm : u.vm.Alike U.vm) (h : NCs u) : NCs U := ⟨h.1.moved hvm, h.2.moved hvm⟩
theorem mk_h {l : Launch} {y : MethodName} {ws ws' : List Cond} {rm : Room} {D : va_G} {cl : List vw_C} {cA cP cL : ClassId} {as : List Value} {w0 : va_W} {cc : ByteArray} {maxL mc ms : Nat} {own : String} {hh : List (Nat × Nat × Nat × Nat)} {Post : Int32 → va_W → Prop} (hy : plainName y.cls = true) (hw : ws = Cond.codeWith y cc maxL (some .int) hh :: ws') (hown : y.cls = own) (hlen : (lg_sl as).length ≤ maxL)
    (body : ∀ (p : Program) (e : Env) (s : State) (m : MethodId) (below : List Frame) (meth : Method) (c : Code) (A : Nat → Prop) (Q : State → Prop), CXL p s m c cc maxL own ws as.toArray D cl cA cP cL A hh → RTi p l e rm s m as.toArray below meth c Q D cl A cc mc ms Post → ∀ ls : Array Slot, lv_has ls maxL (lv_args 0 as) → va_P D cl w0 s.heap → va_D A w0 → va_S A s.heap s.heap [] → W p l e rm s m as.toArray below meth c s.heap [] 0 0 Q (F0 m 0 ls [])) :
    CTh l y ws rm mc ms D cl (TYL cA cP cL) as w0 Post := by
  intro sz
  refine va_MetW (cc := cc) (maxL := maxL) (ret := some .int) (hh := hh) hy hw ?_
  intro p e s m args below meth c s₁ B hml hv
  obtain ⟨rfl, ⟨hsz, hP, hK, hD0, hN, hZ0⟩, hNC⟩ := hv
  subst hsz
  have hZ : ZQ (va_A w0 s.heap.size) s s.heap := ⟨zl_in hK hP hZ0.1, zl_in hK hP hZ0.2⟩
  have hlocks := B.notSynchronized
  have hD := hD0.self (sz := s.heap.size)
  have hown2 : s.vm.findClass own = some m.cls := by rw [← hown]; exact findClass_of_methodNamed B.named
  have hA : ∀ q : Nat, s.heap.size ≤ q → va_A w0 s.heap.size q := fun q h => Or.inr h
  have htab : c.exceptionTable.toList.map (fun h => (h.startPc, h.endPc, h.handlerPc, h.catchType)) = hh := by
    obtain ⟨m9, meth9, c9, hn9, h1, h2, h3, h4, h5, -⟩ := Cond.codeWith_spec (atoms_spec (ws := ws) B.pre _ (by rw [hw]; exact List.mem_cons_self))
    have e1 := Option.some.inj (hn9.symm.trans B.named)
    subst e1
    have e2 := Option.some.inj (h1.symm.trans B.method)
    subst e2
    have e3 := Option.some.inj (h2.symm.trans (Stand.of_body B).code)
    subst e3
    exact h5
  rw [lg_entry_eq]
  refine body p e s m below meth c _ _ ⟨B.exec, B.bytes, hml, hown2, atoms_spec (ws := ws) B.pre, hK, hA, hN, hZ, hNC, htab⟩ (fun H locs pc ls r w hw hP hD hS hd => ?_) _ (lv_entry as hlen) hP hD va_S.rf
  exact W.iret B.exec B.bytes B.returns (fun t ht hW => ⟨⟨r, w, rfl, hw, by rw [ht]; exact hP, va_K.moved hW.alike hK, hD⟩, hS.F ht⟩) hS.2.2 hd
section
variable {p : Program} {l : Launch} {e : Env} {R : Room} {s : State} {m : MethodId} {args : Array Value} {below : List Frame} {meth : Method} {c : Code} {H : Heap} {locs : List Loc} {cells slots : Nat} {Q : State → Prop} {pc : Nat} {ls : Array Slot} {rest st0 : List Value} {D : va_G} {cl : List vw_C} {A : Nat → Prop} {w0 wr : va_W} {a : Array Value} {mc ms nL : Nat} {cc : ByteArray} {own X : String} {Ts : List Cond} {cA cP cL : ClassId} {Post : va_W → Prop} {tys : List (ClassId × FieldType)}
theorem th_caughtW {hh : List (Nat × Nat × Nat × Nat)} (C0 : CXL p s m c cc nL own Ts args D cl cA cP cL A hh) (hr : RunT p l e R s m args below meth c H locs cells slots mc ms (F0 m pc ls st0) (F0 m pc ls rest) (QTA D cl tys (va_A w0 H.size) X Post a) (va_A w0 H.size)) (hP : va_P D cl (w0 ++ wr) H) (hD : va_D A (w0 ++ wr)) (hS : va_S A s.heap H locs)
    {hp : Nat} (hfind : ∀ (T : State) (ce : Cell) (x : Addr), e.platform.magicAccessors = ({} : Platform).magicAccessors → s.WarmedH T.vm → T.vm.method? m = some meth → meth.code = some c → T.heap[x]? = some ce → T.vm.findClass X = some ce.cls → ce.vm = .none → ∃ vm', s.WarmedH vm' ∧ FT e ((T.setTop (F0 m pc ls rest)).pushFrame (.throwing x)) (F0 m pc ls rest) x (.found hp) vm')
    (kk : ∀ (x : Addr) (w : va_W) (H1 : Heap) (locs1 : List Loc), Post w → va_P D cl (w ++ wr) H1 → va_D A (w ++ wr) → va_S A s.heap H1 locs1 → W p l e R s m args below meth c H1 locs1 (cells + mc) (slots + ms) Q (F0 m hp ls [.ref x])) :
    W p l e R s m args below meth c H locs cells slots Q (F0 m pc ls st0) := by
  obtain ⟨hx, hb, hml, hown, hts, hK, hA, hN, hZ, hNC, htab⟩ := C0
  have hFc := va_free (wc := w0) hD hS hA (List.range w0.length) (map_front w0 wr)
  intro T hT X0
  obtain ⟨x, st₀, t, T', L, h1, X', hL, e1, e2, hq, st⟩ := hr T hT X0
  obtain ⟨x', w, ce, h0, h2, h3, h4, h5, h6, h7, h8, h9⟩ := hq
  cases h0
  have hmeth : T'.vm.method? m = some meth := X'.method'
  obtain ⟨vm', hW', hft⟩ := hfind T' ce x (by rw [X'.admits.platform]) X'.warmed hmeth X'.code (by rw [e1]; exact h7) (by rw [e2]; exact h8) h9
  have X'' : Stand p l e R s m args below meth c (T'.setVm vm') (locs ++ L) (cells + mc) (slots + ms) := X'.noted hW'
  have hk : ∀ q : Nat, q < H.size → ¬ va_A w0 H.size q → t.heap[q]? = H[q]? := fun q q1 q2 => by
    have := h6.2 q (by rw [h1]; exact q1) q2
    rw [this, h1]
  obtain ⟨hP2, hD2⟩ := va_join (w1 := w) (wr := wr) hP hD (List.range w0.length) (List.range' w0.length wr.length) (map_front w0 wr) (map_back w0 wr) (nd_range' _ _) (fun i hi hj => by have h1 := List.mem_range'_1.mp hi; have h2 := List.mem_range.mp hj; omega) hk hFc h3 h5
  have hsz : H.size ≤ t.heap.size := by have := h6.1; rw [h1] at this; exact this
  have hS2 : va_S A s.heap t.heap (locs ++ L) := ⟨Nat.le_trans hS.1 hsz, fun q q1 q2 => by rw [hk q (Nat.lt_of_lt_of_le q1 hS.1) (fun z => q2 (hFc q z))]; exact hS.2.1 q q1 q2, fun q hq => by
    rcases List.mem_append.mp hq with h | h
    · exact hS.2.2 q h
    · exact hFc _ (hL q h)⟩
  obtain ⟨t2, a1, b1⟩ := kk x w t.heap (locs ++ L) h2 (P_perm List.perm_append_comm hP2) (D_perm List.perm_append_comm hD2) hS2 (T'.setVm vm') (by show T'.heap = _; exact e1) X''
  exact ⟨t2, st.trans (steps_cold (g := F0 m pc ls rest) X'.here hft a1), b1⟩
end
theorem set_last {α : Type} (w : List α) (x y : α) : (w ++ [x]).set w.length y = w ++ [y] := by
  rw [List.set_append]
  simp
section
variable {e : Env} {s T : State} {m : MethodId} {args : Array Value} {meth : Method} {c : Code} {pc : Nat} {ls : Array Slot} {rest : List Value} {own X X1 : String} {idx idx1 : Nat} {x : Addr} {ce : Cell} {x1 x2 : ExceptionTableEntry} {r : List ExceptionTableEntry}
theorem ft_first (hpl : e.platform.magicAccessors = ({} : Platform).magicAccessors) (hown : s.vm.findClass own = some m.cls) (hlink : (Cond.classLink own idx X).before args s = true) (hW : s.WarmedH T.vm) (hm : T.vm.method? m = some meth) (hc : meth.code = some c) (htab : c.exceptionTable.toList = x1 :: r) (hcov : covers x1 pc = true) (hidx : x1.catchType = idx) (h0 : idx ≠ 0)
    (hcell : T.heap[x]? = some ce) (hX : T.vm.findClass X = some ce.cls) (hvm : ce.vm = .none) : ∃ vm', s.WarmedH vm' ∧ FT e ((T.setTop (F0 m pc ls rest)).pushFrame (.throwing x)) (F0 m pc ls rest) x (.found x1.handlerPc) vm' := by
  subst hidx
  obtain ⟨c1, hc1, hcl⟩ := Cond.classLink_spec hown hlink e.platform hpl
  obtain ⟨hg₁, hwarm₁, hready₁⟩ := State.classEntry (e := e) hW hcl
  refine ⟨_, hwarm₁, fun Q E d acts => ?_⟩
  have hce : ce.cls = c1 := by
    rw [hW.alike.findClass, hc1] at hX
    exact (Option.some.inj hX).symm
  have hk : ∃ k, (T.vm.noted m.cls x1.catchType (.cls c1)).classes[c1]? = some k := Vm.classAt_of_findClass (name := X) (by rw [hwarm₁.alike.findClass]; exact hc1)
  rw [W.findHandler_eq (s := (T.setTop (F0 m pc ls rest)).pushFrame (.throwing x)) (f := F0 m pc ls rest) (by rw [Stand.throwing_vm]; exact hm) hc, htab,
    go_cold (s := (T.setTop (F0 m pc ls rest)).pushFrame (.throwing x)) (f := F0 m pc ls rest) (cell := ce) hcov h0 (by rw [Stand.throwing_vm]; exact hg₁) hready₁ (by rw [Stand.throwing_heap]; exact hcell) (fun k h => by rw [hvm] at h; cases h) (by rw [hce]; exact hk) hk (by rw [Stand.throwing_vm]; exact Nat.le_of_eq (by simp [Vm.noted])),
    if_pos (by rw [hce, Vm.assignable, Vm.assignableAux, beq_self_eq_true, Bool.true_or])]
theorem ft_second (hpl : e.platform.magicAccessors = ({} : Platform).magicAccessors) (hown : s.vm.findClass own = some m.cls) (hlink1 : (Cond.classLink own idx1 X1).before args s = true) (hlink : (Cond.classLink own idx X).before args s = true) (hnc : va_Nc X X1 s) (hW : s.WarmedH T.vm) (hm : T.vm.method? m = some meth) (hc : meth.code = some c) (htab : c.exceptionTable.toList = x1 :: x2 :: r) (hcov1 : covers x1 pc = true) (hidx1 : x1.catchType = idx1) (h01 : idx1 ≠ 0) (hcov : covers x2 pc = true) (hidx : x2.catchType = idx) (h0 : idx ≠ 0)
    (hcell : T.heap[x]? = some ce) (hX : T.vm.findClass X = some ce.cls) (hvm : ce.vm = .none) : ∃ vm', s.WarmedH vm' ∧ FT e ((T.setTop (F0 m pc ls rest)).pushFrame (.throwing x)) (F0 m pc ls rest) x (.found x2.handlerPc) vm' := by
  subst hidx hidx1
  obtain ⟨c1, hc1, hcl1⟩ := Cond.classLink_spec hown hlink1 e.platform hpl
  obtain ⟨c2, hc2, hcl2⟩ := Cond.classLink_spec hown hlink e.platform hpl
  obtain ⟨hg₁, hwarm₁, hready₁⟩ := State.classEntry (e := e) hW hcl1
  obtain ⟨hg₂, hwarm₂, hready₂⟩ := State.classEntry (e := e) (s := s) (vm₀ := T.vm.noted m.cls x1.catchType (.cls c1)) hwarm₁ hcl2
  refine ⟨_, hwarm₂, fun Q E d acts => ?_⟩
  have hce : ce.cls = c2 := by
    rw [hW.alike.findClass, hc2] at hX
    exact (Option.some.inj hX).symm
  obtain ⟨k2, k1, n1, n2, n3⟩ := hnc
  have e1 : k2 = c2 := Option.some.inj (n1.symm.trans hc2)
  have e2 : k1 = c1 := Option.some.inj (n2.symm.trans hc1)
  subst e1 e2
  have hka : ∃ k, (T.vm.noted m.cls x1.catchType (.cls k1)).classes[k1]? = some k := Vm.classAt_of_findClass (name := X1) (by rw [hwarm₁.alike.findClass]; exact hc1)
  have hkb : ∃ k, (T.vm.noted m.cls x1.catchType (.cls k1)).classes[k2]? = some k := Vm.classAt_of_findClass (name := X) (by rw [hwarm₁.alike.findClass]; exact hc2)
  have hkc : ∃ k, ((T.vm.noted m.cls x1.catchType (.cls k1)).noted m.cls x2.catchType (.cls k2)).classes[k2]? = some k := Vm.classAt_of_findClass (name := X) (by rw [hwarm₂.alike.findClass]; exact hc2)
  have hno : (T.vm.noted m.cls x1.catchType (.cls k1)).assignable k2 k1 = false := by rw [hwarm₁.alike.assignable]; exact n3
  rw [W.findHandler_eq (s := (T.setTop (F0 m pc ls rest)).pushFrame (.throwing x)) (f := F0 m pc ls rest) (by rw [Stand.throwing_vm]; exact hm) hc, htab,
    go_cold (s := (T.setTop (F0 m pc ls rest)).pushFrame (.throwing x)) (f := F0 m pc ls rest) (cell := ce) hcov1 h01 (by rw [Stand.throwing_vm]; exact hg₁) hready₁ (by rw [Stand.throwing_heap]; exact hcell) (fun k h => by rw [hvm] at h; cases h) (by rw [hce]; exact hkb) hka (by rw [Stand.throwing_vm]; exact Nat.le_of_eq (by simp [Vm.noted])),
    if_neg (by rw [hce, hno]; decide),
    go_cold (s := ((T.setTop (F0 m pc ls rest)).pushFrame (.throwing x)).setVm (T.vm.noted m.cls x1.catchType (.cls k1))) (f := F0 m pc ls rest) (cell := ce) hcov h0 hg₂ hready₂ (by show ((T.setTop (F0 m pc ls rest)).pushFrame (.throwing x)).heap[x]? = _; rw [Stand.throwing_heap]; exact hcell) (fun k h => by rw [hvm] at h; cases h) (by rw [hce]; exact hkc) hkc (by show Array.size _ ≤ Array.size (T.vm.noted _ _ _).classes; exact Nat.le_of_eq (by simp [Vm.noted])),
    if_pos (by rw [hce, Vm.assignable, Vm.assignableAux, beq_self_eq_true, Bool.true_or])]
  rfl
end
/-! a static call of a method with a table of handlers -/
theorem runSW {p : Program} {l : Launch} {e : Env} {R : Room} {s : State} {m : MethodId} {args : Array Value} {below : List Frame} {meth : Method} {c : Code} {H : Heap} {locs : List Loc} {cells slots : Nat} {y : MethodName} {bytes cc : ByteArray} {maxL nL mc ms n index : Nat} {ret : Option FieldType} {hh : List (Nat × Nat × Nat × Nat)} {ws : List Cond} {rm : Room} {Pc : Array Value → State → Prop} {Qc : Array Value → State → Outcome → State → Prop} {free : Addr → Prop} {Ts : List Cond} {own : String} {As rest : List Value} {g : JFrame}
    (S : CallFix p m c cc nL s args Ts own) (hM : Met l y ws rm Pc Qc mc ms free) (hrc : rm.cells = mc) (hrs : rm.slots = ms) (hfr : rm.frames + 1 ≤ R.frames) (hlo : 8 + (maxL + 11) + rm.locals ≤ R.locals) (hG : GoodIn Ts ws) (hcw : Cond.codeWith y bytes maxL ret hh ∈ ws) (hini : (Cond.initialized y.cls).before args s = true) (hy : y.cls ≠ "java/lang/invoke/MethodHandle" ∧ y.cls ≠ "java/lang/invoke/VarHandle") (hpd : (parseMethodDescriptor y.desc).map (fun d => d.parameters.length) = some n) (hlink : (Cond.methodLink own index y).before args s = true) (hstat : (Cond.static y).before args s = true) (hp : PreS s H Pc As)
    (hg : g.method = m) (hn : As.length = n) (hsize : g.locals.size = nL) (hstack : g.stack = As.reverse ++ rest) (hW : 2 * g.monitorRoom + (rest.map fun v => v.category).sum ≤ 8) (hdg : decode cc g.pc = .ok (.invokestatic index, 3)) (hf : cells + mc ≤ R.cells ∧ slots + ms ≤ R.slots) :
    va_Run p l e R s m args below meth c H locs cells slots mc ms g rest (Qc As.toArray) free := by
  obtain ⟨hx, hb, hml, hown, hts⟩ := S
  subst hb
  have hws := pay_in hts hG
  have hcode : (Cond.codeWith y bytes maxL ret hh).before args s = true := hts _ (hG _ hcw).1
  obtain ⟨mk, methM, cM, hnamed, hmethM, -, -, -, -, -, -, hsigM⟩ := Cond.codeWith_spec hcode
  have hstatic : methM.isStatic = true := Cond.static_spec hnamed hmethM hstat
  obtain ⟨kP, hkP, -⟩ := className_of_methodNamed hnamed
  have hinitP : kP.init = .initialized := Cond.initialized_spec (findClass_of_methodNamed hnamed) hkP hini
  have hK : Back l R p e below s args y 3 8 (PreOf R mc ms Pc) (PostOf Qc mc ms free) := va_backW (hh := hh) (bytes := bytes) (maxL := maxL) (ret := ret) hM hp.1 hrc hrs hfr hlo hws hcw (fun a' U hW => word_at hW (Or.inl (by first | rfl | simp [Cond.onTables, Cond.keeps, Cond.steady])) hini)
  intro T hT X
  obtain ⟨vm₁, X₁, hstep₁⟩ := X.invokestatic hx hown hlink hnamed hmethM hstatic hkP hinitP hy (g := g) hg (argsL := As) (rest := rest) (by rw [hn]; rw [hsigM] at hpd; exact (Option.some.inj hpd).symm) hstack hdg
  obtain ⟨v, ⟨U', l2, c2, s2⟩, X', ⟨g', mk', t, L, e1, e2, hq, h1, hL, h2, h3⟩, st⟩ := hK m meth c ⟨T.setVm vm₁, locs, cells, slots⟩ { g with stack := rest } (.invokestatic index) mk As.toArray X₁ hg (hsize.trans hml.symm) hdg hW (X₁.named hnamed) ⟨hf.1, hf.2, hp.2 (T.setVm vm₁) hT X₁.warmed⟩
  dsimp only [Pt.U, Pt.locs, Pt.cells, Pt.slots] at X' e1 e2 h1 h2 h3 st
  subst h1; subst h2; subst h3
  exact ⟨v, (T.setVm vm₁).calling g' mk' As.toArray, t, U', L, hT, X', hL, e1, e2, hq, fun target h => hstep₁ _ fun acts => by rw [doInvoke_state]; exact st.trans h⟩

