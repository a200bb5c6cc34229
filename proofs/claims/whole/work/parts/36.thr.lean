/-! THROWS over worlds: a contract that ends in 'threw', its walk, its source, its passing on. -/
def exN : Nat → String
  | 1 => "java/lang/IllegalArgumentException"
  | 2 => "java/lang/IllegalStateException"
  | _ => "java/lang/IndexOutOfBoundsException"
def orT {α : Type} (x y : Option α) : Option α := match x with
  | some a => some a
  | none => y
theorem orT_some {α : Type} {x y : Option α} {r : α} (h : orT x y = some r) : x = some r ∨ y = some r := by
  cases x with
  | none => exact Or.inr h
  | some a => exact Or.inl h
def stW : List Cond := [.isRef (.static "java/lang/Throwable" "UNASSIGNED_STACK" "[Ljava/lang/StackTraceElement;"), .isRef (.static "java/lang/Throwable" "SUPPRESSED_SENTINEL" "Ljava/util/List;"), .laysStatic "java/lang/Throwable" "UNASSIGNED_STACK" "[Ljava/lang/StackTraceElement;", .laysStatic "java/lang/Throwable" "SUPPRESSED_SENTINEL" "Ljava/util/List;"]
def thOK (a : Cond) : Bool := (decide (a ∈ lw_tbl) && (goodWord a || thK a)) || decide (a ∈ stW)
def thN : List String := ["java/lang/RuntimeException", "java/lang/Exception"]
theorem own_at {s s2 : State} {args : Array Value} {A : Nat → Prop} (hts : ∀ w ∈ TT, w.before args s = true) (hN : NW s) (hW : s.WarmedH s2.vm) (hZ : ZQ A s2 s2.heap) {a : Cond} (h : thOK a = true) : a.before args s2 = true := by
  unfold thOK at h
  rw [Bool.or_eq_true] at h
  rcases h with h | h
  · rw [Bool.and_eq_true, Bool.or_eq_true] at h
    have hm := of_decide_eq_true h.1
    rcases h.2 with g | g
    · exact word_at hW (good_of_word g) (hts a (mem_TT hm g))
    · exact (thK_warm g hW (hN.1 a hm g)).use (thK_tab g)
  · have hm := of_decide_eq_true h
    simp only [stW, List.mem_cons, List.not_mem_nil, or_false] at hm
    rcases hm with rfl | rfl | rfl | rfl
    · exact hZ.1.isRef
    · exact hZ.2.isRef
    · exact hZ.1.lays
    · exact hZ.2.lays
/-- how a method ends that throws: the world behind it, and the exception's cell -/
def QTA (D : va_G) (cl : List vw_C) (tys : List (ClassId × FieldType)) (A : Nat → Prop) (X : String) (Post : va_W → Prop) : Array Value → State → Outcome → State → Prop := fun _ st o t => ∃ (a : Nat) (w : va_W) (ce : Cell), o = .threw a ∧ Post w ∧ va_P D cl w t.heap ∧ va_K D cl tys t ∧ va_D A w ∧ va_F A st t ∧ t.heap[a]? = some ce ∧ t.vm.findClass X = some ce.cls ∧ ce.vm = .none
def CTt (l : Launch) (y : MethodName) (ws : List Cond) (rm : Room) (mc ms : Nat) (D : va_G) (cl : List vw_C) (tys : List (ClassId × FieldType)) (as : List Value) (w0 : va_W) (X : String) (Post : va_W → Prop) : Prop :=
  ∀ sz : Nat, MetT l y ws rm (va_Pc as (WP D cl tys w0 sz)) (QTA D cl tys (va_A w0 sz) X Post) mc ms (va_A w0 sz)
theorem mk_t {l : Launch} {y : MethodName} {ws ws' : List Cond} {rm : Room} {D : va_G} {cl : List vw_C} {cA cP : ClassId} {as : List Value} {w0 : va_W} {cc : ByteArray} {maxL mc ms : Nat} {own : String} {ret : Option FieldType} {X : String} {Post : va_W → Prop} (hl0 : l.flags = pinnedFlags ++ [noTraceFlag]) (hy : plainName y.cls = true) (hw : ws = Cond.code y cc maxL ret :: ws') (hown : y.cls = own) (hlen : (lg_sl as).length ≤ maxL)
    (body : ∀ (p : Program) (e : Env) (s : State) (m : MethodId) (below : List Frame) (meth : Method) (c : Code) (A : Nat → Prop), CX p s m as.toArray c cc maxL own ws D cl cA cP A → (l.flags = pinnedFlags ++ [noTraceFlag] ∧ e.platform.stackTraces = false) → c.exceptionTable.isEmpty = true → meth.locks = false → ∀ ls : Array Slot, lv_has ls maxL (lv_args 0 as) → va_P D cl w0 s.heap → va_D A w0 → va_S A s.heap s.heap [] → W p l e rm s m as.toArray below meth c s.heap [] 0 0 (MQT below (QTA D cl (TY cA cP) A X Post) as.toArray s mc ms A) (F0 m 0 ls [])) :
    CTt l y ws rm mc ms D cl (TY cA cP) as w0 X Post := by
  intro sz
  refine MetT.ofW (cc := cc) (maxL := maxL) (ret := ret) hy hw ?_
  intro p e s m args below meth c s₁ B hml hv
  obtain ⟨rfl, hsz, hP, hK, hD0, hN, hZ0⟩ := hv
  subst hsz
  have hZ : ZQ (va_A w0 s.heap.size) s s.heap := ⟨zl_in hK hP hZ0.1, zl_in hK hP hZ0.2⟩
  have hlocks := B.notSynchronized
  have hD := hD0.self (sz := s.heap.size)
  have hown2 : s.vm.findClass own = some m.cls := by rw [← hown]; exact findClass_of_methodNamed B.named
  have hA : ∀ q : Nat, s.heap.size ≤ q → va_A w0 s.heap.size q := fun q h => Or.inr h
  rw [lg_entry_eq]
  exact body p e s m below meth c _ ⟨B.exec, B.bytes, hml, hown2, atoms_spec (ws := ws) B.pre, hK, hA, hN, hZ⟩ ⟨hl0, Launch.traces_off hl0 (Stand.of_body B).admits⟩ (B.noHandlers (atoms_spec (ws := ws) B.pre _ (by rw [hw]; exact List.mem_cons_self))) hlocks _ (lv_entry as hlen) hP hD va_S.rf
section
variable {p : Program} {l : Launch} {e : Env} {R : Room} {s : State} {m : MethodId} {args : Array Value} {below : List Frame} {meth : Method} {c : Code} {H : Heap} {locs : List Loc} {cells slots mc ms : Nat} {pc nL : Nat} {ls : Array Slot} {rest st0 : List Value} {D : va_G} {cl : List vw_C} {A : Nat → Prop} {cA cP : ClassId} {w0 w : va_W} {cc : ByteArray} {own X tx : String} {Ts : List Cond} {Post : va_W → Prop} {a : Array Value}
theorem th_passW (hr : RunT p l e R s m args below meth c H locs cells slots mc ms (F0 m pc ls st0) (F0 m pc ls rest) (QTA D cl (TY cA cP) (va_A w0 H.size) X Post a) (va_A w0 H.size)) (hno : c.exceptionTable.isEmpty = true) (hlk : meth.locks = false) (hP : va_P D cl w0 H) (hD : va_D A w0) (hS : va_S A s.heap H locs) (hA : ∀ q : Nat, s.heap.size ≤ q → A q) :
    W p l e R s m args below meth c H locs cells slots (MQT below (QTA D cl (TY cA cP) A X Post) args s (cells + mc) (slots + ms) A) (F0 m pc ls st0) := by
  have hFc := va_free (wc := w0) hD hS hA (List.range w0.length) (range_all w0)
  refine th_pass hr hno hlk (fun x st₀ t h1 hq t2 e1 e2 hW => ?_) hS.2.2 hFc
  obtain ⟨x', w, ce, h0, h2, h3, h4, h5, h6, h7, h8, h9⟩ := hq
  cases h0
  refine ⟨x, w, ce, rfl, h2, by rw [e1]; exact h3, va_K.moved (by rw [e2]; exact Vm.Alike.refl _) h4, h5.weaken (fun _ _ _ z => hFc _ z), ⟨?_, fun q hq1 hq2 => ?_⟩, by rw [e1]; exact h7, by rw [e2]; exact h8, h9⟩
  · rw [e1]
    have := h6.1
    rw [h1] at this
    exact Nat.le_trans hS.1 this
  · rw [e1, h6.2 q (by rw [h1]; exact Nat.lt_of_lt_of_le hq1 hS.1) (fun z => hq2 (hFc q z)), h1]
    exact hS.2.1 q hq1 hq2
theorem th_new {names : List String} {ic ik ix : Nat} (C0 : CX p s m args c cc nL own Ts D cl cA cP A) (htr : l.flags = pinnedFlags ++ [noTraceFlag] ∧ e.platform.stackTraces = false) (hno : c.exceptionTable.isEmpty = true) (hlk : meth.locks = false) (hls : ls.size = nL) (hTT : ∀ w ∈ TT, w ∈ Ts)
    (hcl : Cond.classLink own ik X ∈ TT) (hins : Cond.instantiable X 6 ∈ TT) (hini : Cond.initialized X ∈ TT) (hst : Cond.stringRef own ix tx ∈ lw_tbl)
    (hat : ∀ a ∈ Bundle.ownAtoms own ic X names, thOK a = true) (hcls : Bundle.fit X = true) (hnames : ∀ n ∈ names, Bundle.fit n = true)
    (d0 : decode cc pc = .ok (.new ik, 3)) (d3 : decode cc (pc + 3) = .ok (.dup, 1)) (d4 : decode cc (pc + 4) = .ok (.ldc ix, 2)) (d6 : decode cc (pc + 6) = .ok (.invokespecial ic, 3)) (d9 : decode cc (pc + 9) = .ok (.athrow, 1))
    (hnl : names.length = 2) (hc1 : 1 ≤ R.cells) (hs1 : 6 ≤ R.slots) (hf1 : 6 ≤ R.frames) (hl1 : 100 ≤ R.locals) (hpost : Post w) (hP : va_P D cl w H) (hD : va_D A w) (hS : va_S A s.heap H locs) :
    W p l e R s m args below meth c H locs 0 0 (MQT below (QTA D cl (TY cA cP) A X Post) args s 1 6 A) (F0 m pc ls []) := by
  obtain ⟨hx, hb, hml, hown, hts, hK, hA, hN, hZ⟩ := id C0
  refine W_rebase (R2 := { frames := 6, cells := 1, slots := 6, locals := 100 }) (cells := 0) (slots := 0) (mc := 1) (ms := 6) (free := A) (free1 := A)
    (Qt2 := fun _ st o U => ∃ (a : Nat) (ce : Cell), o = .threw a ∧ U.heap[a]? = some ce ∧ st.heap.size ≤ U.heap.size ∧ st.WarmedH U.vm ∧ (∀ q : Nat, q < st.heap.size → U.heap[q]? = st.heap[q]?) ∧ st.vm.findClass X = some ce.cls ∧ ce.vm = .none)
    hf1 hl1 (by show 0 + 1 ≤ _; omega) (by show 0 + 6 ≤ _; omega) (fun s2 h2 hW => ?_) (fun s2 t x h2 hW hW2 hq => ?_) hS.2.2 (fun _ h => h)
  · have hown2 : s2.vm.findClass own = some m.cls := by rw [hW.alike.findClass]; exact hown
    obtain ⟨sq, hsq⟩ := hN.2.1 own ix tx hst
    have hgood : ∀ w ∈ TT, w.before args s2 = true := fun w h => word_at hW (good_of_word (good_TT h)) (hts w (hTT w h))
    have hZ2 : ZQ (fun _ => False) s2 s2.heap := hZ.at hS h2 hW
    rw [← h2]
    refine th_source (names := names) hx hb hown2 htr.2 (hgood _ hcl) (hgood _ hins) (hgood _ hini) (hsq.warm hW) (fun a ha => own_at (fun w h => hts w (hTT w h)) hN hW hZ2 (hat a ha)) hcls hnames hno hlk (by rw [hml]; exact hls) d0 d3 d4 d6 d9 (Nat.le_refl _) (Nat.le_refl _) (by rw [hnl]; decide) (by rw [hnl]; decide) (fun a U ce h0 h1 h3 h4 h5 h6 h7 => ⟨a, ce, rfl, h1, h3, h4, h5, h6, h7⟩)
  · obtain ⟨x', ce, h0, h1, h3, h4, h5, h6, h7⟩ := hq
    cases h0
    rw [h2] at h3 h5
    refine ⟨x, w, ce, rfl, hpost, hP.kept (fun k q hq => h5 q.1 (hP k q hq).lt), va_K.moved hW2.alike (va_K.moved hW.alike hK), hD, ⟨Nat.le_trans hS.1 h3, fun q q1 q2 => ?_⟩, h1, by rw [hW2.alike.findClass]; exact h6, h7⟩
    rw [h5 q (Nat.lt_of_lt_of_le q1 hS.1)]
    exact hS.2.1 q q1 q2
end
theorem wd_76 : (Cond.initialized "java/lang/IllegalArgumentException") ∈ TT := mem_TT (List.mem_of_getElem? (i := 76) (by decide +kernel)) (by decide +kernel)
theorem wd_77 : (Cond.initialized "java/lang/IllegalStateException") ∈ TT := mem_TT (List.mem_of_getElem? (i := 77) (by decide +kernel)) (by decide +kernel)
theorem wd_79 : (Cond.initialized "java/lang/IndexOutOfBoundsException") ∈ TT := mem_TT (List.mem_of_getElem? (i := 79) (by decide +kernel)) (by decide +kernel)
theorem wd_429 : (Cond.classLink "PlaneNet" 183 "java/lang/IllegalArgumentException") ∈ TT := mem_TT (List.mem_of_getElem? (i := 429) (by decide +kernel)) (by decide +kernel)
theorem wd_430 : (Cond.instantiable "java/lang/IllegalArgumentException" 6) ∈ TT := mem_TT (List.mem_of_getElem? (i := 430) (by decide +kernel)) (by decide +kernel)
theorem wd_513 : (Cond.classLink "PlaneNet" 86 "java/lang/IllegalStateException") ∈ TT := mem_TT (List.mem_of_getElem? (i := 513) (by decide +kernel)) (by decide +kernel)
theorem wd_514 : (Cond.instantiable "java/lang/IllegalStateException" 6) ∈ TT := mem_TT (List.mem_of_getElem? (i := 514) (by decide +kernel)) (by decide +kernel)
theorem wd_666 : (Cond.classLink "PlaneNet" 121 "java/lang/IndexOutOfBoundsException") ∈ TT := mem_TT (List.mem_of_getElem? (i := 666) (by decide +kernel)) (by decide +kernel)
theorem wd_667 : (Cond.instantiable "java/lang/IndexOutOfBoundsException" 6) ∈ TT := mem_TT (List.mem_of_getElem? (i := 667) (by decide +kernel)) (by decide +kernel)
theorem at_1 : ∀ a ∈ Bundle.ownAtoms "PlaneNet" 187 "java/lang/IllegalArgumentException" thN, thOK a = true := by decide +kernel
theorem at_2 : ∀ a ∈ Bundle.ownAtoms "PlaneNet" 90 "java/lang/IllegalStateException" thN, thOK a = true := by decide +kernel
theorem at_3 : ∀ a ∈ Bundle.ownAtoms "PlaneNet" 125 "java/lang/IndexOutOfBoundsException" thN, thOK a = true := by decide +kernel
theorem ws_470 : Cond.stringRef "PlaneNet" 185 "x and y are from -1000000000 to 1000000000" ∈ lw_tbl := List.mem_of_getElem? (i := 470) (by decide +kernel)
theorem ws_522 : Cond.stringRef "PlaneNet" 88 "there are as many points as may be" ∈ lw_tbl := List.mem_of_getElem? (i := 522) (by decide +kernel)
theorem ws_675 : Cond.stringRef "PlaneNet" 123 "no such triangle or point of it" ∈ lw_tbl := List.mem_of_getElem? (i := 675) (by decide +kernel)
theorem ws_724 : Cond.stringRef "PlaneNet" 188 "no such point" ∈ lw_tbl := List.mem_of_getElem? (i := 724) (by decide +kernel)
theorem ws_742 : Cond.stringRef "PlaneNet" 142 "no such neighbour" ∈ lw_tbl := List.mem_of_getElem? (i := 742) (by decide +kernel)
theorem ws_762 : Cond.stringRef "PlaneNet" 153 "no such corner" ∈ lw_tbl := List.mem_of_getElem? (i := 762) (by decide +kernel)
theorem ws_798 : Cond.stringRef "PlaneNet" 167 "there are no points" ∈ lw_tbl := List.mem_of_getElem? (i := 798) (by decide +kernel)
theorem ws_807 : Cond.stringRef "PlaneNet" 171 "there are not two points" ∈ lw_tbl := List.mem_of_getElem? (i := 807) (by decide +kernel)
theorem ws_806 : Cond.stringRef "PlaneNet" 169 "what is 0, 1 or 2" ∈ lw_tbl := List.mem_of_getElem? (i := 806) (by decide +kernel)
theorem ws_815 : Cond.stringRef "PlaneNet" 173 "what is 0 or 1" ∈ lw_tbl := List.mem_of_getElem? (i := 815) (by decide +kernel)
