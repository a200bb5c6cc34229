/-! THROWS: a callee that ends in 'threw', seen from its caller. -/
section
variable {p : Program} {l : Launch} {e : Env} {R : Room} {s : State} {m : MethodId} {args : Array Value} {below : List Frame} {meth : Method} {c : Code} {U : State} {locs : List Loc} {cells slots : Nat} {y : MethodName} {ws : List Cond} {rm : Room} {Pc : Array Value → State → Prop} {Qt : Array Value → State → Outcome → State → Prop} {bytes : ByteArray} {maxL mc ms : Nat} {ret : Option FieldType}
/-- what a contract that throws must say of its end -/
def ThrowEnd (st : State) (o : Outcome) (t : State) (mc ms : Nat) (free : Addr → Prop) : Prop := ∃ (x : Addr) (L : List Loc), o = .threw x ∧ st.WarmedH t.vm ∧ st.sameButNew ({ t with vm := st.vm } : State) L mc ms ∧ ∀ q ∈ L, free q.base
def MetT (l : Launch) (y : MethodName) (ws : List Cond) (rm : Room) (Pc : Array Value → State → Prop) (Qt : Array Value → State → Outcome → State → Prop) (mc ms : Nat) (free : Addr → Prop) : Prop :=
  MetFree l y (headSpec ws rm) Pc (fun _ _ _ _ _ => True) (fun a st o t => Qt a st o t ∧ ThrowEnd st o t mc ms free)
theorem th_call {free : Addr → Prop} (X : Stand p l e R s m args below meth c U locs cells slots) {g : JFrame} (hg : g.method = m) (hsize : g.locals.size = c.maxLocals) {ig : Instr} {len : Nat} (hdg : decode c.code g.pc = .ok (ig, len))
    (hW : 2 * g.monitorRoom + (g.stack.map fun v => v.category).sum ≤ 8) {mk : MethodId} (hn : U.methodNamed? y = some mk) (a : Array Value) (hM : MetT l y ws rm Pc Qt mc ms free)
    (hws : ∀ w ∈ ws, w.before a U = true) (hcode : (Cond.code y bytes maxL ret).before a U = true) (hinit : (Cond.initialized y.cls).before a U = true)
    (hfr : rm.frames + 1 ≤ R.frames) (hlo : 8 + (maxL + 11) + rm.locals ≤ R.locals) (hc : cells + rm.cells ≤ R.cells) (hs : slots + rm.slots ≤ R.slots) (hP : Pc a (U.calling g mk a)) :
    ∃ (x : Addr) (T' t : State) (L : List Loc), Stand p l e R s m args below meth c T' (locs ++ L) (cells + mc) (slots + ms) ∧ (∀ q ∈ L, free q.base) ∧ Qt a (U.calling g mk a) (.threw x) t ∧ T'.heap = t.heap ∧ T'.vm = t.vm ∧
      Steps p.tables e below (doInvoke e (U.setTop g) [] mk a).1 ((T'.setTop g).pushFrame (.throwing x)) := by
  obtain ⟨methY, cY, hmY, hcY, -, hlY, -, -, -, -⟩ := Cond.code_spec hn hcode
  obtain ⟨kY, hkY, -⟩ := className_of_methodNamed hn
  have hinitY : kY.init = .initialized := Cond.initialized_spec (findClass_of_methodNamed hn) hkY hinit
  have h : At U g.method c below := by rw [hg]; exact X.here
  have happ : (headSpec ws rm).appliesLoose y e.platform (U.calling g mk a) = true :=
    Spec.appliesLoose_calling (g := g) h hdg hn hkY hinitY (X.room_calling (g := g) (R' := rm) hsize hmY hcY hfr (by rw [hlY]; omega) hc hs) (atoms_intro hws)
  obtain ⟨mid, hmid⟩ := h.above
  have hfr2 : (U.setTop g).frames = (.java g :: mid) ++ below := by rw [State.frames_setTop' g h.top, hmid]; rfl
  obtain ⟨o, t, hsteps, -, hend, hq, x, L, rfl, hW2, hsame, hL⟩ := Steps.callFree hM p X.admits X.cas X.clock (acts := []) hfr2 happ hP trivial
  rw [State.frames_setTop' g h.top, X.tail] at hend
  obtain ⟨T', X', hW', hB, ht⟩ := X.outOfThrown hg hend hW2 hsame
  refine ⟨x, T', t, L, X', hL, hq, ?_, ?_, ?_⟩
  · rw [ht, Stand.throwing_heap]
  · rw [ht, Stand.throwing_vm]
  · rw [← ht]; exact hsteps
end

section
variable {p : Program} {l : Launch} {e : Env} {R : Room} {s : State} {m : MethodId} {args : Array Value} {below : List Frame} {meth : Method} {c : Code} {H : Heap} {locs : List Loc} {cells slots : Nat} {Q : State → Prop} {y : MethodName} {ws ws' : List Cond} {rm : Room} {Pc : Array Value → State → Prop} {Qt : Array Value → State → Outcome → State → Prop} {bytes cc : ByteArray} {nL maxL mc ms index n : Nat} {ret : Option FieldType} {free free1 : Addr → Prop} {Ts : List Cond} {own C : String} {As rest st0 : List Value} {g : JFrame} {b : Addr} {pc : Nat} {ls : Array Slot}
/-- a call that throws: the frame g, at the invoke; g2: the same with its arguments taken -/
def RunT (p : Program) (l : Launch) (e : Env) (R : Room) (s : State) (m : MethodId) (args : Array Value) (below : List Frame) (meth : Method) (c : Code) (H : Heap) (locs : List Loc) (cells slots mc ms : Nat) (g g2 : JFrame) (Qa : State → Outcome → State → Prop) (free : Addr → Prop) : Prop :=
  ∀ T : State, T.heap = H → Stand p l e R s m args below meth c T locs cells slots → ∃ (x : Addr) (st₀ t T' : State) (L : List Loc), st₀.heap = H ∧ Stand p l e R s m args below meth c T' (locs ++ L) (cells + mc) (slots + ms) ∧ (∀ q ∈ L, free q.base) ∧ T'.heap = t.heap ∧ T'.vm = t.vm ∧ Qa st₀ (.threw x) t ∧
    Steps p.tables e below (T.setTop g) ((T'.setTop g2).pushFrame (.throwing x))
theorem th_runS (S : CallFix p m c cc nL s args Ts own) (hM : MetT l y ws rm Pc Qt mc ms free) (cw : CallB R s args own index y bytes maxL ret ws rm mc ms n ∧ (Cond.static y).before args s = true) (hp : PreS s H Pc As)
    (hg : g.method = m) (hn : As.length = n) (hsize : g.locals.size = nL) (hstack : g.stack = As.reverse ++ rest) (hW : 2 * g.monitorRoom + (rest.map fun v => v.category).sum ≤ 8) (hdg : decode cc g.pc = .ok (.invokestatic index, 3)) (hf : cells + mc ≤ R.cells ∧ slots + ms ≤ R.slots) :
    RunT p l e R s m args below meth c H locs cells slots mc ms g { g with stack := rest } (Qt As.toArray) free := by
  intro T hT X
  obtain ⟨hexec, hb, hml, hown, hts⟩ := S
  obtain ⟨⟨hrc, hrs, hfr, hlo, hws, hcw, hcode, hini, hy, hlen, hlink⟩, hstat⟩ := cw
  subst hb
  obtain ⟨mk, hnamed⟩ := Cond.code_named hcode
  obtain ⟨methM, cM, hmethM, -, -, -, -, -, -, hsigM⟩ := Cond.code_spec hnamed hcode
  have hstatic : methM.isStatic = true := Cond.static_spec hnamed hmethM hstat
  obtain ⟨kP, hkP, -⟩ := className_of_methodNamed hnamed
  have hinitP : kP.init = .initialized := Cond.initialized_spec (findClass_of_methodNamed hnamed) hkP hini
  obtain ⟨vm₁, X₁, hstep₁⟩ := X.invokestatic hexec hown hlink hnamed hmethM hstatic hkP hinitP hy (g := g) hg (argsL := As) (rest := rest) (by rw [hn]; exact hlen _ hsigM) hstack hdg
  have hini2 : (Cond.initialized y.cls).before As.toArray (T.setVm vm₁) = true := word_at X₁.warmed (Or.inl (by first | rfl | simp [Cond.onTables, Cond.keeps, Cond.steady])) hini
  obtain ⟨x, T', t, L, X', hL, hq, e1, e2, st⟩ := th_call (bytes := bytes) (maxL := maxL) (ret := ret) X₁ (g := { g with stack := rest }) hg (hsize.trans hml.symm) (ig := .invokestatic index) (len := 3) hdg hW (X₁.named hnamed) As.toArray hM (fun w hw => hws w hw _ _ X₁.warmed) (hws _ hcw _ _ X₁.warmed) hini2 hfr hlo (by rw [hrc]; exact hf.1) (by rw [hrs]; exact hf.2) (hp.1 _ _ _ _ (hp.2 _ hT X₁.warmed))
  exact ⟨x, (T.setVm vm₁).calling { g with stack := rest } mk As.toArray, t, T', L, hT, X', hL, e1, e2, hq, hstep₁ _ fun acts => by rw [doInvoke_state]; exact st⟩
theorem th_runV (S : CallFix p m c cc nL s args Ts own) (hM : MetT l y ws rm Pc Qt mc ms free) (cw : CallW R s args own C index y bytes maxL ret ws rm mc ms n) (hp : PreV s H C b Pc As)
    (hg : g.method = m) (hn : As.length = n) (hsize : g.locals.size = nL) (hstack : g.stack = As.reverse ++ .ref b :: rest) (hW : 2 * g.monitorRoom + (rest.map fun v => v.category).sum ≤ 8) (hdg : decode cc g.pc = .ok (.invokevirtual index, 3)) (hf : cells + mc ≤ R.cells ∧ slots + ms ≤ R.slots) :
    RunT p l e R s m args below meth c H locs cells slots mc ms g { g with stack := rest } (Qt (Value.ref b :: As).toArray) free := by
  intro T hT X
  obtain ⟨hexec, hb, hml, hown, hts⟩ := S
  obtain ⟨⟨hrc, hrs, hfr, hlo, hws, hcw, hcode, hini, hy, hlen, hlink⟩, hinst, hsel⟩ := cw
  obtain ⟨hbl, ⟨cellB, hcell, hobj, hcls⟩, hpre⟩ := hp
  subst hb
  obtain ⟨mk, methM, hnamed, hmethM, hstM, habM⟩ := Cond.instanceMethod_spec hinst
  obtain ⟨methM', cM, hmethM', -, -, -, -, -, -, hsigM⟩ := Cond.code_spec hnamed hcode
  cases hmethM.symm.trans hmethM'
  obtain ⟨c2, r2, m2, q1, q2, q3, q4, kP, hkP, hkPi⟩ := Cond.selects_spec hsel
  cases hcls.symm.trans q1
  cases (State.methodFound?_of_named hnamed hy).symm.trans q2
  cases hnamed.symm.trans q3
  have hselP : selectMethod e.platform s.vm cellB.cls mk = .method mk := by rw [Launch.admits_selectMethod X.admits]; exact q4
  obtain ⟨vm₁, X₁, hstep₁⟩ := X.invokevirtual hexec hown hlink hnamed hmethM hstM hkP hkPi hy (a := b) (cell := cellB) (by rw [hT]; exact hcell)
    (fun z h => by rw [h] at hobj; cases hobj) hselP hmethM habM hkP hkPi (g := g) hg (argsL := As) (rest := rest) (by rw [hn]; exact hlen _ hsigM) hstack hdg
  have hini2 : (Cond.initialized y.cls).before (Value.ref b :: As).toArray (T.setVm vm₁) = true := word_at X₁.warmed (Or.inl (by first | rfl | simp [Cond.onTables, Cond.keeps, Cond.steady])) hini
  obtain ⟨x, T', t, L, X', hL, hq, e1, e2, st⟩ := th_call (bytes := bytes) (maxL := maxL) (ret := ret) X₁ (g := { g with stack := rest }) hg (hsize.trans hml.symm) (ig := .invokevirtual index) (len := 3) hdg hW (X₁.named hnamed) (Value.ref b :: As).toArray hM (fun w hw => hws w hw _ _ X₁.warmed) (hws _ hcw _ _ X₁.warmed) hini2 hfr hlo (by rw [hrc]; exact hf.1) (by rw [hrs]; exact hf.2) (hbl _ _ _ _ (hpre _ hT X₁.warmed))
  exact ⟨x, (T.setVm vm₁).calling { g with stack := rest } mk (Value.ref b :: As).toArray, t, T', L, hT, X', hL, e1, e2, hq, hstep₁ _ fun acts => by rw [doInvoke_state]; exact st⟩
def MQT (below : List Frame) (Qt : Array Value → State → Outcome → State → Prop) (a : Array Value) (s : State) (mc ms : Nat) (free : Addr → Prop) : State → Prop := fun t => ∃ o, t.status = .running ∧ Ended t below o ∧ Qt a s o t ∧ ThrowEnd s o t mc ms free
theorem MetT.ofW (hy : plainName y.cls = true) (hw : ws = Cond.code y cc maxL ret :: ws')
    (body : ∀ p e s m args below meth c s₁, BodyLoose p l y (headSpec ws rm) cc maxL ret e s m args below meth c s₁ → c.maxLocals = maxL → Pc args s →
      W p l e (headSpec ws rm).room s m args below meth c s.heap [] 0 0 (MQT below Qt args s mc ms free) (entryFrame m args maxL)) : MetT l y ws rm Pc Qt mc ms free := by
  refine MetFree.of_bodyS (code := cc) (maxLocals := maxL) (ret := ret) hy ?_ ?_
  · intro args s m h hn
    obtain ⟨meth, c, h1, h2, h3, h4, h5, h6, -, -⟩ := Cond.code_spec hn (atoms_spec (ws := ws) h _ (by rw [hw]; exact List.mem_cons_self))
    exact ⟨meth, c, h1, h2, h3, h4, h5, h6⟩
  · intro p e s m args below meth c s₁ B hml hP _
    have hh0 : s₁.heap = s.heap := by rw [B.state]; rfl
    obtain ⟨t, a1, o, b1, b2, b3⟩ := body p e s m args below meth c s₁ B hml hP s₁ hh0 (Stand.of_body B)
    exact ⟨t, o, a1, b1, b2, b3⟩
/-- a method without handlers passes on what its callee throws -/
theorem th_pass {Qa : State → Outcome → State → Prop} (hr : RunT p l e R s m args below meth c H locs cells slots mc ms (F0 m pc ls st0) (F0 m pc ls rest) Qa free1) (hno : c.exceptionTable.isEmpty = true) (hlocks : meth.locks = false)
    (kk : ∀ (x : Addr) (st₀ t : State), st₀.heap = H → Qa st₀ (.threw x) t → ∀ t2 : State, t2.heap = t.heap → t2.vm = t.vm → s.WarmedH t2.vm → Qt args s (.threw x) t2) (hf : ∀ q ∈ locs, free q.base) (hf1 : ∀ q, free1 q → free q) :
    W p l e R s m args below meth c H locs cells slots (MQT below Qt args s (cells + mc) (slots + ms) free) (F0 m pc ls st0) := by
  intro T hT X
  obtain ⟨x, st₀, t, T', L, h1, X', hL, e1, e2, hq, st⟩ := hr T hT X
  have hemp : c.exceptionTable = #[] := by simpa using hno
  obtain ⟨w1, w2, w3, w4, w5⟩ := X'.leaveThrown x (g := F0 m pc ls rest) rfl rfl rfl (fun y hy => by rw [hemp] at hy; cases hy) hlocks
  refine ⟨_, st.trans w1, .threw x, w2, w3, kk x st₀ t h1 hq _ e1 e2 w4, x, locs ++ L, rfl, w4, w5, fun q hq => ?_⟩
  rcases List.mem_append.mp hq with h | h
  · exact hf q h
  · exact hf1 _ (hL q h)
end

/-- a walk that stands at T may be seen as one that has just begun, over the heap as it is now -/
theorem stand_rebase {p : Program} {l : Launch} {e : Env} {R R2 : Room} {s : State} {m : MethodId} {args : Array Value} {below : List Frame} {meth : Method} {c : Code} {T : State} {locs : List Loc} {cells slots : Nat}
    (X : Stand p l e R s m args below meth c T locs cells slots) (h1 : R2.frames ≤ R.frames) (h2 : R2.locals ≤ R.locals) (h3 : cells + R2.cells ≤ R.cells) (h4 : slots + R2.slots ≤ R.slots) :
    Stand p l e R2 (T.setFrames (.invoking m args :: below)) m args below meth c T [] 0 0 := by
  obtain ⟨g₀, hfr⟩ := X.frames_eq
  have hcur : T.cur < T.threads.size := State.cur_lt_of_frames hfr
  have hF : (T.setFrames (.invoking m args :: below)).frames = .invoking m args :: below := State.frames_setFrames _ hcur
  obtain ⟨th, hth, -⟩ := State.frames_cons hfr
  obtain ⟨th2, hth2, -⟩ := State.frames_cons hF
  have hback : (T.setFrames (.invoking m args :: below)).setFrames T.frames = T := by rw [State.setFrames_setFrames]; exact State.setFrames_self hth
  have hlim : e.platform.stackLimits (T.setFrames (.invoking m args :: below)).me = e.platform.stackLimits s.me := by rw [State.stackLimits_setFrames]; exact X.limits
  have hby : (T.setFrames (.invoking m args :: below)).me.stackBytes = s.me.stackBytes := by rw [State.stackBytes_setFrames]; exact X.bytes
  refine ⟨X.admits, X.cas, X.clock, hF, ?_, ?_, X.method', X.code, X.here, X.tail, State.WarmedH.refl _, by rw [State.stackLimits_setFrames], by rw [State.stackBytes_setFrames], ?_⟩
  · have hr := X.room
    have hl1 : (T.setFrames (.invoking m args :: below)).localsInUse = s.localsInUse := by
      rw [State.localsInUse_invoking hF X.method' X.code, State.localsInUse_invoking X.frames X.method X.code]
    have hsz := X.heapSize
    have hus := X.used
    have hbk := X.book
    have hlen : (T.setFrames (.invoking m args :: below)).frames.length = s.frames.length := by rw [hF, X.frames]
    simp only [State.hasRoom, Bool.and_eq_true, decide_eq_true_eq] at hr ⊢
    rw [hl1, hlen, hlim, hby]
    refine ⟨⟨⟨⟨by omega, by omega, by omega, by omega, by omega, hr.1.1.1.2.2.2.2.2⟩, ?_⟩, ?_⟩, ?_⟩
    · show T.heap.size + R2.cells ≤ e.platform.maxCells
      have := hr.1.1.2
      omega
    · show T.slotsUsed + R2.slots ≤ e.platform.maxSlots
      have := hr.1.2
      omega
    · exact hbk
  · have hh := X.hears
    have hal := X.warmed.alike
    unfold State.hears at hh ⊢
    cases below with
    | nil => simpa [State.setFrames, hal.method?] using hh
    | cons f r =>
      cases f with
      | java g =>
        have hc2 : (T.setFrames (.invoking m args :: .java g :: r)).code? g.method = s.code? g.method := by
          rw [State.code?_eq, State.code?_eq]
          show (T.vm.method? g.method).bind _ = _
          rw [hal.method?]
        simpa [hc2] using hh
      | native g => rfl
      | proc g => rfl
      | _ => simpa [State.setFrames, hal.method?] using hh
  · have h := (State.sameButNew.refl (T.setFrames (.invoking m args :: below)) hth2).setFrames T.frames (State.cur_lt_of_frames hF)
    rw [hback] at h
    exact h

section
variable {p : Program} {l : Launch} {e : Env} {R R2 : Room} {s : State} {m : MethodId} {args : Array Value} {below : List Frame} {meth : Method} {c : Code} {H : Heap} {locs : List Loc} {cells slots : Nat} {Qt Qt2 : Array Value → State → Outcome → State → Prop} {cc : ByteArray} {mc ms : Nat} {free free1 : Addr → Prop} {own : String} {rest : List Value} {g : JFrame} {pc : Nat} {ls : Array Slot}
theorem W_rebase (h1 : R2.frames ≤ R.frames) (h2 : R2.locals ≤ R.locals) (h3 : cells + R2.cells ≤ R.cells) (h4 : slots + R2.slots ≤ R.slots)
    (k : ∀ s2 : State, s2.heap = H → s.WarmedH s2.vm → W p l e R2 s2 m args below meth c H [] 0 0 (MQT below Qt2 args s2 mc ms free1) g)
    (hQ : ∀ (s2 t : State) (x : Addr), s2.heap = H → s.WarmedH s2.vm → s2.WarmedH t.vm → Qt2 args s2 (.threw x) t → Qt args s (.threw x) t) (hf : ∀ q ∈ locs, free q.base) (hf1 : ∀ q, free1 q → free q) :
    W p l e R s m args below meth c H locs cells slots (MQT below Qt args s (cells + mc) (slots + ms) free) g := by
  intro T hT X
  have Y := stand_rebase X h1 h2 h3 h4
  obtain ⟨t, st, o, b1, b2, b3, x, L, rfl, w1, w2, hL⟩ := k (T.setFrames (.invoking m args :: below)) hT X.warmed T hT Y
  have w1' : T.WarmedH t.vm := w1
  have w3 : T.sameButNew ({ t with vm := T.vm } : State) L mc ms := by
    obtain ⟨e2, q2, q3, q4, q5, q6⟩ := w2
    refine ⟨?_, q2, q3, q4, q5, q6⟩
    rw [State.setFrames_setFrames] at e2
    exact e2
  refine ⟨t, st, .threw x, b1, b2, hQ (T.setFrames (.invoking m args :: below)) t x hT X.warmed w1 b3, x, locs ++ L, rfl, State.WarmedH.trans X.warmed w1', X.same.trans (w3.setVm s.vm), fun q hq => ?_⟩
  rcases List.mem_append.mp hq with h | h
  · exact hf q h
  · exact hf1 _ (hL q h)
/-- new X, dup, ldc, X.<init>(String), athrow: from a walk that has just begun -/
theorem th_source {X tx : String} {names : List String} {ic ik ix sq : Nat} (hexec : p.tables.exec = Jvm.exec) (hb : c.code = cc) (hown : s.vm.findClass own = some m.cls) (htr : e.platform.stackTraces = false)
    (hcl : (Cond.classLink own ik X).before args s = true) (hins : (Cond.instantiable X 6).before args s = true) (hini : (Cond.initialized X).before args s = true) (hZ : vk_R own ix tx sq s)
    (hat : ∀ a ∈ Bundle.ownAtoms own ic X names, a.before args s = true) (hcls : Bundle.fit X = true) (hnames : ∀ n ∈ names, Bundle.fit n = true) (hno : c.exceptionTable.isEmpty = true) (hlocks : meth.locks = false) (hls : ls.size = c.maxLocals)
    (d0 : decode cc pc = .ok (.new ik, 3)) (d3 : decode cc (pc + 3) = .ok (.dup, 1)) (d4 : decode cc (pc + 4) = .ok (.ldc ix, 2)) (d6 : decode cc (pc + 6) = .ok (.invokespecial ic, 3)) (d9 : decode cc (pc + 9) = .ok (.athrow, 1))
    (hc1 : 1 ≤ R.cells) (hs1 : 6 ≤ R.slots) (hf1 : names.length + 3 < R.frames) (hl1 : 1 + (rest.map fun v => v.category).sum + (13 * (names.length + 1) + 42) ≤ R.locals)
    (kk : ∀ (a : Addr) (U : State) (ce : Cell), s.heap.size ≤ a → U.heap[a]? = some ce → s.heap.size ≤ U.heap.size → s.WarmedH U.vm → (∀ q : Nat, q < s.heap.size → U.heap[q]? = s.heap[q]?) → s.vm.findClass X = some ce.cls → ce.vm = .none → Qt args s (.threw a) U) :
    W p l e R s m args below meth c s.heap [] 0 0 (MQT below Qt args s 1 6 free) (F0 m pc ls rest) := by
  refine W.newc hexec hb hown hcl hins hini rfl d0 (by omega) (by omega) (fun cC kC hfC hkC hord hn6 => ?_)
  refine W.eq (g2 := F0 m (pc + 3) ls (.ref s.heap.size :: rest)) rfl ?_
  refine lv_dup hexec hb d3 rfl ?_
  refine va_ldcS hexec hb hown hZ d4 ?_
  intro T hT X
  subst hb
  have hemp : c.exceptionTable = #[] := by simpa using hno
  obtain ⟨U, st, hrun, hend, hW, hsame, ce, hce, hoc⟩ := X.ctorThrowS hexec htr hown hcls hnames hat (fun x hx => absurd hx List.not_mem_nil) (a := s.heap.size) (cX := cC) (kX := kC) hfC hkC (by rw [hT]; simp [freshCell]) (Nat.le_refl _) (msg := .ref sq) rfl
    (g := F0 m (pc + 6) ls (.ref sq :: .ref s.heap.size :: .ref s.heap.size :: rest)) rfl hls rfl rfl rfl d6 d9 (fun y hy => by rw [hemp] at hy; cases hy) hf1 (by simpa [Value.category, Nat.add_assoc] using hl1) hlocks
  have hsz : s.heap.size ≤ U.heap.size := hsame.2.1
  refine ⟨U, st, .threw s.heap.size, hrun, hend, kk _ U ce (Nat.le_refl _) hce hsz hW (fun q hq => ?_) hoc.cls hoc.vm, s.heap.size, [], rfl, hW, by simpa using hsame, fun q hq => absurd hq List.not_mem_nil⟩
  have hold := hsame.old_cell (a := q) (c := s.heap[q]) (by simp [hq])
  have h2 : U.heap[q]? = some s.heap[q] := hold
  rw [h2]; simp [hq]
end

