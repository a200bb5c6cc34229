section
variable {p : Program} {l : Launch} {e : Env} {R R2 : Room} {s : State} {m : MethodId} {args : Array Value} {below : List Frame} {meth : Method} {c : Code} {H : Heap} {locs : List Loc} {cells slots : Nat} {Qt Qt2 : Array Value → State → Outcome → State → Prop} {cc : ByteArray} {mc ms : Nat} {free free1 : Addr → Prop} {own : String} {rest : List Value} {g : JFrame} {pc : Nat} {ls : Array Slot}
theorem W_rebase (h1 : R2.frames ≤ R.frames) (h2 : R2.locals ≤ R.locals) (h3 : cells + R2.cells ≤ R.cells) (h4 : slots + R2.slots ≤ R.slots)
    (k : ∀ s2 : State, s2.heap = H → s.WarmedH s2.vm → W p l e R2 s2 m args below meth c H [] 0 0 (MQT below Qt2 args s2 mc ms free1) g)
    (hQ : ∀ (s2 t : State) (x : Addr), s2.heap = H → s.WarmedH s2.vm → s2.WarmedH t.vm → Qt2 args s2 (.threw x) t → Qt args s (.threw x) t) (hf : ∀ q ∈ locs, free q.base) (hf1 : ∀ q, free1 q → free q) :
    W p l e R s m args below meth c H locs cells slots (MQT below Qt args s (cells + mc) (slots + ms) free) g := by
  intro T hT X
  have Y := stand_rebase X h1 h2 h3 h4
  obtain ⟨t, st, o, b1, b2, b3, x, L, rfl, w1, w2, hL⟩ := k (T.setFrames (.invoking m args :: below)) hT X.warmed T hT Y
  have w1' : T.WarmedH t.vm := w1
  have w3 : T.sameButNew ({ t with vm := T.vm } : State) L mc ms := by
    obtain ⟨e2, q2, q3, q4, q5, q6⟩ := w2
    refine ⟨?_, q2, q3, q4, q5, q6⟩
    rw [State.setFrames_setFrames] at e2
    exact e2
  refine ⟨t, st, .threw x, b1, b2, hQ (T.setFrames (.invoking m args :: below)) t x hT X.warmed w1 b3, x, locs ++ L, rfl, State.WarmedH.trans X.warmed w1', X.same.trans (w3.setVm s.vm), fun q hq => ?_⟩
  rcases List.mem_append.mp hq with h | h
  · exact hf q h
  · exact hf1 _ (hL q h)
/-- new X, dup, ldc, X.<init>(String), athrow: from a walk that has just begun -/
theorem th_source {X tx : String} {names : List String} {ic ik ix sq : Nat} (hexec : p.tables.exec = Jvm.exec) (hb : c.code = cc) (hown : s.vm.findClass own = some m.cls) (htr : e.platform.stackTraces = false)
    (hcl : (Cond.classLink own ik X).before args s = true) (hins : (Cond.instantiable X 6).before args s = true) (hini : (Cond.initialized X).before args s = true) (hZ : vk_R own ix tx sq s)
    (hat : ∀ a ∈ Bundle.ownAtoms own ic X names, a.before args s = true) (hcls : Bundle.fit X = true) (hnames : ∀ n ∈ names, Bundle.fit n = true) (hno : c.exceptionTable.isEmpty = true) (hlocks : meth.locks = false) (hls : ls.size = c.maxLocals)
    (d0 : decode cc pc = .ok (.new ik, 3)) (d3 : decode cc (pc + 3) = .ok (.dup, 1)) (d4 : decode cc (pc + 4) = .ok (.ldc ix, 2)) (d6 : decode cc (pc + 6) = .ok (.invokespecial ic, 3)) (d9 : decode cc (pc + 9) = .ok (.athrow, 1))
    (hc1 : 1 ≤ R.cells) (hs1 : 6 ≤ R.slots) (hf1 : names.length + 3 < R.frames) (hl1 : 1 + (rest.map fun v => v.category).sum + (13 * (names.length + 1) + 42) ≤ R.locals)
    (kk : ∀ (a : Addr) (U : State) (ce : Cell), s.heap.size ≤ a → U.heap[a]? = some ce → s.heap.size ≤ U.heap.size → s.WarmedH U.vm → (∀ q : Nat, q < s.heap.size → U.heap[q]? = s.heap[q]?) → s.vm.findClass X = some ce.cls → ce.vm = .none → Qt args s (.threw a) U) :
    W p l e R s m args below meth c s.heap [] 0 0 (MQT below Qt args s 1 6 free) (F0 m pc ls rest) := by
  refine W.newc hexec hb hown hcl hins hini rfl d0 (by omega) (by omega) (fun cC kC hfC hkC hord hn6 => ?_)
  refine W.eq (g2 := F0 m (pc + 3) ls (.ref s.heap.size :: rest)) rfl ?_
  refine lv_dup hexec hb d3 rfl ?_
  refine va_ldcS hexec hb hown hZ d4 ?_
  intro T hT X
  subst hb
  have hemp : c.exceptionTable = #[] := by simpa using hno
  obtain ⟨U, st, hrun, hend, hW, hsame, ce, hce, hoc⟩ := X.ctorThrowS hexec htr hown hcls hnames hat (fun x hx => absurd hx List.not_mem_nil) (a := s.heap.size) (cX := cC) (kX := kC) hfC hkC (by rw [hT]; simp [freshCell]) (Nat.le_refl _) (msg := .ref sq) rfl
    (g := F0 m (pc + 6) ls (.ref sq :: .ref s.heap.size :: .ref s.heap.size :: rest)) rfl hls rfl rfl rfl d6 d9 (fun y hy => by rw [hemp] at hy; cases hy) hf1 (by simpa [Value.category, Nat.add_assoc] using hl1) hlocks
  have hsz : s.heap.size ≤ U.heap.size := hsame.2.1
  refine ⟨U, st, .threw s.heap.size, hrun, hend, kk _ U ce (Nat.le_refl _) hce hsz hW (fun q hq => ?_) hoc.cls hoc.vm, s.heap.size, [], rfl, hW, by simpa using hsame, fun q hq => absurd hq List.not_mem_nil⟩
  have hold := hsame.old_cell (a := q) (c := s.heap[q]) (by simp [hq])
  have h2 : U.heap[q]? = some s.heap[q] := hold
  rw [h2]; simp [hq]
end
