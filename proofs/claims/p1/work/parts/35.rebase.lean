/-- a walk that stands at T may be seen as one that has just begun, over the heap as it is now -/
theorem stand_rebase {p : Program} {l : Launch} {e : Env} {R R2 : Room} {s : State} {m : MethodId} {args : Array Value} {below : List Frame} {meth : Method} {c : Code} {T : State} {locs : List Loc} {cells slots : Nat}
    (X : Stand p l e R s m args below meth c T locs cells slots) (h1 : R2.frames ≤ R.frames) (h2 : R2.locals ≤ R.locals) (h3 : cells + R2.cells ≤ R.cells) (h4 : slots + R2.slots ≤ R.slots) :
    Stand p l e R2 (T.setFrames (.invoking m args :: below)) m args below meth c T [] 0 0 := by
  obtain ⟨g₀, hfr⟩ := X.frames_eq
  have hcur : T.cur < T.threads.size := State.cur_lt_of_frames hfr
  have hF : (T.setFrames (.invoking m args :: below)).frames = .invoking m args :: below := State.frames_setFrames _ hcur
  obtain ⟨th, hth, -⟩ := State.frames_cons hfr
  obtain ⟨th2, hth2, -⟩ := State.frames_cons hF
  have hback : (T.setFrames (.invoking m args :: below)).setFrames T.frames = T := by rw [State.setFrames_setFrames]; exact State.setFrames_self hth
  have hlim : e.platform.stackLimits (T.setFrames (.invoking m args :: below)).me = e.platform.stackLimits s.me := by rw [State.stackLimits_setFrames]; exact X.limits
  have hby : (T.setFrames (.invoking m args :: below)).me.stackBytes = s.me.stackBytes := by rw [State.stackBytes_setFrames]; exact X.bytes
  refine ⟨X.admits, X.cas, X.clock, hF, ?_, ?_, X.method', X.code, X.here, X.tail, State.WarmedH.refl _, by rw [State.stackLimits_setFrames], by rw [State.stackBytes_setFrames], ?_⟩
  · have hr := X.room
    have hl1 : (T.setFrames (.invoking m args :: below)).localsInUse = s.localsInUse := by
      rw [State.localsInUse_invoking hF X.method' X.code, State.localsInUse_invoking X.frames X.method X.code]
    have hsz := X.heapSize
    have hus := X.used
    have hbk := X.book
    have hlen : (T.setFrames (.invoking m args :: below)).frames.length = s.frames.length := by rw [hF, X.frames]
    simp only [State.hasRoom, Bool.and_eq_true, decide_eq_true_eq] at hr ⊢
    rw [hl1, hlen, hlim, hby]
    refine ⟨⟨⟨⟨by omega, by omega, by omega, by omega, by omega, hr.1.1.1.2.2.2.2.2⟩, ?_⟩, ?_⟩, ?_⟩
    · show T.heap.size + R2.cells ≤ e.platform.maxCells
      have := hr.1.1.2
      omega
    · show T.slotsUsed + R2.slots ≤ e.platform.maxSlots
      have := hr.1.2
      omega
    · exact hbk
  · have hh := X.hears
    have hal := X.warmed.alike
    unfold State.hears at hh ⊢
    cases below with
    | nil => simpa [State.setFrames, hal.method?] using hh
    | cons f r =>
      cases f with
      | java g =>
        have hc2 : (T.setFrames (.invoking m args :: .java g :: r)).code? g.method = s.code? g.method := by
          rw [State.code?_eq, State.code?_eq]
          show (T.vm.method? g.method).bind _ = _
          rw [hal.method?]
        simpa [hc2] using hh
      | native g => rfl
      | proc g => rfl
      | _ => simpa [State.setFrames, hal.method?] using hh
  · have h := (State.sameButNew.refl (T.setFrames (.invoking m args :: below)) hth2).setFrames T.frames (State.cur_lt_of_frames hF)
    rw [hback] at h
    exact h
