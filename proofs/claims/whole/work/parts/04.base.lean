/-! THE BASE: states of a side as numbers and rows, the small words of the functions, contracts over a whole world, and their calls. -/
/-- a side's state: ints, longs, lengths of rows, rows -/
abbrev St : Type := (Nat → Int32) × (Nat → Int64) × (Nat → Nat) × (Nat → Nat → Int32)
abbrev gi (S : St) (k : Nat) : Int32 := S.1 k
abbrev gl (S : St) (k : Nat) : Int64 := S.2.1 k
abbrev gn (S : St) (k : Nat) : Nat := S.2.2.1 k
abbrev ga (S : St) (k : Nat) : Nat → Int32 := S.2.2.2 k
def up1 {α : Type} (f : Nat → α) (k : Nat) (v : α) : Nat → α := fun j => cond (Nat.beq j k) v (f j)
def seti (S : St) (k : Nat) (v : Int32) : St := (up1 S.1 k v, S.2.1, S.2.2.1, S.2.2.2)
def setl (S : St) (k : Nat) (v : Int64) : St := (S.1, up1 S.2.1 k v, S.2.2.1, S.2.2.2)
def seta (S : St) (k : Nat) (f : Nat → Int32) : St := (S.1, S.2.1, S.2.2.1, up1 S.2.2.2 k f)
/-- a new row of n zeros -/
def newa (S : St) (k : Nat) (n : Nat) : St := (S.1, S.2.1, up1 S.2.2.1 k n, up1 S.2.2.2 k (fun _ => 0))
def bn {α β : Type} (x : α) (f : α → β) : β := f x
theorem bn_some {α β : Type} {x : α} {f : α → β} {y : β} (h : bn x f = y) : ∃ z, z = x ∧ f z = y := ⟨x, rfl, h⟩
def bd {α β : Type} (x : Option α) (f : α → Option β) : Option β := match x with
  | none => none
  | some a => f a
theorem bd_some {α β : Type} {x : Option α} {f : α → Option β} {y : β} (h : bd x f = some y) : ∃ z, x = some z ∧ f z = some y := by
  cases x with
  | none => cases h
  | some a => exact ⟨a, rfl, h⟩
def as_ {β : Type} (b : Bool) (r : Option β) : Option β := if b = true then r else none
theorem as_some {β : Type} {b : Bool} {r : Option β} {y : β} (h : as_ b r = some y) : b = true ∧ r = some y := by
  cases b with
  | false => cases h
  | true => exact ⟨rfl, h⟩
def inb (i : Int32) (n : Nat) : Bool := decide (0 ≤ i.toInt ∧ i.toInt < n)
theorem inb_in {i : Int32} {n : Nat} (h : inb i n = true) : vp_in i n := vp_in_iff.mpr (of_decide_eq_true h)
theorem nz_of {y : Int32} (h : (!decide (y = 0)) = true) : ¬ y = 0 := by simpa using h
def isb (v : Int32) : Bool := decide (v = 0) || decide (v = 1)
theorem nb_of {v : Int32} (h : isb v = true) : narrow .boolean (.int v) = .int v := by
  simp only [isb, Bool.or_eq_true, decide_eq_true_eq] at h
  rcases h with rfl | rfl <;> rfl
def FU : Nat := 8589934592
def alen (e : Int32) (B : Nat) : Bool := decide (0 ≤ e.toInt ∧ e.toInt ≤ B)
theorem alen_nn {e : Int32} {B : Nat} (h : alen e B = true) : ¬ e < 0 := by
  have := of_decide_eq_true h
  rw [Int32.lt_iff_toInt_lt]
  show ¬ e.toInt < 0
  omega
theorem alen_le {e : Int32} {B : Nat} (h : alen e B = true) : e.toNatClampNeg ≤ B := by
  have := of_decide_eq_true h
  show e.toInt.toNat ≤ B
  omega
theorem alen_by {e : Int32} {B : Nat} (h : alen e B = true) (hB : B ≤ 100000) : e.toNatClampNeg * componentBytes .int ≤ 536870912 := by
  have := alen_le h
  show e.toNatClampNeg * 4 ≤ 536870912
  omega
abbrev TY (cA cP : ClassId) : List (ClassId × FieldType) := [(cA, .int), (cP, .array .int)]
theorem kA_eq {D : va_G} {cl : List vw_C} {cA cP cB : ClassId} {s : State} (h : va_K D cl (TY cA cP ++ [(cB, .int)]) s) : cB = cA := by
  have h0 := (h.2 0 (cA, .int) rfl).2
  have h1 := (h.2 2 (cB, .int) rfl).2
  exact Option.some.inj (h1.symm.trans h0)
/-! STATICS: what a static holds stays, for its cell is no cell of the worlds -/
theorem zs_off {s : State} {H : Heap} {D : va_G} {cl : List vw_C} {tys : List (ClassId × FieldType)} {w0 : va_W} {a : Nat} {cell : Cell} (hK : va_K D cl tys s) (hP : va_P D cl w0 H) (hc : H[a]? = some cell) (hs : cell.vm.isStatics = true) : ∀ (k : Nat) (e : va_E), w0[k]? ≠ some (a, e) := by
  intro k e he
  cases e with
  | inl x =>
    have h : H[a]? = some (vp_cell x.1 x.2) := hP k (a, .inl x) he
    rw [hc] at h
    cases Option.some.inj h
    obtain ⟨cA, n, y⟩ := x
    rcases y with f | f | f | f | f <;> cases hs
  | inr o =>
    obtain ⟨r, h1, h2⟩ := hP k (a, .inr o) he
    obtain ⟨cell2, q1, q2, q3⟩ := va_recv hK hP h1 (show w0[k]? = some (a, .inr (o.1, o.2)) from he)
    rw [hc] at q1
    cases Option.some.inj q1
    rw [hs] at q2
    cases q2
/-- a static field of a reference: where it lies, outside A -/
def ZL (C n d : String) (A : Nat → Prop) (U : State) (H : Heap) : Prop := ∃ (cf : ClassId) (k : Class) (i : Nat) (f : Field) (a : Nat) (cell : Cell) (v : Value), U.vm.findClass C = some cf ∧ U.fieldFound? C n d = some (cf, k, i, f) ∧ f.isStatic = true ∧ k.statics = some a ∧ cell.vm.isStatics = true ∧ cell.cls = cf ∧ f.slot < cell.slots.size ∧ k.staticTypes[f.slot]? = some f.type ∧ cell.slots[f.slot]? = some v ∧ (v = .null ∨ ∃ t : Nat, v = .ref t) ∧ H[a]? = some cell ∧ ¬ A a
theorem ZL.moved {C n d : String} {A : Nat → Prop} {u U : State} {H : Heap} (hvm : u.vm.Alike U.vm) (h : ZL C n d A u H) : ZL C n d A U H := by
  obtain ⟨cf, k, i, f, a, cell, v, h0, h1, h2, h3, h4, h5, h6, h7, h8⟩ := h
  obtain ⟨k', hi', he⟩ := State.fieldFound?_setVm hvm h1
  exact ⟨cf, k', i, f, a, cell, v, by rw [hvm.findClass]; exact h0, hi', h2, by rw [he]; exact h3, h4, h5, h6, by rw [he]; exact h7, h8⟩
theorem ZL.kept {C n d : String} {A : Nat → Prop} {U : State} {H H1 : Heap} (h : ZL C n d A U H) (hq : ∀ a : Nat, a < H.size → ¬ A a → H1[a]? = H[a]?) : ZL C n d A U H1 := by
  obtain ⟨cf, k, i, f, a, cell, v, h0, h1, h2, h3, h4, h5, h6, h7, h8, h9, h10, h11⟩ := h
  exact ⟨cf, k, i, f, a, cell, v, h0, h1, h2, h3, h4, h5, h6, h7, h8, h9, by rw [hq a (Array.getElem?_eq_some_iff.mp h10).1 h11]; exact h10, h11⟩
theorem ZL.narrow {C n d : String} {A B : Nat → Prop} {U : State} {H : Heap} (h : ZL C n d A U H) (hAB : ∀ q, B q → A q) : ZL C n d B U H := by
  obtain ⟨cf, k, i, f, a, cell, v, h0, h1, h2, h3, h4, h5, h6, h7, h8, h9, h10, h11⟩ := h
  exact ⟨cf, k, i, f, a, cell, v, h0, h1, h2, h3, h4, h5, h6, h7, h8, h9, h10, fun z => h11 (hAB a z)⟩
theorem zl_in {s : State} {D : va_G} {cl : List vw_C} {tys : List (ClassId × FieldType)} {w0 : va_W} {C n d : String} (hK : va_K D cl tys s) (hP : va_P D cl w0 s.heap) (h : ZL C n d (fun _ => False) s s.heap) : ZL C n d (va_A w0 s.heap.size) s s.heap := by
  obtain ⟨cf, k, i, f, a, cell, v, h0, h1, h2, h3, h4, h5, h6, h7, h8, h9, h10, -⟩ := h
  refine ⟨cf, k, i, f, a, cell, v, h0, h1, h2, h3, h4, h5, h6, h7, h8, h9, h10, fun hA => ?_⟩
  rcases hA with ⟨j, e, he⟩ | hsz
  · exact zs_off hK hP h10 h4 j e he
  · exact absurd (Array.getElem?_eq_some_iff.mp h10).1 (Nat.not_lt.mpr hsz)
theorem ZL.isRef {U : State} {C n d : String} {A : Nat → Prop} {B : Array Value} (h : ZL C n d A U U.heap) : (Cond.isRef (.static C n d)).before B U = true := by
  obtain ⟨cf, k, i, f, a, cell, v, h0, h1, h2, h3, h4, h5, h6, h7, h8, h9, h10, -⟩ := h
  have he : (Term.static C n d).eval B U none [] U = some v := by simp [Term.eval, State.fieldNamed?, h1, h2, h3, h4, h8, h10]
  rcases h9 with rfl | ⟨t, rfl⟩
  · simp [Cond.before, Cond.holds, Cond.value, he]
  · simp [Cond.before, Cond.holds, Cond.value, he]
theorem ZL.lays {U : State} {C n d : String} {A : Nat → Prop} {B : Array Value} (h : ZL C n d A U U.heap) : (Cond.laysStatic C n d).before B U = true := by
  obtain ⟨cf, k, i, f, a, cell, v, h0, h1, h2, h3, h4, h5, h6, h7, h8, h9, h10, -⟩ := h
  exact Cond.laysStatic_of h0 h1 h2 h3 h10 h4 h5 h6 h7
/-- out of the two words -/
theorem ZL.of {U : State} {C n d : String} {B : Array Value} (hl : (Cond.laysStatic C n d).before B U = true) (hr : (Cond.isRef (.static C n d)).before B U = true) : ZL C n d (fun _ => False) U U.heap := by
  obtain ⟨cf, k, i, f, a, cell, h0, h1, h2, h3, h10, h4, h5, h6, h7⟩ := Cond.laysStatic_spec hl
  have he : ∃ v, cell.slots[f.slot]? = some v := ⟨_, Array.getElem?_eq_getElem h6⟩
  obtain ⟨v, h8⟩ := he
  have he : (Term.static C n d).eval B U none [] U = some v := by simp [Term.eval, State.fieldNamed?, h1, h2, h3, h4, h8, h10]
  refine ⟨cf, k, i, f, a, cell, v, h0, h1, h2, h3, h4, h5, h6, h7, h8, ?_, h10, fun z => z⟩
  simp only [Cond.before, Cond.holds, Cond.value, he] at hr
  cases v with
  | null => exact Or.inl rfl
  | ref t => exact Or.inr ⟨t, rfl⟩
  | _ => simp at hr
/-- two statics of Throwable hold references -/
def ZQ (A : Nat → Prop) (U : State) (H : Heap) : Prop := ZL "java/lang/Throwable" "UNASSIGNED_STACK" "[Ljava/lang/StackTraceElement;" A U H ∧ ZL "java/lang/Throwable" "SUPPRESSED_SENTINEL" "Ljava/util/List;" A U H
/-- what holds all through a method's walk -/
def CX (p : Program) (s : State) (m : MethodId) (args : Array Value) (c : Code) (cc : ByteArray) (nL : Nat) (own : String) (Ts : List Cond) (D : va_G) (cl : List vw_C) (cA cP : ClassId) (A : Nat → Prop) : Prop :=
  p.tables.exec = Jvm.exec ∧ c.code = cc ∧ c.maxLocals = nL ∧ s.vm.findClass own = some m.cls ∧ (∀ w ∈ Ts, w.before args s = true) ∧ va_K D cl (TY cA cP) s ∧ (∀ q : Nat, s.heap.size ≤ q → A q) ∧ NW s ∧ ZQ A s s.heap
section
variable {p : Program} {l : Launch} {e : Env} {R : Room} {s : State} {m : MethodId} {args : Array Value} {below : List Frame} {meth : Method} {c : Code} {H : Heap} {locs : List Loc} {cells slots : Nat} {Q : State → Prop} {pc : Nat} {ls : Array Slot} {rest : List Value}
theorem tpi {x y : Int32} (h : y = x) (k : W p l e R s m args below meth c H locs cells slots Q (F0 m pc ls (.int y :: rest))) : W p l e R s m args below meth c H locs cells slots Q (F0 m pc ls (.int x :: rest)) := h ▸ k
theorem tpl {x y : Int64} (h : y = x) (k : W p l e R s m args below meth c H locs cells slots Q (F0 m pc ls (.long y :: rest))) : W p l e R s m args below meth c H locs cells slots Q (F0 m pc ls (.long x :: rest)) := h ▸ k
end
def RTv (p : Program) (l : Launch) (e : Env) (R : Room) (s : State) (m : MethodId) (args : Array Value) (below : List Frame) (meth : Method) (c : Code) (Q : State → Prop) (D : va_G) (cl : List vw_C) (A : Nat → Prop) (cc : ByteArray) (mc ms : Nat) (Post : va_W → Prop) : Prop :=
  ∀ (H : Heap) (locs : List Loc) (pc : Nat) (ls : Array Slot) (w : va_W), Post w → va_P D cl w H → va_D A w → va_S A s.heap H locs → decode cc pc = .ok (.return_, 1) → W p l e R s m args below meth c H locs mc ms Q (F0 m pc ls [])
def RTi (p : Program) (l : Launch) (e : Env) (R : Room) (s : State) (m : MethodId) (args : Array Value) (below : List Frame) (meth : Method) (c : Code) (Q : State → Prop) (D : va_G) (cl : List vw_C) (A : Nat → Prop) (cc : ByteArray) (mc ms : Nat) (Post : Int32 → va_W → Prop) : Prop :=
  ∀ (H : Heap) (locs : List Loc) (pc : Nat) (ls : Array Slot) (r : Int32) (w : va_W), Post r w → va_P D cl w H → va_D A w → va_S A s.heap H locs → decode cc pc = .ok (.ireturn, 1) → W p l e R s m args below meth c H locs mc ms Q (F0 m pc ls [.int r])
def RTz (p : Program) (l : Launch) (e : Env) (R : Room) (s : State) (m : MethodId) (args : Array Value) (below : List Frame) (meth : Method) (c : Code) (Q : State → Prop) (D : va_G) (cl : List vw_C) (A : Nat → Prop) (cc : ByteArray) (mc ms : Nat) (Post : Int32 → va_W → Prop) : Prop :=
  ∀ (H : Heap) (locs : List Loc) (pc : Nat) (ls : Array Slot) (r : Int32) (w : va_W), Post r w → narrow .boolean (.int r) = .int r → va_P D cl w H → va_D A w → va_S A s.heap H locs → decode cc pc = .ok (.ireturn, 1) → W p l e R s m args below meth c H locs mc ms Q (F0 m pc ls [.int r])
def RTl (p : Program) (l : Launch) (e : Env) (R : Room) (s : State) (m : MethodId) (args : Array Value) (below : List Frame) (meth : Method) (c : Code) (Q : State → Prop) (D : va_G) (cl : List vw_C) (A : Nat → Prop) (cc : ByteArray) (mc ms : Nat) (Post : Int64 → va_W → Prop) : Prop :=
  ∀ (H : Heap) (locs : List Loc) (pc : Nat) (ls : Array Slot) (r : Int64) (w : va_W), Post r w → va_P D cl w H → va_D A w → va_S A s.heap H locs → decode cc pc = .ok (.lreturn, 1) → W p l e R s m args below meth c H locs mc ms Q (F0 m pc ls [.long r])
/-- the world before a method, and behind it -/
def WP (D : va_G) (cl : List vw_C) (tys : List (ClassId × FieldType)) (w0 : va_W) (sz : Nat) (U : State) : Prop := U.heap.size = sz ∧ va_P D cl w0 U.heap ∧ va_K D cl tys U ∧ va_D (fun _ => True) w0 ∧ NW U ∧ ZQ (fun _ => False) U U.heap
def WQ (D : va_G) (cl : List vw_C) (tys : List (ClassId × FieldType)) (w0 : va_W) (sz : Nat) (w : va_W) (t : State) : Prop := va_P D cl w t.heap ∧ va_K D cl tys t ∧ va_D (va_A w0 sz) w
def CTv (l : Launch) (y : MethodName) (ws : List Cond) (rm : Room) (mc ms : Nat) (D : va_G) (cl : List vw_C) (tys : List (ClassId × FieldType)) (as : List Value) (w0 : va_W) (Post : va_W → Prop) : Prop :=
  ∀ sz : Nat, Met l y ws rm (va_Pc as (WP D cl tys w0 sz)) (va_Qv Post (WQ D cl tys w0 sz) (va_A w0 sz)) mc ms (va_A w0 sz)
def CTi (l : Launch) (y : MethodName) (ws : List Cond) (rm : Room) (mc ms : Nat) (D : va_G) (cl : List vw_C) (tys : List (ClassId × FieldType)) (as : List Value) (w0 : va_W) (Post : Int32 → va_W → Prop) : Prop :=
  ∀ sz : Nat, Met l y ws rm (va_Pc as (WP D cl tys w0 sz)) (va_Qi Post (WQ D cl tys w0 sz) (va_A w0 sz)) mc ms (va_A w0 sz)
def CTl (l : Launch) (y : MethodName) (ws : List Cond) (rm : Room) (mc ms : Nat) (D : va_G) (cl : List vw_C) (tys : List (ClassId × FieldType)) (as : List Value) (w0 : va_W) (Post : Int64 → va_W → Prop) : Prop :=
  ∀ sz : Nat, Met l y ws rm (va_Pc as (WP D cl tys w0 sz)) (va_Ql Post (WQ D cl tys w0 sz) (va_A w0 sz)) mc ms (va_A w0 sz)
theorem WP.blind {D : va_G} {cl : List vw_C} {tys : List (ClassId × FieldType)} {w0 : va_W} {sz : Nat} {as : List Value} : FrameBlind (va_Pc as (WP D cl tys w0 sz)) := fun a U g mk q => by
  obtain ⟨q0, q1, qP, qK, qD, qN, qZ⟩ := q
  exact ⟨q0, q1, qP, va_K.moved (u := U) (U := U.calling g mk a) (Vm.Alike.refl U.vm) qK, qD, NW.same (s := U) (U := U.calling g mk a) rfl qN, ZL.moved (u := U) (U := U.calling g mk a) (Vm.Alike.refl U.vm) qZ.1, ZL.moved (u := U) (U := U.calling g mk a) (Vm.Alike.refl U.vm) qZ.2⟩
theorem ZQ.at {A : Nat → Prop} {s U : State} {H : Heap} {locs : List Loc} (hZ : ZQ A s s.heap) (hS : va_S A s.heap H locs) (hU : U.heap = H) (hW : s.WarmedH U.vm) : ZQ (fun _ => False) U U.heap := by
  rw [hU]
  exact ⟨((hZ.1.kept hS.2.1).narrow (fun _ h => h.elim)).moved hW.alike, ((hZ.2.kept hS.2.1).narrow (fun _ h => h.elim)).moved hW.alike⟩
theorem range_all {α : Type} (w : List α) : (List.range w.length).map (fun i => w[i]?) = w.map some := by
  apply List.ext_getElem?
  intro i
  simp only [List.getElem?_map]
  by_cases h : i < w.length
  · simp [h]
  · simp [h]
section
variable {p : Program} {l : Launch} {e : Env} {R : Room} {s : State} {m : MethodId} {args : Array Value} {below : List Frame} {meth : Method} {c : Code} {H : Heap} {locs : List Loc} {cells slots : Nat} {Q : State → Prop} {pc : Nat} {ls : Array Slot} {rest st0 : List Value} {D : va_G} {cl : List vw_C} {tys : List (ClassId × FieldType)} {A : Nat → Prop} {w0 : va_W} {a : Array Value} {mc ms : Nat}
theorem kpS {as : List Value} (hK : va_K D cl tys s) (hP : va_P D cl w0 H) (hD : va_D A w0) (hN : NW s) (hZ : ZQ A s s.heap) (hS : va_S A s.heap H locs) : PreS s H (va_Pc as (WP D cl tys w0 H.size)) as :=
  ⟨WP.blind, fun _ hU hW => ⟨rfl, by rw [hU], by rw [hU]; exact hP, va_K.moved hW.alike hK, hD.weaken (fun _ _ _ _ => trivial), hN.warm hW, hZ.at hS hU hW⟩⟩
theorem kpV {b : Addr} {As : List Value} {q : vw_C} (hK : va_K D cl tys s) (hP : va_P D cl w0 H) (hD : va_D A w0) (hN : NW s) (hZ : ZQ A s s.heap) (hS : va_S A s.heap H locs) (ci q0 : Nat) {fs : List Value} (hc : cl[ci]? = some q) (he : w0[q0]? = some (b, .inr (ci, fs))) : PreV s H q.1 b (va_Pc (.ref b :: As) (WP D cl tys w0 H.size)) As :=
  ⟨WP.blind, va_recv hK hP hc he, fun _ hU hW => ⟨rfl, by rw [hU], by rw [hU]; exact hP, va_K.moved hW.alike hK, hD.weaken (fun _ _ _ _ => trivial), hN.warm hW, hZ.at hS hU hW⟩⟩
theorem kc_i {Post : Int32 → va_W → Prop} (hr : va_Run p l e R s m args below meth c H locs cells slots mc ms (F0 m pc ls st0) rest (va_Qi Post (WQ D cl tys w0 H.size) (va_A w0 H.size) a) (va_A w0 H.size)) (hP : va_P D cl w0 H) (hD : va_D A w0) (hS : va_S A s.heap H locs) (hA : ∀ q : Nat, s.heap.size ≤ q → A q)
    (kk : ∀ (r : Int32) (w : va_W) (H1 : Heap) (locs1 : List Loc), Post r w → va_P D cl w H1 → va_D A w → va_S A s.heap H1 locs1 → W p l e R s m args below meth c H1 locs1 (cells + mc) (slots + ms) Q (F0 m (pc + 3) ls (.int r :: rest))) : W p l e R s m args below meth c H locs cells slots Q (F0 m pc ls st0) := by
  have hFc := va_free (wc := w0) hD hS hA (List.range w0.length) (range_all w0)
  refine va_calli hr hS (fun q _ h => hFc q h) hFc (fun r u t H1 locs1 ht hvm hw hB hz hk hS1 => ?_)
  obtain ⟨hP1, hK1, hD1⟩ := hB
  rw [ht] at hP1
  obtain ⟨hP2, hD2⟩ := va_join (wr := []) hP hD (List.range w0.length) [] (range_all w0) rfl rfl (fun _ h => absurd h List.not_mem_nil) hk hFc hP1 hD1
  exact kk r u H1 locs1 hw hP2 hD2 hS1
theorem kc_l {Post : Int64 → va_W → Prop} (hr : va_Run p l e R s m args below meth c H locs cells slots mc ms (F0 m pc ls st0) rest (va_Ql Post (WQ D cl tys w0 H.size) (va_A w0 H.size) a) (va_A w0 H.size)) (hP : va_P D cl w0 H) (hD : va_D A w0) (hS : va_S A s.heap H locs) (hA : ∀ q : Nat, s.heap.size ≤ q → A q)
    (kk : ∀ (r : Int64) (w : va_W) (H1 : Heap) (locs1 : List Loc), Post r w → va_P D cl w H1 → va_D A w → va_S A s.heap H1 locs1 → W p l e R s m args below meth c H1 locs1 (cells + mc) (slots + ms) Q (F0 m (pc + 3) ls (.long r :: rest))) : W p l e R s m args below meth c H locs cells slots Q (F0 m pc ls st0) := by
  have hFc := va_free (wc := w0) hD hS hA (List.range w0.length) (range_all w0)
  refine va_calll hr hS (fun q _ h => hFc q h) hFc (fun r u t H1 locs1 ht hvm hw hB hz hk hS1 => ?_)
  obtain ⟨hP1, hK1, hD1⟩ := hB
  rw [ht] at hP1
  obtain ⟨hP2, hD2⟩ := va_join (wr := []) hP hD (List.range w0.length) [] (range_all w0) rfl rfl (fun _ h => absurd h List.not_mem_nil) hk hFc hP1 hD1
  exact kk r u H1 locs1 hw hP2 hD2 hS1
theorem kc_v {Post : va_W → Prop} (hr : va_Run p l e R s m args below meth c H locs cells slots mc ms (F0 m pc ls st0) rest (va_Qv Post (WQ D cl tys w0 H.size) (va_A w0 H.size) a) (va_A w0 H.size)) (hP : va_P D cl w0 H) (hD : va_D A w0) (hS : va_S A s.heap H locs) (hA : ∀ q : Nat, s.heap.size ≤ q → A q)
    (kk : ∀ (w : va_W) (H1 : Heap) (locs1 : List Loc), Post w → va_P D cl w H1 → va_D A w → va_S A s.heap H1 locs1 → W p l e R s m args below meth c H1 locs1 (cells + mc) (slots + ms) Q (F0 m (pc + 3) ls rest)) : W p l e R s m args below meth c H locs cells slots Q (F0 m pc ls st0) := by
  have hFc := va_free (wc := w0) hD hS hA (List.range w0.length) (range_all w0)
  refine va_callv hr hS (fun q _ h => hFc q h) hFc (fun u t H1 locs1 ht hvm hw hB hz hk hS1 => ?_)
  obtain ⟨hP1, hK1, hD1⟩ := hB
  rw [ht] at hP1
  obtain ⟨hP2, hD2⟩ := va_join (wr := []) hP hD (List.range w0.length) [] (range_all w0) rfl rfl (fun _ h => absurd h List.not_mem_nil) hk hFc hP1 hD1
  exact kk u H1 locs1 hw hP2 hD2 hS1
end
section
variable {l : Launch} {y : MethodName} {ws ws' : List Cond} {rm : Room} {D : va_G} {cl : List vw_C} {cA cP : ClassId} {as : List Value} {w0 : va_W} {cc : ByteArray} {maxL mc ms : Nat} {own : String}
theorem mk_v {Post : va_W → Prop} (hy : plainName y.cls = true) (hw : ws = Cond.code y cc maxL none :: ws') (hown : y.cls = own) (hlen : (lg_sl as).length ≤ maxL)
    (body : ∀ (p : Program) (e : Env) (s : State) (m : MethodId) (below : List Frame) (meth : Method) (c : Code) (A : Nat → Prop) (Q : State → Prop), CX p s m as.toArray c cc maxL own ws D cl cA cP A → RTv p l e rm s m as.toArray below meth c Q D cl A cc mc ms Post → ∀ ls : Array Slot, lv_has ls maxL (lv_args 0 as) → va_P D cl w0 s.heap → va_D A w0 → va_S A s.heap s.heap [] → W p l e rm s m as.toArray below meth c s.heap [] 0 0 Q (F0 m 0 ls [])) :
    CTv l y ws rm mc ms D cl (TY cA cP) as w0 Post := by
  intro sz
  refine Met.ofW (cc := cc) (maxL := maxL) (ret := none) hy hw ?_
  intro p e s m args below meth c s₁ B hml hv
  obtain ⟨rfl, hsz, hP, hK, hD0, hN, hZ0⟩ := hv
  subst hsz
  have hZ : ZQ (va_A w0 s.heap.size) s s.heap := ⟨zl_in hK hP hZ0.1, zl_in hK hP hZ0.2⟩
  have hlocks := B.notSynchronized
  have hD := hD0.self (sz := s.heap.size)
  have hown2 : s.vm.findClass own = some m.cls := by rw [← hown]; exact findClass_of_methodNamed B.named
  have hA : ∀ q : Nat, s.heap.size ≤ q → va_A w0 s.heap.size q := fun q h => Or.inr h
  rw [lg_entry_eq]
  refine body p e s m below meth c _ _ ⟨B.exec, B.bytes, hml, hown2, atoms_spec (ws := ws) B.pre, hK, hA, hN, hZ⟩ (fun H locs pc ls w hw hP hD hS hd => ?_) _ (lv_entry as hlen) hP hD va_S.rf
  exact W.vret B.exec B.bytes B.returns (fun t ht hW => ⟨⟨w, rfl, hw, by rw [ht]; exact hP, va_K.moved hW.alike hK, hD⟩, hS.F ht⟩) hS.2.2 hd
theorem mk_i {Post : Int32 → va_W → Prop} (hy : plainName y.cls = true) (hw : ws = Cond.code y cc maxL (some .int) :: ws') (hown : y.cls = own) (hlen : (lg_sl as).length ≤ maxL)
    (body : ∀ (p : Program) (e : Env) (s : State) (m : MethodId) (below : List Frame) (meth : Method) (c : Code) (A : Nat → Prop) (Q : State → Prop), CX p s m as.toArray c cc maxL own ws D cl cA cP A → RTi p l e rm s m as.toArray below meth c Q D cl A cc mc ms Post → ∀ ls : Array Slot, lv_has ls maxL (lv_args 0 as) → va_P D cl w0 s.heap → va_D A w0 → va_S A s.heap s.heap [] → W p l e rm s m as.toArray below meth c s.heap [] 0 0 Q (F0 m 0 ls [])) :
    CTi l y ws rm mc ms D cl (TY cA cP) as w0 Post := by
  intro sz
  refine Met.ofW (cc := cc) (maxL := maxL) (ret := some .int) hy hw ?_
  intro p e s m args below meth c s₁ B hml hv
  obtain ⟨rfl, hsz, hP, hK, hD0, hN, hZ0⟩ := hv
  subst hsz
  have hZ : ZQ (va_A w0 s.heap.size) s s.heap := ⟨zl_in hK hP hZ0.1, zl_in hK hP hZ0.2⟩
  have hlocks := B.notSynchronized
  have hD := hD0.self (sz := s.heap.size)
  have hown2 : s.vm.findClass own = some m.cls := by rw [← hown]; exact findClass_of_methodNamed B.named
  have hA : ∀ q : Nat, s.heap.size ≤ q → va_A w0 s.heap.size q := fun q h => Or.inr h
  rw [lg_entry_eq]
  refine body p e s m below meth c _ _ ⟨B.exec, B.bytes, hml, hown2, atoms_spec (ws := ws) B.pre, hK, hA, hN, hZ⟩ (fun H locs pc ls r w hw hP hD hS hd => ?_) _ (lv_entry as hlen) hP hD va_S.rf
  exact W.iret B.exec B.bytes B.returns (fun t ht hW => ⟨⟨r, w, rfl, hw, by rw [ht]; exact hP, va_K.moved hW.alike hK, hD⟩, hS.F ht⟩) hS.2.2 hd
theorem mk_z {Post : Int32 → va_W → Prop} (hy : plainName y.cls = true) (hw : ws = Cond.code y cc maxL (some .boolean) :: ws') (hown : y.cls = own) (hlen : (lg_sl as).length ≤ maxL)
    (body : ∀ (p : Program) (e : Env) (s : State) (m : MethodId) (below : List Frame) (meth : Method) (c : Code) (A : Nat → Prop) (Q : State → Prop), CX p s m as.toArray c cc maxL own ws D cl cA cP A → RTz p l e rm s m as.toArray below meth c Q D cl A cc mc ms Post → ∀ ls : Array Slot, lv_has ls maxL (lv_args 0 as) → va_P D cl w0 s.heap → va_D A w0 → va_S A s.heap s.heap [] → W p l e rm s m as.toArray below meth c s.heap [] 0 0 Q (F0 m 0 ls [])) :
    CTi l y ws rm mc ms D cl (TY cA cP) as w0 Post := by
  intro sz
  refine Met.ofW (cc := cc) (maxL := maxL) (ret := some .boolean) hy hw ?_
  intro p e s m args below meth c s₁ B hml hv
  obtain ⟨rfl, hsz, hP, hK, hD0, hN, hZ0⟩ := hv
  subst hsz
  have hZ : ZQ (va_A w0 s.heap.size) s s.heap := ⟨zl_in hK hP hZ0.1, zl_in hK hP hZ0.2⟩
  have hlocks := B.notSynchronized
  have hD := hD0.self (sz := s.heap.size)
  have hown2 : s.vm.findClass own = some m.cls := by rw [← hown]; exact findClass_of_methodNamed B.named
  have hA : ∀ q : Nat, s.heap.size ≤ q → va_A w0 s.heap.size q := fun q h => Or.inr h
  rw [lg_entry_eq]
  refine body p e s m below meth c _ _ ⟨B.exec, B.bytes, hml, hown2, atoms_spec (ws := ws) B.pre, hK, hA, hN, hZ⟩ (fun H locs pc ls r w hw hn hP hD hS hd => ?_) _ (lv_entry as hlen) hP hD va_S.rf
  exact W.zret B.exec B.bytes B.returns hn (fun t ht hW => ⟨⟨r, w, rfl, hw, by rw [ht]; exact hP, va_K.moved hW.alike hK, hD⟩, hS.F ht⟩) hS.2.2 hd
theorem mk_l {Post : Int64 → va_W → Prop} (hy : plainName y.cls = true) (hw : ws = Cond.code y cc maxL (some .long) :: ws') (hown : y.cls = own) (hlen : (lg_sl as).length ≤ maxL)
    (body : ∀ (p : Program) (e : Env) (s : State) (m : MethodId) (below : List Frame) (meth : Method) (c : Code) (A : Nat → Prop) (Q : State → Prop), CX p s m as.toArray c cc maxL own ws D cl cA cP A → RTl p l e rm s m as.toArray below meth c Q D cl A cc mc ms Post → ∀ ls : Array Slot, lv_has ls maxL (lv_args 0 as) → va_P D cl w0 s.heap → va_D A w0 → va_S A s.heap s.heap [] → W p l e rm s m as.toArray below meth c s.heap [] 0 0 Q (F0 m 0 ls [])) :
    CTl l y ws rm mc ms D cl (TY cA cP) as w0 Post := by
  intro sz
  refine Met.ofW (cc := cc) (maxL := maxL) (ret := some .long) hy hw ?_
  intro p e s m args below meth c s₁ B hml hv
  obtain ⟨rfl, hsz, hP, hK, hD0, hN, hZ0⟩ := hv
  subst hsz
  have hZ : ZQ (va_A w0 s.heap.size) s s.heap := ⟨zl_in hK hP hZ0.1, zl_in hK hP hZ0.2⟩
  have hlocks := B.notSynchronized
  have hD := hD0.self (sz := s.heap.size)
  have hown2 : s.vm.findClass own = some m.cls := by rw [← hown]; exact findClass_of_methodNamed B.named
  have hA : ∀ q : Nat, s.heap.size ≤ q → va_A w0 s.heap.size q := fun q h => Or.inr h
  rw [lg_entry_eq]
  refine body p e s m below meth c _ _ ⟨B.exec, B.bytes, hml, hown2, atoms_spec (ws := ws) B.pre, hK, hA, hN, hZ⟩ (fun H locs pc ls r w hw hP hD hS hd => ?_) _ (lv_entry as hlen) hP hD va_S.rf
  exact W.lret B.exec B.bytes B.returns (fun t ht hW => ⟨⟨r, w, rfl, hw, by rw [ht]; exact hP, va_K.moved hW.alike hK, hD⟩, hS.F ht⟩) hS.2.2 hd
end
section
variable {l : Launch} {y : MethodName} {ws ws' : List Cond} {rm : Room} {D : va_G} {cl : List vw_C} {cA cP : ClassId} {as : List Value} {w0 : va_W} {cc : ByteArray} {maxL mc ms : Nat} {own : String}
/-- a constructor -/
theorem mk_c {Post : va_W → Prop} (hy : plainName y.cls = true) (hw : ws = Cond.code y cc maxL none :: ws') (hown : y.cls = own) (hyn : y.name = "<init>") (hlen : (lg_sl as).length ≤ maxL)
    (body : ∀ (p : Program) (e : Env) (s : State) (m : MethodId) (below : List Frame) (meth : Method) (c : Code) (A : Nat → Prop) (Q : State → Prop), CX p s m as.toArray c cc maxL own ws D cl cA cP A → meth.name = "<init>" → RTv p l e rm s m as.toArray below meth c Q D cl A cc mc ms Post → ∀ ls : Array Slot, lv_has ls maxL (lv_args 0 as) → va_P D cl w0 s.heap → va_D A w0 → va_S A s.heap s.heap [] → W p l e rm s m as.toArray below meth c s.heap [] 0 0 Q (F0 m 0 ls [])) :
    CTv l y ws rm mc ms D cl (TY cA cP) as w0 Post := by
  intro sz
  refine Met.ofW (cc := cc) (maxL := maxL) (ret := none) hy hw ?_
  intro p e s m args below meth c s₁ B hml hv
  obtain ⟨rfl, hsz, hP, hK, hD0, hN, hZ0⟩ := hv
  subst hsz
  have hZ : ZQ (va_A w0 s.heap.size) s s.heap := ⟨zl_in hK hP hZ0.1, zl_in hK hP hZ0.2⟩
  have hlocks := B.notSynchronized
  have hin : meth.name = "<init>" := (name_of_methodNamed B.named B.method).1.trans hyn
  have hD := hD0.self (sz := s.heap.size)
  have hown2 : s.vm.findClass own = some m.cls := by rw [← hown]; exact findClass_of_methodNamed B.named
  have hA : ∀ q : Nat, s.heap.size ≤ q → va_A w0 s.heap.size q := fun q h => Or.inr h
  rw [lg_entry_eq]
  refine body p e s m below meth c _ _ ⟨B.exec, B.bytes, hml, hown2, atoms_spec (ws := ws) B.pre, hK, hA, hN, hZ⟩ hin (fun H locs pc ls w hw hP hD hS hd => ?_) _ (lv_entry as hlen) hP hD va_S.rf
  exact W.vret B.exec B.bytes B.returns (fun t ht hW => ⟨⟨w, rfl, hw, by rw [ht]; exact hP, va_K.moved hW.alike hK, hD⟩, hS.F ht⟩) hS.2.2 hd
end
section
variable {p : Program} {l : Launch} {e : Env} {R : Room} {s : State} {m : MethodId} {args : Array Value} {below : List Frame} {meth : Method} {c : Code} {H : Heap} {locs : List Loc} {cells slots : Nat} {Q : State → Prop} {pc : Nat} {ls : Array Slot} {rest st0 : List Value} {D : va_G} {cl : List vw_C} {tys : List (ClassId × FieldType)} {A : Nat → Prop} {ws w0 wr : va_W} {a : Array Value} {mc ms : Nat}
/-- a call over some of the cells (places isC), the others (places isR) stay -/
theorem kf_v {Post : va_W → Prop} (isC isR : List Nat) (hC : isC.map (fun i => ws[i]?) = w0.map some) (hR : isR.map (fun i => ws[i]?) = wr.map some) (hn : va_nd isR = true) (hdis : ∀ i ∈ isR, i ∉ isC)
    (hr : va_Run p l e R s m args below meth c H locs cells slots mc ms (F0 m pc ls st0) rest (va_Qv Post (WQ D cl tys w0 H.size) (va_A w0 H.size) a) (va_A w0 H.size)) (hP : va_P D cl ws H) (hD : va_D A ws) (hS : va_S A s.heap H locs) (hA : ∀ q : Nat, s.heap.size ≤ q → A q)
    (kk : ∀ (w : va_W) (H1 : Heap) (locs1 : List Loc), Post w → va_P D cl (wr ++ w) H1 → va_D A (wr ++ w) → va_S A s.heap H1 locs1 → W p l e R s m args below meth c H1 locs1 (cells + mc) (slots + ms) Q (F0 m (pc + 3) ls rest)) : W p l e R s m args below meth c H locs cells slots Q (F0 m pc ls st0) := by
  have hFc := va_free (wc := w0) hD hS hA isC hC
  refine va_callv hr hS (fun q _ h => hFc q h) hFc (fun u t H1 locs1 ht hvm hw hB hz hk hS1 => ?_)
  obtain ⟨hP1, hK1, hD1⟩ := hB
  rw [ht] at hP1
  obtain ⟨hP2, hD2⟩ := va_join (wr := wr) hP hD isC isR hC hR hn hdis hk hFc hP1 hD1
  exact kk u H1 locs1 hw hP2 hD2 hS1
end

abbrev rowsL : List Nat := [6, 7, 8, 9, 10, 11, 12, 13, 14, 15, 16, 17]
abbrev isRow (k : Nat) : Prop := 6 ≤ k ∧ k < 18
/-- the place of a row's pages -/
abbrev nRow : Nat := 12
/-- a Row object -/
abbrev rwc (ci : Nat) (ob : Nat → Nat) (S : St) (k : Nat) : Nat × va_E := (ob k, .inr (ci, [.ref (ob (k + nRow)), .int (nI (gn S k))]))
/-- its row of pages -/
abbrev pgc (cP : ClassId) (ob : Nat → Nat) (ad : Nat → Nat → Nat) (S : St) (k : Nat) : Nat × va_E := (ob (k + nRow), .inl (cP, gn S (k + nRow), .inr (.inr (.inr (.inr (fun j => cond (Nat.blt j (gn S k)) (some (ad k j)) none))))))
/-- the pages of one row -/
def pgs (cA : ClassId) (a : Nat → Nat) (n : Nat) (f : Nat → Int32) : va_W := (List.range n).map (fun j => (a j, .inl (cA, 32, .inl (fun x => cond (Nat.blt x 32) (f (32 * j + x)) 0))))
def dy (cA : ClassId) (ad : Nat → Nat → Nat) (n : Nat → Nat) (f : Nat → Nat → Int32) : va_W := pgs cA (ad 6) (n 6) (f 6) ++ (pgs cA (ad 7) (n 7) (f 7) ++ (pgs cA (ad 8) (n 8) (f 8) ++ (pgs cA (ad 9) (n 9) (f 9) ++ (pgs cA (ad 10) (n 10) (f 10) ++ (pgs cA (ad 11) (n 11) (f 11) ++ (pgs cA (ad 12) (n 12) (f 12) ++ (pgs cA (ad 13) (n 13) (f 13) ++ (pgs cA (ad 14) (n 14) (f 14) ++ (pgs cA (ad 15) (n 15) (f 15) ++ (pgs cA (ad 16) (n 16) (f 16) ++ (pgs cA (ad 17) (n 17) (f 17))))))))))))
/-- the cells of this side; rows: 6 xs, 7 ys, 8 starts, 9 twins, 10 leaving, 11 marks, 12 pit, 13 rim, 14 edges, 15 spare, 16 ends, 17 corners; arrays: 30 found; ints: 0 PlaneNet.closestLower, 1 PlaneNet.closestOther, 2 PlaneNet$Points.room, 3 PlaneNet$Points.size, 4 PlaneNet$Net.ghost, 5 PlaneNet$Net.mark, 6 PlaneNet$Net.all, 7 PlaneNet$Net.outer, 8 PlaneNet$Net.pitSize, 9 PlaneNet$Net.rimSize, 10 PlaneNet$Roll.fresh, 11 PlaneNet$Outline.size, 12 PlaneNet$Outline.fresh; longs: 0 PlaneNet.closestGap, 1 PlaneNet$Wide.high, 2 PlaneNet$Wide.low -/
def cwF (cA cP : ClassId) (ob : Nat → Nat) (ad : Nat → Nat → Nat) (S : St) : va_W := [(ob 0, .inr (0, [.ref (ob 1), .ref (ob 3), .ref (ob 4), .ref (ob 5), .ref (ob 30), .long (gl S 0), .int (gi S 0), .int (gi S 1)])), (ob 1, .inr (1, [.int (gi S 2), .int (gi S 3), .ref (ob 6), .ref (ob 7), .ref (ob 2)])), (ob 2, .inr (2, [.long (gl S 1), .long (gl S 2)])), (ob 3, .inr (3, [.ref (ob 1), .int (gi S 4), .ref (ob 8), .ref (ob 9), .ref (ob 10), .ref (ob 11), .ref (ob 12), .ref (ob 13), .int (gi S 5), .int (gi S 6), .int (gi S 7), .int (gi S 8), .int (gi S 9)])), (ob 4, .inr (4, [.ref (ob 1), .ref (ob 3), .ref (ob 14), .ref (ob 15), .ref (ob 16), .int (gi S 10)])), (ob 5, .inr (5, [.ref (ob 1), .ref (ob 3), .ref (ob 17), .int (gi S 11), .int (gi S 12)])), rwc 6 ob S 6, rwc 6 ob S 7, rwc 6 ob S 8, rwc 6 ob S 9, rwc 6 ob S 10, rwc 6 ob S 11, rwc 6 ob S 12, rwc 6 ob S 13, rwc 6 ob S 14, rwc 6 ob S 15, rwc 6 ob S 16, rwc 6 ob S 17, pgc cP ob ad S 6, pgc cP ob ad S 7, pgc cP ob ad S 8, pgc cP ob ad S 9, pgc cP ob ad S 10, pgc cP ob ad S 11, pgc cP ob ad S 12, pgc cP ob ad S 13, pgc cP ob ad S 14, pgc cP ob ad S 15, pgc cP ob ad S 16, pgc cP ob ad S 17, (ob 30, .inl (cA, gn S 30, .inl (ga S 30)))]
def cw (cA cP : ClassId) (ob : Nat → Nat) (ad : Nat → Nat → Nat) (S : St) : va_W := cwF cA cP ob ad S ++ dy cA ad S.2.2.1 S.2.2.2
abbrev isArrc (k : Nat) : Prop := 30 ≤ k ∧ k < 31
theorem cw_arr {cA cP : ClassId} {ob : Nat → Nat} {ad : Nat → Nat → Nat} (S : St) {k : Nat} (h : isArrc k) : (cw cA cP ob ad S)[k]? = some (ob k, .inl (cA, gn S k, .inl (ga S k))) := by
  obtain rfl : k = 30 := by have := h.1; have := h.2; omega
  rfl
theorem cw_set {cA cP : ClassId} {ob : Nat → Nat} {ad : Nat → Nat → Nat} (S : St) (f : Nat → Int32) {k : Nat} (h : isArrc k) : (cw cA cP ob ad S).set k (ob k, .inl (cA, gn S k, .inl f)) = cw cA cP ob ad (seta S k f) := by
  obtain rfl : k = 30 := by have := h.1; have := h.2; omega
  rfl
theorem cw_row {cA cP : ClassId} {ob : Nat → Nat} {ad : Nat → Nat → Nat} (S : St) {k : Nat} (h : isRow k) : (cw cA cP ob ad S)[k]? = some (rwc 6 ob S k) := by
  rcases (show k = 6 ∨ k = 7 ∨ k = 8 ∨ k = 9 ∨ k = 10 ∨ k = 11 ∨ k = 12 ∨ k = 13 ∨ k = 14 ∨ k = 15 ∨ k = 16 ∨ k = 17 by have := h.1; have := h.2; omega) with rfl | rfl | rfl | rfl | rfl | rfl | rfl | rfl | rfl | rfl | rfl | rfl <;> rfl
theorem cw_pgc {cA cP : ClassId} {ob : Nat → Nat} {ad : Nat → Nat → Nat} (S : St) {k : Nat} (h : isRow k) : (cw cA cP ob ad S)[k + nRow]? = some (pgc cP ob ad S k) := by
  rcases (show k = 6 ∨ k = 7 ∨ k = 8 ∨ k = 9 ∨ k = 10 ∨ k = 11 ∨ k = 12 ∨ k = 13 ∨ k = 14 ∨ k = 15 ∨ k = 16 ∨ k = 17 by have := h.1; have := h.2; omega) with rfl | rfl | rfl | rfl | rfl | rfl | rfl | rfl | rfl | rfl | rfl | rfl <;> rfl
/-- the cells of this side; rows: ; arrays: 1 xs, 2 ys, 3 t0, 4 t1, 5 t2, 6 corner, 7 from, 8 to, 9 cell, 10 row, 11 located; ints: 0 PlaneNetModel.thrown, 1 PlaneNetModel.most, 2 PlaneNetModel.n, 3 PlaneNetModel.known, 4 PlaneNetModel.triangles, 5 PlaneNetModel.corners, 6 PlaneNetModel.sides, 7 PlaneNetModel.looked, 8 PlaneNetModel.celled, 9 PlaneNetModel.near; longs: 0 PlaneNetModel.d0, 1 PlaneNetModel.d1, 2 PlaneNetModel.d2, 3 PlaneNetModel.d3, 4 PlaneNetModel.d4 -/
def mw (cA cP : ClassId) (ob : Nat → Nat) (ad : Nat → Nat → Nat) (S : St) : va_W := [(ob 0, .inr (7, [.int (gi S 0), .int (gi S 1), .int (gi S 2), .ref (ob 1), .ref (ob 2), .int (gi S 3), .int (gi S 4), .ref (ob 3), .ref (ob 4), .ref (ob 5), .int (gi S 5), .ref (ob 6), .int (gi S 6), .int (gi S 7), .ref (ob 7), .ref (ob 8), .int (gi S 8), .ref (ob 9), .long (gl S 0), .long (gl S 1), .long (gl S 2), .long (gl S 3), .long (gl S 4), .int (gi S 9), .ref (ob 10), .ref (ob 11)])), (ob 1, .inl (cA, gn S 1, .inl (ga S 1))), (ob 2, .inl (cA, gn S 2, .inl (ga S 2))), (ob 3, .inl (cA, gn S 3, .inl (ga S 3))), (ob 4, .inl (cA, gn S 4, .inl (ga S 4))), (ob 5, .inl (cA, gn S 5, .inl (ga S 5))), (ob 6, .inl (cA, gn S 6, .inl (ga S 6))), (ob 7, .inl (cA, gn S 7, .inl (ga S 7))), (ob 8, .inl (cA, gn S 8, .inl (ga S 8))), (ob 9, .inl (cA, gn S 9, .inl (ga S 9))), (ob 10, .inl (cA, gn S 10, .inl (ga S 10))), (ob 11, .inl (cA, gn S 11, .inl (ga S 11)))]
abbrev isArrm (k : Nat) : Prop := 1 ≤ k ∧ k < 12
theorem mw_arr {cA cP : ClassId} {ob : Nat → Nat} {ad : Nat → Nat → Nat} (S : St) {k : Nat} (h : isArrm k) : (mw cA cP ob ad S)[k]? = some (ob k, .inl (cA, gn S k, .inl (ga S k))) := by
  rcases (show k = 1 ∨ k = 2 ∨ k = 3 ∨ k = 4 ∨ k = 5 ∨ k = 6 ∨ k = 7 ∨ k = 8 ∨ k = 9 ∨ k = 10 ∨ k = 11 by have := h.1; have := h.2; omega) with rfl | rfl | rfl | rfl | rfl | rfl | rfl | rfl | rfl | rfl | rfl <;> rfl
theorem mw_set {cA cP : ClassId} {ob : Nat → Nat} {ad : Nat → Nat → Nat} (S : St) (f : Nat → Int32) {k : Nat} (h : isArrm k) : (mw cA cP ob ad S).set k (ob k, .inl (cA, gn S k, .inl f)) = mw cA cP ob ad (seta S k f) := by
  rcases (show k = 1 ∨ k = 2 ∨ k = 3 ∨ k = 4 ∨ k = 5 ∨ k = 6 ∨ k = 7 ∨ k = 8 ∨ k = 9 ∨ k = 10 ∨ k = 11 by have := h.1; have := h.2; omega) with rfl | rfl | rfl | rfl | rfl | rfl | rfl | rfl | rfl | rfl | rfl <;> rfl
