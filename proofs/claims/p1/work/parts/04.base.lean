/-! THE BASE: states of a side as numbers and rows, the small words of the functions, contracts over a whole world, and their calls. -/
/-- a side's state: ints, longs, lengths of rows, rows -/
abbrev St : Type := (Nat → Int32) × (Nat → Int64) × (Nat → Nat) × (Nat → Nat → Int32)
abbrev gi (S : St) (k : Nat) : Int32 := S.1 k
abbrev gl (S : St) (k : Nat) : Int64 := S.2.1 k
abbrev gn (S : St) (k : Nat) : Nat := S.2.2.1 k
abbrev ga (S : St) (k : Nat) : Nat → Int32 := S.2.2.2 k
def up1 {α : Type} (f : Nat → α) (k : Nat) (v : α) : Nat → α := fun j => cond (Nat.beq j k) v (f j)
def seti (S : St) (k : Nat) (v : Int32) : St := (up1 S.1 k v, S.2.1, S.2.2.1, S.2.2.2)
def setl (S : St) (k : Nat) (v : Int64) : St := (S.1, up1 S.2.1 k v, S.2.2.1, S.2.2.2)
def seta (S : St) (k : Nat) (f : Nat → Int32) : St := (S.1, S.2.1, S.2.2.1, up1 S.2.2.2 k f)
/-- a new row of n zeros -/
def newa (S : St) (k : Nat) (n : Nat) : St := (S.1, S.2.1, up1 S.2.2.1 k n, up1 S.2.2.2 k (fun _ => 0))
def bn {α β : Type} (x : α) (f : α → β) : β := f x
theorem bn_some {α β : Type} {x : α} {f : α → β} {y : β} (h : bn x f = y) : ∃ z, z = x ∧ f z = y := ⟨x, rfl, h⟩
def bd {α β : Type} (x : Option α) (f : α → Option β) : Option β := match x with
  | none => none
  | some a => f a
theorem bd_some {α β : Type} {x : Option α} {f : α → Option β} {y : β} (h : bd x f = some y) : ∃ z, x = some z ∧ f z = some y := by
  cases x with
  | none => cases h
  | some a => exact ⟨a, rfl, h⟩
def as_ {β : Type} (b : Bool) (r : Option β) : Option β := if b = true then r else none
theorem as_some {β : Type} {b : Bool} {r : Option β} {y : β} (h : as_ b r = some y) : b = true ∧ r = some y := by
  cases b with
  | false => cases h
  | true => exact ⟨rfl, h⟩
def inb (i : Int32) (n : Nat) : Bool := decide (0 ≤ i.toInt ∧ i.toInt < n)
theorem inb_in {i : Int32} {n : Nat} (h : inb i n = true) : vp_in i n := vp_in_iff.mpr (of_decide_eq_true h)
theorem nz_of {y : Int32} (h : (!decide (y = 0)) = true) : ¬ y = 0 := by simpa using h
def isb (v : Int32) : Bool := decide (v = 0) || decide (v = 1)
theorem nb_of {v : Int32} (h : isb v = true) : narrow .boolean (.int v) = .int v := by
  simp only [isb, Bool.or_eq_true, decide_eq_true_eq] at h
  rcases h with rfl | rfl <;> rfl
def FU : Nat := 8589934592
def alen (e : Int32) (B : Nat) : Bool := decide (0 ≤ e.toInt ∧ e.toInt ≤ B)
theorem alen_nn {e : Int32} {B : Nat} (h : alen e B = true) : ¬ e < 0 := by
  have := of_decide_eq_true h
  rw [Int32.lt_iff_toInt_lt]
  show ¬ e.toInt < 0
  omega
theorem alen_le {e : Int32} {B : Nat} (h : alen e B = true) : e.toNatClampNeg ≤ B := by
  have := of_decide_eq_true h
  show e.toInt.toNat ≤ B
  omega
theorem alen_by {e : Int32} {B : Nat} (h : alen e B = true) (hB : B ≤ 100000) : e.toNatClampNeg * componentBytes .int ≤ 536870912 := by
  have := alen_le h
  show e.toNatClampNeg * 4 ≤ 536870912
  omega
theorem kA_eq {D : va_G} {cl : List vw_C} {cA cB : ClassId} {s : State} (h : va_K D cl ([(cA, .int)] ++ [(cB, .int)]) s) : cB = cA := by
  have h0 := (h.2 0 (cA, .int) rfl).2
  have h1 := (h.2 1 (cB, .int) rfl).2
  exact Option.some.inj (h1.symm.trans h0)
/-- what holds all through a method's walk -/
def CX (p : Program) (s : State) (m : MethodId) (args : Array Value) (c : Code) (cc : ByteArray) (nL : Nat) (own : String) (Ts : List Cond) (D : va_G) (cl : List vw_C) (cA : ClassId) (A : Nat → Prop) : Prop :=
  p.tables.exec = Jvm.exec ∧ c.code = cc ∧ c.maxLocals = nL ∧ s.vm.findClass own = some m.cls ∧ (∀ w ∈ Ts, w.before args s = true) ∧ va_K D cl [(cA, .int)] s ∧ (∀ q : Nat, s.heap.size ≤ q → A q) ∧ NW s
section
variable {p : Program} {l : Launch} {e : Env} {R : Room} {s : State} {m : MethodId} {args : Array Value} {below : List Frame} {meth : Method} {c : Code} {H : Heap} {locs : List Loc} {cells slots : Nat} {Q : State → Prop} {pc : Nat} {ls : Array Slot} {rest : List Value}
theorem tpi {x y : Int32} (h : y = x) (k : W p l e R s m args below meth c H locs cells slots Q (F0 m pc ls (.int y :: rest))) : W p l e R s m args below meth c H locs cells slots Q (F0 m pc ls (.int x :: rest)) := h ▸ k
theorem tpl {x y : Int64} (h : y = x) (k : W p l e R s m args below meth c H locs cells slots Q (F0 m pc ls (.long y :: rest))) : W p l e R s m args below meth c H locs cells slots Q (F0 m pc ls (.long x :: rest)) := h ▸ k
end
def RTv (p : Program) (l : Launch) (e : Env) (R : Room) (s : State) (m : MethodId) (args : Array Value) (below : List Frame) (meth : Method) (c : Code) (Q : State → Prop) (D : va_G) (cl : List vw_C) (A : Nat → Prop) (cc : ByteArray) (mc ms : Nat) (Post : va_W → Prop) : Prop :=
  ∀ (H : Heap) (locs : List Loc) (pc : Nat) (ls : Array Slot) (w : va_W), Post w → va_P D cl w H → va_D A w → va_S A s.heap H locs → decode cc pc = .ok (.return_, 1) → W p l e R s m args below meth c H locs mc ms Q (F0 m pc ls [])
def RTi (p : Program) (l : Launch) (e : Env) (R : Room) (s : State) (m : MethodId) (args : Array Value) (below : List Frame) (meth : Method) (c : Code) (Q : State → Prop) (D : va_G) (cl : List vw_C) (A : Nat → Prop) (cc : ByteArray) (mc ms : Nat) (Post : Int32 → va_W → Prop) : Prop :=
  ∀ (H : Heap) (locs : List Loc) (pc : Nat) (ls : Array Slot) (r : Int32) (w : va_W), Post r w → va_P D cl w H → va_D A w → va_S A s.heap H locs → decode cc pc = .ok (.ireturn, 1) → W p l e R s m args below meth c H locs mc ms Q (F0 m pc ls [.int r])
def RTz (p : Program) (l : Launch) (e : Env) (R : Room) (s : State) (m : MethodId) (args : Array Value) (below : List Frame) (meth : Method) (c : Code) (Q : State → Prop) (D : va_G) (cl : List vw_C) (A : Nat → Prop) (cc : ByteArray) (mc ms : Nat) (Post : Int32 → va_W → Prop) : Prop :=
  ∀ (H : Heap) (locs : List Loc) (pc : Nat) (ls : Array Slot) (r : Int32) (w : va_W), Post r w → narrow .boolean (.int r) = .int r → va_P D cl w H → va_D A w → va_S A s.heap H locs → decode cc pc = .ok (.ireturn, 1) → W p l e R s m args below meth c H locs mc ms Q (F0 m pc ls [.int r])
def RTl (p : Program) (l : Launch) (e : Env) (R : Room) (s : State) (m : MethodId) (args : Array Value) (below : List Frame) (meth : Method) (c : Code) (Q : State → Prop) (D : va_G) (cl : List vw_C) (A : Nat → Prop) (cc : ByteArray) (mc ms : Nat) (Post : Int64 → va_W → Prop) : Prop :=
  ∀ (H : Heap) (locs : List Loc) (pc : Nat) (ls : Array Slot) (r : Int64) (w : va_W), Post r w → va_P D cl w H → va_D A w → va_S A s.heap H locs → decode cc pc = .ok (.lreturn, 1) → W p l e R s m args below meth c H locs mc ms Q (F0 m pc ls [.long r])
/-- the world before a method, and behind it -/
def WP (D : va_G) (cl : List vw_C) (tys : List (ClassId × FieldType)) (w0 : va_W) (sz : Nat) (U : State) : Prop := U.heap.size = sz ∧ va_P D cl w0 U.heap ∧ va_K D cl tys U ∧ va_D (fun _ => True) w0 ∧ NW U
def WQ (D : va_G) (cl : List vw_C) (tys : List (ClassId × FieldType)) (w0 : va_W) (sz : Nat) (w : va_W) (t : State) : Prop := va_P D cl w t.heap ∧ va_K D cl tys t ∧ va_D (va_A w0 sz) w
def CTv (l : Launch) (y : MethodName) (ws : List Cond) (rm : Room) (mc ms : Nat) (D : va_G) (cl : List vw_C) (tys : List (ClassId × FieldType)) (as : List Value) (w0 : va_W) (Post : va_W → Prop) : Prop :=
  ∀ sz : Nat, Met l y ws rm (va_Pc as (WP D cl tys w0 sz)) (va_Qv Post (WQ D cl tys w0 sz) (va_A w0 sz)) mc ms (va_A w0 sz)
def CTi (l : Launch) (y : MethodName) (ws : List Cond) (rm : Room) (mc ms : Nat) (D : va_G) (cl : List vw_C) (tys : List (ClassId × FieldType)) (as : List Value) (w0 : va_W) (Post : Int32 → va_W → Prop) : Prop :=
  ∀ sz : Nat, Met l y ws rm (va_Pc as (WP D cl tys w0 sz)) (va_Qi Post (WQ D cl tys w0 sz) (va_A w0 sz)) mc ms (va_A w0 sz)
def CTl (l : Launch) (y : MethodName) (ws : List Cond) (rm : Room) (mc ms : Nat) (D : va_G) (cl : List vw_C) (tys : List (ClassId × FieldType)) (as : List Value) (w0 : va_W) (Post : Int64 → va_W → Prop) : Prop :=
  ∀ sz : Nat, Met l y ws rm (va_Pc as (WP D cl tys w0 sz)) (va_Ql Post (WQ D cl tys w0 sz) (va_A w0 sz)) mc ms (va_A w0 sz)
theorem WP.blind {D : va_G} {cl : List vw_C} {tys : List (ClassId × FieldType)} {w0 : va_W} {sz : Nat} {as : List Value} : FrameBlind (va_Pc as (WP D cl tys w0 sz)) := fun a U g mk q => by
  obtain ⟨q0, q1, qP, qK, qD, qN⟩ := q
  exact ⟨q0, q1, qP, va_K.moved (u := U) (U := U.calling g mk a) (Vm.Alike.refl U.vm) qK, qD, fun x hx => va_Nw.same rfl (u := U) (U := U.calling g mk a) rfl (qN x hx)⟩
theorem range_all {α : Type} (w : List α) : (List.range w.length).map (fun i => w[i]?) = w.map some := by
  apply List.ext_getElem?
  intro i
  simp only [List.getElem?_map]
  by_cases h : i < w.length
  · simp [h]
  · simp [h]
section
variable {p : Program} {l : Launch} {e : Env} {R : Room} {s : State} {m : MethodId} {args : Array Value} {below : List Frame} {meth : Method} {c : Code} {H : Heap} {locs : List Loc} {cells slots : Nat} {Q : State → Prop} {pc : Nat} {ls : Array Slot} {rest st0 : List Value} {D : va_G} {cl : List vw_C} {tys : List (ClassId × FieldType)} {A : Nat → Prop} {w0 : va_W} {a : Array Value} {mc ms : Nat}
theorem kpS {as : List Value} (hK : va_K D cl tys s) (hP : va_P D cl w0 H) (hD : va_D A w0) (hN : NW s) : PreS s H (va_Pc as (WP D cl tys w0 H.size)) as :=
  ⟨WP.blind, fun _ hU hW => ⟨rfl, by rw [hU], by rw [hU]; exact hP, va_K.moved hW.alike hK, hD.weaken (fun _ _ _ _ => trivial), hN.warm hW⟩⟩
theorem kpV {b : Addr} {As : List Value} {q : vw_C} (hK : va_K D cl tys s) (hP : va_P D cl w0 H) (hD : va_D A w0) (hN : NW s) (ci q0 : Nat) {fs : List Value} (hc : cl[ci]? = some q) (he : w0[q0]? = some (b, .inr (ci, fs))) : PreV s H q.1 b (va_Pc (.ref b :: As) (WP D cl tys w0 H.size)) As :=
  ⟨WP.blind, va_recv hK hP hc he, fun _ hU hW => ⟨rfl, by rw [hU], by rw [hU]; exact hP, va_K.moved hW.alike hK, hD.weaken (fun _ _ _ _ => trivial), hN.warm hW⟩⟩
theorem kc_i {Post : Int32 → va_W → Prop} (hr : va_Run p l e R s m args below meth c H locs cells slots mc ms (F0 m pc ls st0) rest (va_Qi Post (WQ D cl tys w0 H.size) (va_A w0 H.size) a) (va_A w0 H.size)) (hP : va_P D cl w0 H) (hD : va_D A w0) (hS : va_S A s.heap H locs) (hA : ∀ q : Nat, s.heap.size ≤ q → A q)
    (kk : ∀ (r : Int32) (w : va_W) (H1 : Heap) (locs1 : List Loc), Post r w → va_P D cl w H1 → va_D A w → va_S A s.heap H1 locs1 → W p l e R s m args below meth c H1 locs1 (cells + mc) (slots + ms) Q (F0 m (pc + 3) ls (.int r :: rest))) : W p l e R s m args below meth c H locs cells slots Q (F0 m pc ls st0) := by
  have hFc := va_free (wc := w0) hD hS hA (List.range w0.length) (range_all w0)
  refine va_calli hr hS (fun q _ h => hFc q h) hFc (fun r u t H1 locs1 ht hvm hw hB hz hk hS1 => ?_)
  obtain ⟨hP1, hK1, hD1⟩ := hB
  rw [ht] at hP1
  obtain ⟨hP2, hD2⟩ := va_join (wr := []) hP hD (List.range w0.length) [] (range_all w0) rfl rfl (fun _ h => absurd h List.not_mem_nil) hk hFc hP1 hD1
  exact kk r u H1 locs1 hw hP2 hD2 hS1
theorem kc_l {Post : Int64 → va_W → Prop} (hr : va_Run p l e R s m args below meth c H locs cells slots mc ms (F0 m pc ls st0) rest (va_Ql Post (WQ D cl tys w0 H.size) (va_A w0 H.size) a) (va_A w0 H.size)) (hP : va_P D cl w0 H) (hD : va_D A w0) (hS : va_S A s.heap H locs) (hA : ∀ q : Nat, s.heap.size ≤ q → A q)
    (kk : ∀ (r : Int64) (w : va_W) (H1 : Heap) (locs1 : List Loc), Post r w → va_P D cl w H1 → va_D A w → va_S A s.heap H1 locs1 → W p l e R s m args below meth c H1 locs1 (cells + mc) (slots + ms) Q (F0 m (pc + 3) ls (.long r :: rest))) : W p l e R s m args below meth c H locs cells slots Q (F0 m pc ls st0) := by
  have hFc := va_free (wc := w0) hD hS hA (List.range w0.length) (range_all w0)
  refine va_calll hr hS (fun q _ h => hFc q h) hFc (fun r u t H1 locs1 ht hvm hw hB hz hk hS1 => ?_)
  obtain ⟨hP1, hK1, hD1⟩ := hB
  rw [ht] at hP1
  obtain ⟨hP2, hD2⟩ := va_join (wr := []) hP hD (List.range w0.length) [] (range_all w0) rfl rfl (fun _ h => absurd h List.not_mem_nil) hk hFc hP1 hD1
  exact kk r u H1 locs1 hw hP2 hD2 hS1
theorem kc_v {Post : va_W → Prop} (hr : va_Run p l e R s m args below meth c H locs cells slots mc ms (F0 m pc ls st0) rest (va_Qv Post (WQ D cl tys w0 H.size) (va_A w0 H.size) a) (va_A w0 H.size)) (hP : va_P D cl w0 H) (hD : va_D A w0) (hS : va_S A s.heap H locs) (hA : ∀ q : Nat, s.heap.size ≤ q → A q)
    (kk : ∀ (w : va_W) (H1 : Heap) (locs1 : List Loc), Post w → va_P D cl w H1 → va_D A w → va_S A s.heap H1 locs1 → W p l e R s m args below meth c H1 locs1 (cells + mc) (slots + ms) Q (F0 m (pc + 3) ls rest)) : W p l e R s m args below meth c H locs cells slots Q (F0 m pc ls st0) := by
  have hFc := va_free (wc := w0) hD hS hA (List.range w0.length) (range_all w0)
  refine va_callv hr hS (fun q _ h => hFc q h) hFc (fun u t H1 locs1 ht hvm hw hB hz hk hS1 => ?_)
  obtain ⟨hP1, hK1, hD1⟩ := hB
  rw [ht] at hP1
  obtain ⟨hP2, hD2⟩ := va_join (wr := []) hP hD (List.range w0.length) [] (range_all w0) rfl rfl (fun _ h => absurd h List.not_mem_nil) hk hFc hP1 hD1
  exact kk u H1 locs1 hw hP2 hD2 hS1
end
section
variable {l : Launch} {y : MethodName} {ws ws' : List Cond} {rm : Room} {D : va_G} {cl : List vw_C} {cA : ClassId} {as : List Value} {w0 : va_W} {cc : ByteArray} {maxL mc ms : Nat} {own : String}
theorem mk_v {Post : va_W → Prop} (hy : plainName y.cls = true) (hw : ws = Cond.code y cc maxL none :: ws') (hown : y.cls = own) (hlen : (lg_sl as).length ≤ maxL)
    (body : ∀ (p : Program) (e : Env) (s : State) (m : MethodId) (below : List Frame) (meth : Method) (c : Code) (A : Nat → Prop) (Q : State → Prop), CX p s m as.toArray c cc maxL own ws D cl cA A → RTv p l e rm s m as.toArray below meth c Q D cl A cc mc ms Post → ∀ ls : Array Slot, lv_has ls maxL (lv_args 0 as) → va_P D cl w0 s.heap → va_D A w0 → va_S A s.heap s.heap [] → W p l e rm s m as.toArray below meth c s.heap [] 0 0 Q (F0 m 0 ls [])) :
    CTv l y ws rm mc ms D cl [(cA, .int)] as w0 Post := by
  intro sz
  refine Met.ofW (cc := cc) (maxL := maxL) (ret := none) hy hw ?_
  intro p e s m args below meth c s₁ B hml hv
  obtain ⟨rfl, hsz, hP, hK, hD0, hN⟩ := hv
  subst hsz
  have hlocks := B.notSynchronized
  have hD := hD0.self (sz := s.heap.size)
  have hown2 : s.vm.findClass own = some m.cls := by rw [← hown]; exact findClass_of_methodNamed B.named
  have hA : ∀ q : Nat, s.heap.size ≤ q → va_A w0 s.heap.size q := fun q h => Or.inr h
  rw [lg_entry_eq]
  refine body p e s m below meth c _ _ ⟨B.exec, B.bytes, hml, hown2, atoms_spec (ws := ws) B.pre, hK, hA, hN⟩ (fun H locs pc ls w hw hP hD hS hd => ?_) _ (lv_entry as hlen) hP hD va_S.rf
  exact W.vret B.exec B.bytes B.returns (fun t ht hW => ⟨⟨w, rfl, hw, by rw [ht]; exact hP, va_K.moved hW.alike hK, hD⟩, hS.F ht⟩) hS.2.2 hd
theorem mk_i {Post : Int32 → va_W → Prop} (hy : plainName y.cls = true) (hw : ws = Cond.code y cc maxL (some .int) :: ws') (hown : y.cls = own) (hlen : (lg_sl as).length ≤ maxL)
    (body : ∀ (p : Program) (e : Env) (s : State) (m : MethodId) (below : List Frame) (meth : Method) (c : Code) (A : Nat → Prop) (Q : State → Prop), CX p s m as.toArray c cc maxL own ws D cl cA A → RTi p l e rm s m as.toArray below meth c Q D cl A cc mc ms Post → ∀ ls : Array Slot, lv_has ls maxL (lv_args 0 as) → va_P D cl w0 s.heap → va_D A w0 → va_S A s.heap s.heap [] → W p l e rm s m as.toArray below meth c s.heap [] 0 0 Q (F0 m 0 ls [])) :
    CTi l y ws rm mc ms D cl [(cA, .int)] as w0 Post := by
  intro sz
  refine Met.ofW (cc := cc) (maxL := maxL) (ret := some .int) hy hw ?_
  intro p e s m args below meth c s₁ B hml hv
  obtain ⟨rfl, hsz, hP, hK, hD0, hN⟩ := hv
  subst hsz
  have hlocks := B.notSynchronized
  have hD := hD0.self (sz := s.heap.size)
  have hown2 : s.vm.findClass own = some m.cls := by rw [← hown]; exact findClass_of_methodNamed B.named
  have hA : ∀ q : Nat, s.heap.size ≤ q → va_A w0 s.heap.size q := fun q h => Or.inr h
  rw [lg_entry_eq]
  refine body p e s m below meth c _ _ ⟨B.exec, B.bytes, hml, hown2, atoms_spec (ws := ws) B.pre, hK, hA, hN⟩ (fun H locs pc ls r w hw hP hD hS hd => ?_) _ (lv_entry as hlen) hP hD va_S.rf
  exact W.iret B.exec B.bytes B.returns (fun t ht hW => ⟨⟨r, w, rfl, hw, by rw [ht]; exact hP, va_K.moved hW.alike hK, hD⟩, hS.F ht⟩) hS.2.2 hd
theorem mk_z {Post : Int32 → va_W → Prop} (hy : plainName y.cls = true) (hw : ws = Cond.code y cc maxL (some .boolean) :: ws') (hown : y.cls = own) (hlen : (lg_sl as).length ≤ maxL)
    (body : ∀ (p : Program) (e : Env) (s : State) (m : MethodId) (below : List Frame) (meth : Method) (c : Code) (A : Nat → Prop) (Q : State → Prop), CX p s m as.toArray c cc maxL own ws D cl cA A → RTz p l e rm s m as.toArray below meth c Q D cl A cc mc ms Post → ∀ ls : Array Slot, lv_has ls maxL (lv_args 0 as) → va_P D cl w0 s.heap → va_D A w0 → va_S A s.heap s.heap [] → W p l e rm s m as.toArray below meth c s.heap [] 0 0 Q (F0 m 0 ls [])) :
    CTi l y ws rm mc ms D cl [(cA, .int)] as w0 Post := by
  intro sz
  refine Met.ofW (cc := cc) (maxL := maxL) (ret := some .boolean) hy hw ?_
  intro p e s m args below meth c s₁ B hml hv
  obtain ⟨rfl, hsz, hP, hK, hD0, hN⟩ := hv
  subst hsz
  have hlocks := B.notSynchronized
  have hD := hD0.self (sz := s.heap.size)
  have hown2 : s.vm.findClass own = some m.cls := by rw [← hown]; exact findClass_of_methodNamed B.named
  have hA : ∀ q : Nat, s.heap.size ≤ q → va_A w0 s.heap.size q := fun q h => Or.inr h
  rw [lg_entry_eq]
  refine body p e s m below meth c _ _ ⟨B.exec, B.bytes, hml, hown2, atoms_spec (ws := ws) B.pre, hK, hA, hN⟩ (fun H locs pc ls r w hw hn hP hD hS hd => ?_) _ (lv_entry as hlen) hP hD va_S.rf
  exact W.zret B.exec B.bytes B.returns hn (fun t ht hW => ⟨⟨r, w, rfl, hw, by rw [ht]; exact hP, va_K.moved hW.alike hK, hD⟩, hS.F ht⟩) hS.2.2 hd
theorem mk_l {Post : Int64 → va_W → Prop} (hy : plainName y.cls = true) (hw : ws = Cond.code y cc maxL (some .long) :: ws') (hown : y.cls = own) (hlen : (lg_sl as).length ≤ maxL)
    (body : ∀ (p : Program) (e : Env) (s : State) (m : MethodId) (below : List Frame) (meth : Method) (c : Code) (A : Nat → Prop) (Q : State → Prop), CX p s m as.toArray c cc maxL own ws D cl cA A → RTl p l e rm s m as.toArray below meth c Q D cl A cc mc ms Post → ∀ ls : Array Slot, lv_has ls maxL (lv_args 0 as) → va_P D cl w0 s.heap → va_D A w0 → va_S A s.heap s.heap [] → W p l e rm s m as.toArray below meth c s.heap [] 0 0 Q (F0 m 0 ls [])) :
    CTl l y ws rm mc ms D cl [(cA, .int)] as w0 Post := by
  intro sz
  refine Met.ofW (cc := cc) (maxL := maxL) (ret := some .long) hy hw ?_
  intro p e s m args below meth c s₁ B hml hv
  obtain ⟨rfl, hsz, hP, hK, hD0, hN⟩ := hv
  subst hsz
  have hlocks := B.notSynchronized
  have hD := hD0.self (sz := s.heap.size)
  have hown2 : s.vm.findClass own = some m.cls := by rw [← hown]; exact findClass_of_methodNamed B.named
  have hA : ∀ q : Nat, s.heap.size ≤ q → va_A w0 s.heap.size q := fun q h => Or.inr h
  rw [lg_entry_eq]
  refine body p e s m below meth c _ _ ⟨B.exec, B.bytes, hml, hown2, atoms_spec (ws := ws) B.pre, hK, hA, hN⟩ (fun H locs pc ls r w hw hP hD hS hd => ?_) _ (lv_entry as hlen) hP hD va_S.rf
  exact W.lret B.exec B.bytes B.returns (fun t ht hW => ⟨⟨r, w, rfl, hw, by rw [ht]; exact hP, va_K.moved hW.alike hK, hD⟩, hS.F ht⟩) hS.2.2 hd
end
section
variable {l : Launch} {y : MethodName} {ws ws' : List Cond} {rm : Room} {D : va_G} {cl : List vw_C} {cA : ClassId} {as : List Value} {w0 : va_W} {cc : ByteArray} {maxL mc ms : Nat} {own : String}
/-- a constructor -/
theorem mk_c {Post : va_W → Prop} (hy : plainName y.cls = true) (hw : ws = Cond.code y cc maxL none :: ws') (hown : y.cls = own) (hyn : y.name = "<init>") (hlen : (lg_sl as).length ≤ maxL)
    (body : ∀ (p : Program) (e : Env) (s : State) (m : MethodId) (below : List Frame) (meth : Method) (c : Code) (A : Nat → Prop) (Q : State → Prop), CX p s m as.toArray c cc maxL own ws D cl cA A → meth.name = "<init>" → RTv p l e rm s m as.toArray below meth c Q D cl A cc mc ms Post → ∀ ls : Array Slot, lv_has ls maxL (lv_args 0 as) → va_P D cl w0 s.heap → va_D A w0 → va_S A s.heap s.heap [] → W p l e rm s m as.toArray below meth c s.heap [] 0 0 Q (F0 m 0 ls [])) :
    CTv l y ws rm mc ms D cl [(cA, .int)] as w0 Post := by
  intro sz
  refine Met.ofW (cc := cc) (maxL := maxL) (ret := none) hy hw ?_
  intro p e s m args below meth c s₁ B hml hv
  obtain ⟨rfl, hsz, hP, hK, hD0, hN⟩ := hv
  subst hsz
  have hlocks := B.notSynchronized
  have hin : meth.name = "<init>" := (name_of_methodNamed B.named B.method).1.trans hyn
  have hD := hD0.self (sz := s.heap.size)
  have hown2 : s.vm.findClass own = some m.cls := by rw [← hown]; exact findClass_of_methodNamed B.named
  have hA : ∀ q : Nat, s.heap.size ≤ q → va_A w0 s.heap.size q := fun q h => Or.inr h
  rw [lg_entry_eq]
  refine body p e s m below meth c _ _ ⟨B.exec, B.bytes, hml, hown2, atoms_spec (ws := ws) B.pre, hK, hA, hN⟩ hin (fun H locs pc ls w hw hP hD hS hd => ?_) _ (lv_entry as hlen) hP hD va_S.rf
  exact W.vret B.exec B.bytes B.returns (fun t ht hW => ⟨⟨w, rfl, hw, by rw [ht]; exact hP, va_K.moved hW.alike hK, hD⟩, hS.F ht⟩) hS.2.2 hd
end
section
variable {p : Program} {l : Launch} {e : Env} {R : Room} {s : State} {m : MethodId} {args : Array Value} {below : List Frame} {meth : Method} {c : Code} {H : Heap} {locs : List Loc} {cells slots : Nat} {Q : State → Prop} {pc : Nat} {ls : Array Slot} {rest st0 : List Value} {D : va_G} {cl : List vw_C} {tys : List (ClassId × FieldType)} {A : Nat → Prop} {ws w0 wr : va_W} {a : Array Value} {mc ms : Nat}
/-- a call over some of the cells (places isC), the others (places isR) stay -/
theorem kf_v {Post : va_W → Prop} (isC isR : List Nat) (hC : isC.map (fun i => ws[i]?) = w0.map some) (hR : isR.map (fun i => ws[i]?) = wr.map some) (hn : va_nd isR = true) (hdis : ∀ i ∈ isR, i ∉ isC)
    (hr : va_Run p l e R s m args below meth c H locs cells slots mc ms (F0 m pc ls st0) rest (va_Qv Post (WQ D cl tys w0 H.size) (va_A w0 H.size) a) (va_A w0 H.size)) (hP : va_P D cl ws H) (hD : va_D A ws) (hS : va_S A s.heap H locs) (hA : ∀ q : Nat, s.heap.size ≤ q → A q)
    (kk : ∀ (w : va_W) (H1 : Heap) (locs1 : List Loc), Post w → va_P D cl (wr ++ w) H1 → va_D A (wr ++ w) → va_S A s.heap H1 locs1 → W p l e R s m args below meth c H1 locs1 (cells + mc) (slots + ms) Q (F0 m (pc + 3) ls rest)) : W p l e R s m args below meth c H locs cells slots Q (F0 m pc ls st0) := by
  have hFc := va_free (wc := w0) hD hS hA isC hC
  refine va_callv hr hS (fun q _ h => hFc q h) hFc (fun u t H1 locs1 ht hvm hw hB hz hk hS1 => ?_)
  obtain ⟨hP1, hK1, hD1⟩ := hB
  rw [ht] at hP1
  obtain ⟨hP2, hD2⟩ := va_join (wr := wr) hP hD isC isR hC hR hn hdis hk hFc hP1 hD1
  exact kk u H1 locs1 hw hP2 hD2 hS1
end

/-- the cells of this side; rows: 6 found, 7 xs, 8 ys, 9 starts, 10 twins, 11 leaving, 12 marks, 13 pit, 14 rim, 15 edges, 16 spare, 17 ends, 18 corners; ints: 0 PlaneNet.closestLower, 1 PlaneNet.closestOther, 2 PlaneNet$Points.room, 3 PlaneNet$Points.size, 4 PlaneNet$Net.ghost, 5 PlaneNet$Net.mark, 6 PlaneNet$Net.all, 7 PlaneNet$Net.outer, 8 PlaneNet$Net.pitSize, 9 PlaneNet$Net.rimSize, 10 PlaneNet$Roll.fresh, 11 PlaneNet$Outline.size, 12 PlaneNet$Outline.fresh; longs: 0 PlaneNet.closestGap, 1 PlaneNet$Wide.high, 2 PlaneNet$Wide.low -/
def cw (cA : ClassId) (ob ad : Nat → Nat) (S : St) : va_W := [(ob 0, .inr (0, [.ref (ob 1), .ref (ob 3), .ref (ob 4), .ref (ob 5), .ref (ad 6), .long (gl S 0), .int (gi S 0), .int (gi S 1)])), (ob 1, .inr (1, [.int (gi S 2), .int (gi S 3), .ref (ad 7), .ref (ad 8), .ref (ob 2)])), (ob 2, .inr (2, [.long (gl S 1), .long (gl S 2)])), (ob 3, .inr (3, [.ref (ob 1), .int (gi S 4), .ref (ad 9), .ref (ad 10), .ref (ad 11), .ref (ad 12), .ref (ad 13), .ref (ad 14), .int (gi S 5), .int (gi S 6), .int (gi S 7), .int (gi S 8), .int (gi S 9)])), (ob 4, .inr (4, [.ref (ob 1), .ref (ob 3), .ref (ad 15), .ref (ad 16), .ref (ad 17), .int (gi S 10)])), (ob 5, .inr (5, [.ref (ob 1), .ref (ob 3), .ref (ad 18), .int (gi S 11), .int (gi S 12)])), (ad 6, .inl (cA, gn S 6, .inl (ga S 6))), (ad 7, .inl (cA, gn S 7, .inl (ga S 7))), (ad 8, .inl (cA, gn S 8, .inl (ga S 8))), (ad 9, .inl (cA, gn S 9, .inl (ga S 9))), (ad 10, .inl (cA, gn S 10, .inl (ga S 10))), (ad 11, .inl (cA, gn S 11, .inl (ga S 11))), (ad 12, .inl (cA, gn S 12, .inl (ga S 12))), (ad 13, .inl (cA, gn S 13, .inl (ga S 13))), (ad 14, .inl (cA, gn S 14, .inl (ga S 14))), (ad 15, .inl (cA, gn S 15, .inl (ga S 15))), (ad 16, .inl (cA, gn S 16, .inl (ga S 16))), (ad 17, .inl (cA, gn S 17, .inl (ga S 17))), (ad 18, .inl (cA, gn S 18, .inl (ga S 18)))]
abbrev isRowc (k : Nat) : Prop := 6 ≤ k ∧ k < 19
theorem cw_arr {cA : ClassId} {ob ad : Nat → Nat} (S : St) {k : Nat} (h : isRowc k) : (cw cA ob ad S)[k]? = some (ad k, .inl (cA, gn S k, .inl (ga S k))) := by
  rcases (show k = 6 ∨ k = 7 ∨ k = 8 ∨ k = 9 ∨ k = 10 ∨ k = 11 ∨ k = 12 ∨ k = 13 ∨ k = 14 ∨ k = 15 ∨ k = 16 ∨ k = 17 ∨ k = 18 by have := h.1; have := h.2; omega) with rfl | rfl | rfl | rfl | rfl | rfl | rfl | rfl | rfl | rfl | rfl | rfl | rfl <;> rfl
theorem cw_set {cA : ClassId} {ob ad : Nat → Nat} (S : St) (f : Nat → Int32) {k : Nat} (h : isRowc k) : (cw cA ob ad S).set k (ad k, .inl (cA, gn S k, .inl f)) = cw cA ob ad (seta S k f) := by
  rcases (show k = 6 ∨ k = 7 ∨ k = 8 ∨ k = 9 ∨ k = 10 ∨ k = 11 ∨ k = 12 ∨ k = 13 ∨ k = 14 ∨ k = 15 ∨ k = 16 ∨ k = 17 ∨ k = 18 by have := h.1; have := h.2; omega) with rfl | rfl | rfl | rfl | rfl | rfl | rfl | rfl | rfl | rfl | rfl | rfl | rfl <;> rfl
/-- the cells of this side; rows: 1 xs, 2 ys, 3 t0, 4 t1, 5 t2, 6 corner, 7 from, 8 to, 9 cell, 10 row, 11 located; ints: 0 PlaneNetModel.thrown, 1 PlaneNetModel.most, 2 PlaneNetModel.n, 3 PlaneNetModel.known, 4 PlaneNetModel.triangles, 5 PlaneNetModel.corners, 6 PlaneNetModel.sides, 7 PlaneNetModel.looked, 8 PlaneNetModel.celled, 9 PlaneNetModel.near; longs: 0 PlaneNetModel.d0, 1 PlaneNetModel.d1, 2 PlaneNetModel.d2, 3 PlaneNetModel.d3, 4 PlaneNetModel.d4 -/
def mw (cA : ClassId) (ob ad : Nat → Nat) (S : St) : va_W := [(ob 0, .inr (6, [.int (gi S 0), .int (gi S 1), .int (gi S 2), .ref (ad 1), .ref (ad 2), .int (gi S 3), .int (gi S 4), .ref (ad 3), .ref (ad 4), .ref (ad 5), .int (gi S 5), .ref (ad 6), .int (gi S 6), .int (gi S 7), .ref (ad 7), .ref (ad 8), .int (gi S 8), .ref (ad 9), .long (gl S 0), .long (gl S 1), .long (gl S 2), .long (gl S 3), .long (gl S 4), .int (gi S 9), .ref (ad 10), .ref (ad 11)])), (ad 1, .inl (cA, gn S 1, .inl (ga S 1))), (ad 2, .inl (cA, gn S 2, .inl (ga S 2))), (ad 3, .inl (cA, gn S 3, .inl (ga S 3))), (ad 4, .inl (cA, gn S 4, .inl (ga S 4))), (ad 5, .inl (cA, gn S 5, .inl (ga S 5))), (ad 6, .inl (cA, gn S 6, .inl (ga S 6))), (ad 7, .inl (cA, gn S 7, .inl (ga S 7))), (ad 8, .inl (cA, gn S 8, .inl (ga S 8))), (ad 9, .inl (cA, gn S 9, .inl (ga S 9))), (ad 10, .inl (cA, gn S 10, .inl (ga S 10))), (ad 11, .inl (cA, gn S 11, .inl (ga S 11)))]
abbrev isRowm (k : Nat) : Prop := 1 ≤ k ∧ k < 12
theorem mw_arr {cA : ClassId} {ob ad : Nat → Nat} (S : St) {k : Nat} (h : isRowm k) : (mw cA ob ad S)[k]? = some (ad k, .inl (cA, gn S k, .inl (ga S k))) := by
  rcases (show k = 1 ∨ k = 2 ∨ k = 3 ∨ k = 4 ∨ k = 5 ∨ k = 6 ∨ k = 7 ∨ k = 8 ∨ k = 9 ∨ k = 10 ∨ k = 11 by have := h.1; have := h.2; omega) with rfl | rfl | rfl | rfl | rfl | rfl | rfl | rfl | rfl | rfl | rfl <;> rfl
theorem mw_set {cA : ClassId} {ob ad : Nat → Nat} (S : St) (f : Nat → Int32) {k : Nat} (h : isRowm k) : (mw cA ob ad S).set k (ad k, .inl (cA, gn S k, .inl f)) = mw cA ob ad (seta S k f) := by
  rcases (show k = 1 ∨ k = 2 ∨ k = 3 ∨ k = 4 ∨ k = 5 ∨ k = 6 ∨ k = 7 ∨ k = 8 ∨ k = 9 ∨ k = 10 ∨ k = 11 by have := h.1; have := h.2; omega) with rfl | rfl | rfl | rfl | rfl | rfl | rfl | rfl | rfl | rfl | rfl <;> rfl
