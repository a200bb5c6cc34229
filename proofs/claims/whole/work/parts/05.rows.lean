/-! ROWS: a Row is a row of pages; what its four methods do, over the whole world. -/
section
variable {p : Program} {l : Launch} {e : Env} {R : Room} {s : State} {m : MethodId} {args : Array Value} {below : List Frame} {meth : Method} {c : Code} {H : Heap} {locs : List Loc} {cells slots : Nat} {Q : State → Prop}
variable {cc : ByteArray} {pc : Nat} {ls : Array Slot} {rest : List Value} {D : va_G} {cl : List vw_C} {A : Nat → Prop} {a : Nat} {cA cP : ClassId} {ws : va_W} {H0 : Heap}
theorem rw_cls (hN : NW s) (hK : va_K D cl (TY cA cP) s) : ∃ kP kA : Class, s.vm.classes[cP]? = some kP ∧ kP.kind = .array cA (.array .int) ∧ s.vm.classes[cA]? = some kA := by
  have hw : va_Nw (.arrayOver (.array .int)) s := hN.2.2
  obtain ⟨comp, c, k, h1, h2, h3, h4, h5⟩ := arrayOverA_spec hw
  have r0 := (hK.2 0 (cA, .int) rfl).2
  have r1 := (hK.2 1 (cP, .array .int) rfl).2
  have e0 : comp = cA := Option.some.inj (h1.symm.trans r0)
  have e1 : c = cP := Option.some.inj (h5.symm.trans r1)
  subst e0 e1
  obtain ⟨-, kA, hkA, -⟩ := (hK.2 0 (comp, .int) rfl).1 0 (fun _ => .int 0)
  exact ⟨k, kA, h3, h4, hkA⟩
theorem va_ald2 (hexec : p.tables.exec = Jvm.exec) (hb : c.code = cc) (hK : va_K D cl (TY cA cP) s) (hP : va_P D cl ws H) (q0 : Nat) {n : Nat} {f : Nat → Option Nat} (ha : ws[q0]? = some (a, .inl (cP, n, .inr (.inr (.inr (.inr f)))))) {i : Int32} (hin : vp_in i n) (hdg : decode cc pc = .ok (.aaload, 1))
    (kk : W p l e R s m args below meth c H locs cells slots Q (F0 m (pc + 1) ls (va_rf (f i.toNatClampNeg) :: rest))) : W p l e R s m args below meth c H locs cells slots Q (F0 m pc ls (.int i :: .ref a :: rest)) := by
  have hlt : i.toNatClampNeg < n := Nat.not_le.mp fun q => hin (Or.inr q)
  exact W.aald (v := va_rf (f i.toNatClampNeg)) (ty := .array .int) hexec hb (hP q0 _ ha) ((hK.2 1 _ rfl).1 n (fun j => va_rf (f j))) rfl (fun q => by cases q) (by show ¬ (i < 0 ∨ (arrV _ _ _).slots.size ≤ _); rw [arrV_size]; exact hin) (by show (arrV _ _ _).slots[_]? = _; rw [arrV_read _ _ hlt]) rfl rfl hdg kk
theorem va_ast2 (hexec : p.tables.exec = Jvm.exec) (hb : c.code = cc) (hN : NW s) (hK : va_K D cl (TY cA cP) s) (hP : va_P D cl ws H) (hD : va_D A ws) (hS : va_S A H0 H locs) (q0 qk : Nat) {n v : Nat} {x : vp_A} {f : Nat → Option Nat} (ha : ws[q0]? = some (a, .inl (cP, n, .inr (.inr (.inr (.inr f)))))) (hv : ws[qk]? = some (v, .inl (cA, x))) {i : Int32} (hin : vp_in i n) (hdg : decode cc pc = .ok (.aastore, 1))
    (kk : ∀ (H1 : Heap) (locs1 : List Loc), va_P D cl (ws.set q0 (a, .inl (cP, n, .inr (.inr (.inr (.inr (va_up f i.toNatClampNeg (some v)))))))) H1 → va_D A (ws.set q0 (a, .inl (cP, n, .inr (.inr (.inr (.inr (va_up f i.toNatClampNeg (some v)))))))) → va_S A H0 H1 locs1 → W p l e R s m args below meth c H1 locs1 cells slots Q (F0 m (pc + 1) ls rest)) : W p l e R s m args below meth c H locs cells slots Q (F0 m pc ls (.ref v :: .int i :: .ref a :: rest)) := by
  have hlt : i.toNatClampNeg < n := Nat.not_le.mp fun q => hin (Or.inr q)
  have h0 : ¬ i < 0 := fun q => hin (Or.inl q)
  obtain ⟨kP, kA, k1, k2, k3⟩ := rw_cls hN hK
  have hcv : H[v]? = some (vp_cell cA x) := hP qk _ hv
  have hcls : (vp_cell cA x).cls = cA := by obtain ⟨n', f | f | f | f | f⟩ := x <;> rfl
  have hvm : (vp_cell cA x).vm = .none := by obtain ⟨n', f | f | f | f | f⟩ := x <;> rfl
  refine W.aast hexec hb (hP q0 _ ha) (fun q h => by cases h) (fun h => by cases h) k1 k2 rfl k3 ⟨h0, by show _ < (arrV _ _ _).slots.size; rw [arrV_size]; exact hlt⟩ hcv (fun q h => by rw [hvm] at h; cases h) (by rw [hcls]; exact k3) (by rw [hcls, Vm.assignable, Vm.assignableAux, beq_self_eq_true, Bool.true_or]) rfl rfl hdg fun H1 e z oq => ?_
  refine kk H1 _ (hP.set hD ha ?_ oq) (hD.set ha) (hS.put z oq (hD.2 q0 _ ha))
  show H1[a]? = some (vp_cell _ _)
  rw [e]
  rw [vp_cell_q, vp_cell_q, arrV_store]
  congr 2
  funext q
  by_cases hq : q = i.toNatClampNeg
  · subst hq
    simp [updV, va_up, va_rf]
  · simp [updV, va_up, hq]
theorem va_new2 (hexec : p.tables.exec = Jvm.exec) (hb : c.code = cc) {own : String} {index : Nat} (hown : s.vm.findClass own = some m.cls) (hclink : (Cond.classLink own index (FieldType.array .int).toString).before args s = true) (hN : NW s) (hK : va_K D cl (TY cA cP) s) (hP : va_P D cl ws H) (hD : va_D A ws) (hS : va_S A H0 H locs) (hA : ∀ q, H0.size ≤ q → A q)
    {n : Int32} {N' : Nat} (hn : ¬ n < 0) (hN' : n.toNatClampNeg = N') (hbytes : N' * 4 ≤ 536870912) (hcells : cells + 1 ≤ R.cells) (hslots : slots + N' ≤ R.slots) (hdg : decode cc pc = .ok (.anewarray index, 3))
    (kk : ∀ (q : Nat) (H1 : Heap), va_P D cl (ws ++ [(q, .inl (cP, N', .inr (.inr (.inr (.inr (fun _ => none))))))]) H1 → va_D A (ws ++ [(q, .inl (cP, N', .inr (.inr (.inr (.inr (fun _ => none))))))]) → va_S A H0 H1 locs →
      W p l e R s m args below meth c H1 locs (cells + 1) (slots + N') Q (F0 m (pc + 3) ls (.ref q :: rest))) : W p l e R s m args below meth c H locs cells slots Q (F0 m pc ls (.int n :: rest)) := by
  subst hN'
  have hw : va_Nw (.arrayOver (.array .int)) s := hN.2.2
  refine W.anewA (t := .int) hexec hb hown hclink hw rfl hdg rfl hn hbytes hcells hslots fun cB kA comp f1 f2 f3 f4 => ?_
  have r1 := (hK.2 1 (cP, .array .int) rfl).2
  obtain rfl : cB = cP := Option.some.inj (f1.symm.trans r1)
  generalize hH1 : H.push ({ cls := cB, slots := Array.replicate n.toNatClampNeg .null, vm := .none } : Cell) = H1
  have z1 : H1.size = H.size + 1 := by rw [← hH1, Array.size_push]
  have e1 : H1[H.size]? = some (arrV cB n.toNatClampNeg (fun _ => .null)) := by rw [← hH1, Array.getElem?_push_size, ← arrV_new]
  have o1 : ∀ q : Nat, q < H.size → H1[q]? = H[q]? := fun q hq => by rw [← hH1, Array.getElem?_push_lt hq]; simp [hq]
  refine kk H.size H1 ((hP.kept (fun k x hx => o1 x.1 ((hP k x hx).lt))).app (fun k x hx => ?_)) (hD.push hP rfl (hA _ hS.1)) ⟨Nat.le_trans hS.1 (by omega), fun x h1 h2 => (o1 x (Nat.lt_of_lt_of_le h1 hS.1)).trans (hS.2.1 x h1 h2), hS.2.2⟩
  have hz : k < 1 := (List.getElem?_eq_some_iff.mp hx).1
  rw [show k = 0 by omega] at hx
  cases hx
  show H1[H.size]? = some (vp_cell _ _)
  rw [vp_cell_q]
  exact e1
end
/-! worlds as sets of cells -/
theorem P_mem {D : va_G} {cl : List vw_C} {ws : va_W} {H : Heap} : va_P D cl ws H ↔ ∀ q ∈ ws, va_at D cl q H := by
  constructor
  · intro h q hq
    obtain ⟨k, hk⟩ := List.getElem?_of_mem hq
    exact h k q hk
  · intro h k q hk
    exact h q (List.mem_of_getElem? hk)
abbrev WD (ws : va_W) : Prop := ws.Pairwise (fun x y => x.1 ≠ y.1)
theorem D_mem {A : Nat → Prop} {ws : va_W} : va_D A ws ↔ WD ws ∧ ∀ q ∈ ws, A q.1 := by
  constructor
  · intro h
    refine ⟨List.pairwise_iff_getElem.mpr (fun i j hi hj hij e => ?_), fun q hq => ?_⟩
    · have := h.1 i j _ _ (List.getElem?_eq_getElem hi) (List.getElem?_eq_getElem hj) e
      omega
    · obtain ⟨k, hk⟩ := List.getElem?_of_mem hq
      exact h.2 k q hk
  · intro h
    refine ⟨fun i j x y hx hy e => ?_, fun k q hk => h.2 q (List.mem_of_getElem? hk)⟩
    obtain ⟨hi, rfl⟩ := List.getElem?_eq_some_iff.mp hx
    obtain ⟨hj, rfl⟩ := List.getElem?_eq_some_iff.mp hy
    have hp := List.pairwise_iff_getElem.mp h.1
    rcases Nat.lt_trichotomy i j with q | q | q
    · exact absurd e (hp i j hi hj q)
    · exact q
    · exact absurd e.symm (hp j i hj hi q)
theorem P_perm {D : va_G} {cl : List vw_C} {ws ws' : va_W} {H : Heap} (h : ws.Perm ws') (hP : va_P D cl ws H) : va_P D cl ws' H := P_mem.mpr fun q hq => P_mem.mp hP q (h.mem_iff.mpr hq)
theorem D_perm {A : Nat → Prop} {ws ws' : va_W} (h : ws.Perm ws') (hD : va_D A ws) : va_D A ws' := by
  rw [D_mem] at hD ⊢
  exact ⟨(h.pairwise_iff (fun h => Ne.symm h)).mp hD.1, fun q hq => hD.2 q (h.mem_iff.mpr hq)⟩
theorem D_map {A : Nat → Prop} {ws ws' : va_W} (h : ws.map Prod.fst = ws'.map Prod.fst) (hD : va_D A ws) : va_D A ws' := by
  rw [D_mem] at hD ⊢
  have e : ∀ w : va_W, WD w ↔ (w.map Prod.fst).Pairwise (· ≠ ·) := fun w => List.pairwise_map.symm
  refine ⟨(e ws').mpr (h ▸ (e ws).mp hD.1), fun q hq => ?_⟩
  have hq' : q.1 ∈ ws.map Prod.fst := by rw [h]; exact List.mem_map_of_mem hq
  obtain ⟨q2, h2, h3⟩ := List.mem_map.mp hq'
  rw [← h3]
  exact hD.2 q2 h2
theorem P_set {D : va_G} {cl : List vw_C} {A : Nat → Prop} {ws ws' : va_W} {H : Heap} {i a : Nat} {e0 e : va_E} (hD : va_D A ws) (hp : ws[i]? = some (a, e0)) (hP : va_P D cl (ws.set i (a, e)) H) (h : ∀ q ∈ ws', q = (a, e) ∨ (q ∈ ws ∧ q.1 ≠ a)) : va_P D cl ws' H := by
  refine P_mem.mpr fun q hq => ?_
  have hlt := (List.getElem?_eq_some_iff.mp hp).1
  rcases h q hq with rfl | ⟨h1, h2⟩
  · exact hP i _ (by rw [List.getElem?_set_self hlt])
  · obtain ⟨j, hj⟩ := List.getElem?_of_mem h1
    have hne : i ≠ j := fun e => by
      subst e
      rw [hp] at hj
      exact h2 (congrArg Prod.fst (Option.some.inj hj)).symm
    exact hP j q (by rw [List.getElem?_set_ne hne]; exact hj)
/-! the pages -/
theorem blt_t {x n : Nat} (h : x < n) : Nat.blt x n = true := by rw [Nat.blt_eq]; exact h
theorem blt_f {x n : Nat} (h : ¬ x < n) : Nat.blt x n = false := by
  cases e : Nat.blt x n with
  | false => rfl
  | true => rw [Nat.blt_eq] at e; exact absurd e h
def pg (f : Nat → Int32) (j : Nat) : Nat → Int32 := fun x => cond (Nat.blt x 32) (f (32 * j + x)) 0
theorem dy_flat (cA : ClassId) (ad : Nat → Nat → Nat) (n : Nat → Nat) (f : Nat → Nat → Int32) : dy cA ad n f = (List.range' 6 12).flatMap (fun k => pgs cA (ad k) (n k) (f k)) := by
  rw [show List.range' 6 12 = rowsL from rfl]
  simp [dy, List.flatMap_cons]
theorem mem_pgs {cA : ClassId} {a : Nat → Nat} {n : Nat} {f : Nat → Int32} {q : Nat × va_E} : q ∈ pgs cA a n f ↔ ∃ j, j < n ∧ q = (a j, .inl (cA, 32, .inl (pg f j))) := by
  unfold pgs
  rw [List.mem_map]
  constructor
  · rintro ⟨j, hj, rfl⟩
    exact ⟨j, List.mem_range.mp hj, rfl⟩
  · rintro ⟨j, hj, rfl⟩
    exact ⟨j, List.mem_range.mpr hj, rfl⟩
theorem mem_dy {cA : ClassId} {ad : Nat → Nat → Nat} {n : Nat → Nat} {f : Nat → Nat → Int32} {q : Nat × va_E} : q ∈ dy cA ad n f ↔ ∃ k, isRow k ∧ ∃ j, j < n k ∧ q = (ad k j, .inl (cA, 32, .inl (pg (f k) j))) := by
  rw [dy_flat, List.mem_flatMap]
  constructor
  · rintro ⟨k, hk, h⟩
    have := List.mem_range'_1.mp hk
    exact ⟨k, ⟨this.1, by omega⟩, mem_pgs.mp h⟩
  · rintro ⟨k, hk, h⟩
    exact ⟨k, List.mem_range'_1.mpr ⟨hk.1, by have := hk.2; omega⟩, mem_pgs.mpr h⟩
theorem ad_inj {cA : ClassId} {ad : Nat → Nat → Nat} {n : Nat → Nat} {f : Nat → Nat → Int32} (hD : WD (dy cA ad n f)) {k k' j j' : Nat} (hk : isRow k) (hk' : isRow k') (hj : j < n k) (hj' : j' < n k') (e : ad k j = ad k' j') : k = k' ∧ j = j' := by
  rw [dy_flat] at hD
  have h2 := List.pairwise_flatMap.mp hD
  have hm : ∀ {k j}, isRow k → j < n k → (ad k j, (.inl (cA, 32, .inl (pg (f k) j)) : va_E)) ∈ pgs cA (ad k) (n k) (f k) := fun hk hj => mem_pgs.mpr ⟨_, hj, rfl⟩
  have hx : ∀ {k k' j j' : Nat}, isRow k → isRow k' → j < n k → j' < n k' → k < k' → ad k j ≠ ad k' j' := by
    intro k k' j j' hk hk' hj hj' hlt
    have h3 := List.pairwise_iff_getElem.mp h2.2 (k - 6) (k' - 6) (by have := hk.2; simp; omega) (by have := hk'.2; simp; omega) (by have := hk.1; omega)
    rw [List.getElem_range', List.getElem_range', show 6 + 1 * (k - 6) = k by have := hk.1; omega, show 6 + 1 * (k' - 6) = k' by have := hk'.1; omega] at h3
    exact h3 _ (hm hk hj) _ (hm hk' hj')
  rcases Nat.lt_trichotomy k k' with q | q | q
  · exact absurd e (hx hk hk' hj hj' q)
  · subst q
    refine ⟨rfl, ?_⟩
    have h4 := h2.1 k (List.mem_range'_1.mpr ⟨hk.1, by have := hk.2; omega⟩)
    unfold pgs at h4
    rw [List.pairwise_map] at h4
    have h5 := List.pairwise_iff_getElem.mp h4
    rcases Nat.lt_trichotomy j j' with w | w | w
    · have := h5 j j' (by simpa using hj) (by simpa using hj') w
      simp only [List.getElem_range] at this
      exact absurd e this
    · exact w
    · have := h5 j' j (by simpa using hj') (by simpa using hj) w
      simp only [List.getElem_range] at this
      exact absurd e.symm this
  · exact absurd e.symm (hx hk' hk hj' hj q)
section
variable {cA cP : ClassId} {ob : Nat → Nat} {ad : Nat → Nat → Nat} {S : St} {k : Nat} {A : Nat → Prop} {D : va_G} {H : Heap}
theorem cw_page (S : St) (hk : isRow k) {j : Nat} (hj : j < gn S k) : ∃ i : Nat, (cw cA cP ob ad S)[i]? = some (ad k j, .inl (cA, 32, .inl (pg (ga S k) j))) :=
  List.getElem?_of_mem (List.mem_append_right _ (mem_dy.mpr ⟨k, hk, j, hj, rfl⟩))
theorem cwF_seta (hk : isRow k) (f : Nat → Int32) : cwF cA cP ob ad (seta S k f) = cwF cA cP ob ad S := by
  rcases (show k = 6 ∨ k = 7 ∨ k = 8 ∨ k = 9 ∨ k = 10 ∨ k = 11 ∨ k = 12 ∨ k = 13 ∨ k = 14 ∨ k = 15 ∨ k = 16 ∨ k = 17 by have := hk.1; have := hk.2; omega) with rfl | rfl | rfl | rfl | rfl | rfl | rfl | rfl | rfl | rfl | rfl | rfl <;> rfl
theorem up1_same {α : Type} (f : Nat → α) (k : Nat) (v : α) : up1 f k v k = v := by simp [up1, Nat.beq_refl]
theorem up1_ne {α : Type} (f : Nat → α) {k j : Nat} (v : α) (h : j ≠ k) : up1 f k v j = f j := by
  have : Nat.beq j k = false := by
    cases e : Nat.beq j k with
    | false => rfl
    | true => exact absurd (Nat.eq_of_beq_eq_true e) h
  simp [up1, this]
theorem dy_fst (cA : ClassId) (ad : Nat → Nat → Nat) (n : Nat → Nat) (f g : Nat → Nat → Int32) : (dy cA ad n f).map Prod.fst = (dy cA ad n g).map Prod.fst := by
  simp [dy, pgs, Function.comp_def]
theorem cw_put (hk : isRow k) {j x : Nat} (hj : j < gn S k) (hx : x < 32) (v : Int32) {i : Nat} (hD : va_D A (cw cA cP ob ad S)) (hi : (cw cA cP ob ad S)[i]? = some (ad k j, .inl (cA, 32, .inl (pg (ga S k) j))))
    (hP : va_P D clC ((cw cA cP ob ad S).set i (ad k j, .inl (cA, 32, .inl (upd (pg (ga S k) j) x v)))) H) :
    va_P D clC (cw cA cP ob ad (seta S k (upd (ga S k) (32 * j + x) v))) H ∧ va_D A (cw cA cP ob ad (seta S k (upd (ga S k) (32 * j + x) v))) := by
  constructor
  · refine P_set hD hi hP fun q hq => ?_
    have hW := (D_mem.mp hD).1
    have hWx := List.pairwise_append.mp hW
    rcases List.mem_append.mp hq with h | h
    · rw [cwF_seta hk] at h
      exact Or.inr ⟨List.mem_append_left _ h, hWx.2.2 q h (ad k j, .inl (cA, 32, .inl (pg (ga S k) j))) (mem_dy.mpr ⟨k, hk, j, hj, rfl⟩)⟩
    · obtain ⟨k', hk', j', hj', rfl⟩ := mem_dy.mp h
      have hj2 : j' < gn S k' := hj'
      by_cases hkk : k' = k
      · subst hkk
        by_cases hjj : j' = j
        · subst hjj
          left
          have : pg (up1 S.2.2.2 k' (upd (ga S k') (32 * j' + x) v) k') j' = upd (pg (ga S k') j') x v := by
            rw [up1_same]
            funext y
            simp only [pg, upd]
            by_cases hy : y = x
            · subst hy
              simp [blt_t hx]
            · rw [if_neg hy, if_neg (by omega)]
          exact congrArg (fun z => (ad k' j', (.inl (cA, 32, .inl z) : va_E))) this
        · right
          have : pg (up1 S.2.2.2 k' (upd (ga S k') (32 * j + x) v) k') j' = pg (ga S k') j' := by
            rw [up1_same]
            funext y
            simp only [pg, upd]
            by_cases hy : y < 32
            · rw [if_neg (by omega)]
            · have : Nat.blt y 32 = false := blt_f hy
              simp [this]
          refine ⟨List.mem_append_right _ (mem_dy.mpr ⟨k', hk', j', hj2, ?_⟩), fun e => hjj (ad_inj hWx.2.1 hk' hk' hj2 hj e).2⟩
          exact congrArg (fun z => (ad k' j', (.inl (cA, 32, .inl z) : va_E))) this
      · right
        have : up1 S.2.2.2 k (upd (ga S k) (32 * j + x) v) k' = ga S k' := up1_ne _ _ hkk
        refine ⟨List.mem_append_right _ (mem_dy.mpr ⟨k', hk', j', hj2, ?_⟩), fun e => hkk (ad_inj hWx.2.1 hk' hk hj2 hj e).1⟩
        exact congrArg (fun z => (ad k' j', (.inl (cA, 32, .inl (pg z j')) : va_E))) this
  · refine D_map ?_ hD
    unfold cw
    rw [List.map_append, List.map_append, cwF_seta hk]
    exact congrArg _ (dy_fst _ _ _ _ _)
def newp (f : Nat → Int32) (m : Nat) : Nat → Int32 := fun x => cond (Nat.beq (x / 32) m) 0 (f x)
/-- a page more -/
def grow (S : St) (k : Nat) : St := (S.1, S.2.1, up1 S.2.2.1 k (gn S k + 1), up1 S.2.2.2 k (newp (ga S k) (gn S k)))
theorem perm_flat {α : Type} {g g' : Nat → List α} {x : α} {k : Nat} : ∀ (l : List Nat), l.Nodup → k ∈ l → (∀ i ∈ l, i ≠ k → g' i = g i) → g' k = g k ++ [x] → (l.flatMap g').Perm (l.flatMap g ++ [x])
  | [], _, hk, _, _ => absurd hk List.not_mem_nil
  | a :: l, hn, hk, ho, he => by
    have hn' := List.nodup_cons.mp hn
    rw [List.flatMap_cons, List.flatMap_cons]
    by_cases hak : k = a
    · subst hak
      have hr : l.flatMap g' = l.flatMap g := by
        have : ∀ i ∈ l, g' i = g i := fun i hi => ho i (List.mem_cons_of_mem _ hi) (fun e => hn'.1 (e ▸ hi))
        simp only [List.flatMap_def]
        rw [List.map_congr_left this]
      rw [hr, he, List.append_assoc, List.append_assoc]
      exact (List.perm_append_comm).append_left _
    · have hkl : k ∈ l := (List.mem_cons.mp hk).resolve_left hak
      rw [ho a List.mem_cons_self (fun e => hak e.symm), List.append_assoc]
      exact (perm_flat l hn'.2 hkl (fun i hi => ho i (List.mem_cons_of_mem _ hi)) he).append_left _
theorem dy_grow (hk : isRow k) (q : Nat) : (dy cA (up1 ad k (up1 (ad k) (gn S k) q)) (grow S k).2.2.1 (grow S k).2.2.2).Perm (dy cA ad S.2.2.1 S.2.2.2 ++ [(q, .inl (cA, 32, .inl (fun _ => 0)))]) := by
  rw [dy_flat, dy_flat]
  refine perm_flat (k := k) (List.range' 6 12) (by decide) (List.mem_range'_1.mpr ⟨hk.1, by have := hk.2; omega⟩) (fun i _ hi => ?_) ?_
  · show pgs cA (up1 ad k _ i) (up1 S.2.2.1 k _ i) (up1 S.2.2.2 k _ i) = _
    rw [up1_ne _ _ hi, up1_ne _ _ hi, up1_ne _ _ hi]
  · show pgs cA (up1 ad k _ k) (up1 S.2.2.1 k _ k) (up1 S.2.2.2 k _ k) = _
    rw [up1_same, up1_same, up1_same]
    unfold pgs
    rw [List.range_succ, List.map_append]
    refine congr (congrArg _ (List.map_congr_left fun j hj => ?_)) ?_
    · have hj' : j < gn S k := List.mem_range.mp hj
      show (up1 (ad k) (gn S k) q j, _) = (ad k j, _)
      rw [up1_ne _ _ (Nat.ne_of_lt hj')]
      have : (fun x => cond (Nat.blt x 32) (newp (ga S k) (gn S k) (32 * j + x)) 0) = (fun x => cond (Nat.blt x 32) (ga S k (32 * j + x)) 0) := by
        funext x
        by_cases hx : x < 32
        · have h1 : Nat.beq ((32 * j + x) / 32) (gn S k) = false := by
            rw [show (32 * j + x) / 32 = j by omega]
            cases e : Nat.beq j (gn S k) with
            | false => rfl
            | true => have := Nat.eq_of_beq_eq_true e; omega
          simp [newp, h1]
        · have : Nat.blt x 32 = false := blt_f hx
          simp [this]
      rw [this]
    · show [(up1 (ad k) (gn S k) q (gn S k), _)] = [(q, _)]
      rw [up1_same]
      have : (fun x => cond (Nat.blt x 32) (newp (ga S k) (gn S k) (32 * gn S k + x)) 0) = (fun _ => (0 : Int32)) := by
        funext x
        by_cases hx : x < 32
        · have h1 : Nat.beq ((32 * gn S k + x) / 32) (gn S k) = true := by
            rw [show (32 * gn S k + x) / 32 = gn S k by omega]
            exact Nat.beq_refl _
          simp [newp, h1]
        · have : Nat.blt x 32 = false := blt_f hx
          simp [this]
      rw [this]
theorem refs_grow (a : Nat → Nat) (n q : Nat) : va_up (fun j => cond (Nat.blt j n) (some (a j)) none) n (some q) = (fun j => cond (Nat.blt j (n + 1)) (some (up1 a n q j)) none) := by
  funext j
  by_cases h : j = n
  · subst h
    have : Nat.blt j (j + 1) = true := blt_t (Nat.lt_succ_self j)
    rw [this]
    simp [va_up, up1_same]
  · rw [va_up_ne _ _ h, up1_ne _ _ h]
    by_cases h2 : j < n
    · have h3 : Nat.blt j n = true := blt_t h2
      have h4 : Nat.blt j (n + 1) = true := blt_t (by omega)
      rw [h3, h4]
    · have h3 : Nat.blt j n = false := blt_f h2
      have h4 : Nat.blt j (n + 1) = false := blt_f (by omega)
      rw [h3, h4]
theorem cw_grow1 (hk : isRow k) (q : Nat) (z : Nat × va_E) : ((cw cA cP ob ad S ++ [z]).set (k + nRow) (ob (k + nRow), .inl (cP, gn S (k + nRow), .inr (.inr (.inr (.inr (fun j => cond (Nat.blt j (gn S k + 1)) (some (up1 (ad k) (gn S k) q j)) none))))))).set k (ob k, .inr (6, [.ref (ob (k + nRow)), .int (nI (gn S k + 1))])) = cwF cA cP ob (up1 ad k (up1 (ad k) (gn S k) q)) (grow S k) ++ (dy cA ad S.2.2.1 S.2.2.2 ++ [z]) := by
  rcases (show k = 6 ∨ k = 7 ∨ k = 8 ∨ k = 9 ∨ k = 10 ∨ k = 11 ∨ k = 12 ∨ k = 13 ∨ k = 14 ∨ k = 15 ∨ k = 16 ∨ k = 17 by have := hk.1; have := hk.2; omega) with rfl | rfl | rfl | rfl | rfl | rfl | rfl | rfl | rfl | rfl | rfl | rfl <;> rfl
end

