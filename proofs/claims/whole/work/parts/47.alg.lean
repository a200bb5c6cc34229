/-! ALGEBRA: four numbers each; the determinant of four of them -/
abbrev V4 : Type := Int × Int × Int × Int
def vx (a : V4) : Int := a.1
def vy (a : V4) : Int := a.2.1
def vz (a : V4) : Int := a.2.2.1
def vw (a : V4) : Int := a.2.2.2
def om (l0 l1 l2 l3 l4 l5 : Int) (c d : V4) : Int := l0 * (vz c * vw d - vw c * vz d) - l1 * (vy c * vw d - vw c * vy d) + l2 * (vy c * vz d - vz c * vy d) + l3 * (vx c * vw d - vw c * vx d) - l4 * (vx c * vz d - vz c * vx d) + l5 * (vx c * vy d - vy c * vx d)
def vV (a b c d : V4) : Int := om (vx a * vy b - vy a * vx b) (vx a * vz b - vz a * vx b) (vx a * vw b - vw a * vx b) (vy a * vz b - vz a * vy b) (vy a * vw b - vw a * vy b) (vz a * vw b - vw a * vz b) c d
theorem vV_12 (a b c d : V4) : vV b a c d = - vV a b c d := by unfold vV om; grind
theorem vV_34 (a b c d : V4) : vV a b d c = - vV a b c d := by unfold vV om; grind
theorem vV_rot (a b c d : V4) : vV b c a d = vV a b c d := by unfold vV om; grind
theorem vV_23 (a b c d : V4) : vV a c b d = - vV a b c d := by unfold vV om; grind
set_option maxHeartbeats 1000000 in
theorem om_GP (l0 l1 l2 l3 l4 l5 : Int) (c d p o : V4) : om l0 l1 l2 l3 l4 l5 c p * om l0 l1 l2 l3 l4 l5 d o - om l0 l1 l2 l3 l4 l5 c o * om l0 l1 l2 l3 l4 l5 d p - om l0 l1 l2 l3 l4 l5 c d * om l0 l1 l2 l3 l4 l5 p o = -((l0 * l5 - l1 * l4 + l2 * l3) * vV c d p o) := by
  unfold vV om
  grind (ringSteps := 100000)
/-- the three-term relation over a and b -/
theorem vV_GP (a b c d p o : V4) : vV a b c p * vV a b d o - vV a b c o * vV a b d p = vV a b c d * vV a b p o := by
  have h := om_GP (vx a * vy b - vy a * vx b) (vx a * vz b - vz a * vx b) (vx a * vw b - vw a * vx b) (vy a * vz b - vz a * vy b) (vy a * vw b - vw a * vy b) (vz a * vw b - vw a * vz b) c d p o
  have z : (vx a * vy b - vy a * vx b) * (vz a * vw b - vw a * vz b) - (vx a * vz b - vz a * vx b) * (vy a * vw b - vw a * vy b) + (vx a * vw b - vw a * vx b) * (vy a * vz b - vz a * vy b) = 0 := by grind
  rw [z, Int.zero_mul] at h
  have e : ∀ c d, om (vx a * vy b - vy a * vx b) (vx a * vz b - vz a * vx b) (vx a * vw b - vw a * vx b) (vy a * vz b - vz a * vy b) (vy a * vw b - vw a * vy b) (vz a * vw b - vw a * vz b) c d = vV a b c d := fun _ _ => rfl
  simp only [e] at h
  omega
/-- linear forms -/
def ap (f : V4) (v : V4) : Int := vx f * vx v + vy f * vy v + vz f * vz v + vw f * vw v
set_option maxHeartbeats 4000000 in
theorem cramx (a b c p o : V4) : vV b c p o * vx a - vV a c p o * vx b + vV a b p o * vx c - vV a b c o * vx p + vV a b c p * vx o = 0 := by
  unfold vV om
  grind (ringSteps := 100000)
set_option maxHeartbeats 4000000 in
theorem cramy (a b c p o : V4) : vV b c p o * vy a - vV a c p o * vy b + vV a b p o * vy c - vV a b c o * vy p + vV a b c p * vy o = 0 := by
  unfold vV om
  grind (ringSteps := 100000)
set_option maxHeartbeats 4000000 in
theorem cramz (a b c p o : V4) : vV b c p o * vz a - vV a c p o * vz b + vV a b p o * vz c - vV a b c o * vz p + vV a b c p * vz o = 0 := by
  unfold vV om
  grind (ringSteps := 100000)
set_option maxHeartbeats 4000000 in
theorem cramw (a b c p o : V4) : vV b c p o * vw a - vV a c p o * vw b + vV a b p o * vw c - vV a b c o * vw p + vV a b c p * vw o = 0 := by
  unfold vV om
  grind (ringSteps := 100000)
/-- five vectors hang together: seen through a linear form -/
theorem cram (f a b c p o : V4) : vV b c p o * ap f a - vV a c p o * ap f b + vV a b p o * ap f c - vV a b c o * ap f p + vV a b c p * ap f o = 0 := by
  have h1 := congrArg (fun z => vx f * z) (cramx a b c p o)
  have h2 := congrArg (fun z => vy f * z) (cramy a b c p o)
  have h3 := congrArg (fun z => vz f * z) (cramz a b c p o)
  have h4 := congrArg (fun z => vw f * z) (cramw a b c p o)
  unfold ap
  generalize vV b c p o = v1 at *
  generalize vV a c p o = v2 at *
  generalize vV a b p o = v3 at *
  generalize vV a b c o = v4 at *
  generalize vV a b c p = v5 at *
  grind
/-- three vectors give a linear form -/
def frm (a b c : V4) : V4 := (vV a b c (1, 0, 0, 0), vV a b c (0, 1, 0, 0), vV a b c (0, 0, 1, 0), vV a b c (0, 0, 0, 1))
theorem frm_ap (a b c d : V4) : ap (frm a b c) d = vV a b c d := by
  unfold ap frm vV om vx vy vz vw
  dsimp only
  grind
def vadd (a b : V4) : V4 := (vx a + vx b, vy a + vy b, vz a + vz b, vw a + vw b)
def vmul (k : Int) (a : V4) : V4 := (k * vx a, k * vy a, k * vz a, k * vw a)
theorem ap_add (f a b : V4) : ap f (vadd a b) = ap f a + ap f b := by unfold ap vadd vx vy vz vw; dsimp only; grind
theorem ap_mul (f : V4) (k : Int) (a : V4) : ap f (vmul k a) = k * ap f a := by unfold ap vmul vx vy vz vw; dsimp only; grind
theorem vV_add (a b c d e : V4) : vV a b c (vadd d e) = vV a b c d + vV a b c e := by rw [← frm_ap, ← frm_ap, ← frm_ap, ap_add]
theorem vV_mul (a b c : V4) (k : Int) (d : V4) : vV a b c (vmul k d) = k * vV a b c d := by rw [← frm_ap, ← frm_ap, ap_mul]
/-- a sum with weights -/
def comb (w : Nat → Int) (u : Nat → V4) : List Nat → V4
  | [] => (0, 0, 0, 0)
  | i :: l => vadd (vmul (w i) (u i)) (comb w u l)
def sumz (f : Nat → Int) : List Nat → Int
  | [] => 0
  | i :: l => f i + sumz f l
theorem ap_comb (f : V4) (w : Nat → Int) (u : Nat → V4) : ∀ l : List Nat, ap f (comb w u l) = sumz (fun i => w i * ap f (u i)) l
  | [] => by unfold comb sumz ap vx vy vz vw; dsimp only; omega
  | i :: l => by rw [comb, ap_add, ap_mul, ap_comb f w u l, sumz]
theorem vV_comb (a b c : V4) (w : Nat → Int) (u : Nat → V4) (l : List Nat) : vV a b c (comb w u l) = sumz (fun i => w i * vV a b c (u i)) l := by
  rw [← frm_ap, ap_comb]
  have : (fun i => w i * ap (frm a b c) (u i)) = (fun i => w i * vV a b c (u i)) := by funext i; rw [frm_ap]
  rw [this]
theorem sumz_neg {f : Nat → Int} : ∀ {l : List Nat}, (∀ i ∈ l, f i ≤ 0) → (∃ i ∈ l, f i < 0) → sumz f l < 0
  | [], _, ⟨i, hi, _⟩ => absurd hi List.not_mem_nil
  | j :: l, h, ⟨i, hi, hn⟩ => by
    have hle : ∀ m : List Nat, (∀ i ∈ m, f i ≤ 0) → sumz f m ≤ 0 := by
      intro m
      induction m with
      | nil => intro _; exact Int.le_refl _
      | cons x m ih => intro hm; have := hm x List.mem_cons_self; have := ih (fun i hi => hm i (List.mem_cons_of_mem _ hi)); rw [sumz]; omega
    rw [sumz]
    rcases List.mem_cons.mp hi with rfl | hi
    · have := hle l (fun i hi => h i (List.mem_cons_of_mem _ hi))
      omega
    · have := sumz_neg (l := l) (fun i hi => h i (List.mem_cons_of_mem _ hi)) ⟨i, hi, hn⟩
      have := h j List.mem_cons_self
      omega
theorem sumz_pos {f : Nat → Int} {l : List Nat} (h : ∀ i ∈ l, 0 ≤ f i) (he : ∃ i ∈ l, 0 < f i) : 0 < sumz f l := by
  have e : ∀ m : List Nat, sumz (fun i => - f i) m = - sumz f m := by
    intro m
    induction m with
    | nil => rfl
    | cons x m ih => rw [sumz, sumz, ih]; omega
  have := sumz_neg (f := fun i => - f i) (l := l) (fun i hi => by have := h i hi; omega) (by obtain ⟨i, hi, hp⟩ := he; exact ⟨i, hi, by omega⟩)
  rw [e] at this
  omega
/-! HULL: what is seen and what is not, over the determinant alone -/
theorem neg_of_mul_pos_right {a b : Int} (h : 0 < a * b) (ha : a < 0) : b < 0 := by
  rcases Int.lt_trichotomy b 0 with q | q | q
  · exact q
  · rw [q, Int.mul_zero] at h; omega
  · have := Int.mul_neg_of_neg_of_pos ha q; omega
theorem pos_of_mul_neg_right {a b : Int} (h : a * b < 0) (ha : a < 0) : 0 < b := by
  rcases Int.lt_trichotomy b 0 with q | q | q
  · have := Int.mul_pos_of_neg_of_neg ha q; omega
  · rw [q, Int.mul_zero] at h; omega
  · exact q
/-- across an edge with p beyond (seen from o), p sees more -/
theorem par_up {a b c d p o : V4} (hcd : vV a b c d < 0) (hpo : 0 < vV a b p o) : vV a b c o * vV b a d p < vV a b c p * vV b a d o := by
  have h := vV_GP a b c d p o
  have q := Int.mul_neg_of_neg_of_pos hcd hpo
  rw [vV_12 a b d p, vV_12 a b d o, Int.mul_neg, Int.mul_neg]
  omega
theorem par_taken {a b c d p o : V4} (hcd : vV a b c d < 0) (hpo : 0 < vV a b p o) (hto : vV a b c o < 0) (hdo : vV b a d o < 0) (htp : 0 ≤ vV a b c p) : 0 < vV b a d p := by
  have h := par_up hcd hpo
  have q : vV a b c p * vV b a d o ≤ 0 := Int.mul_nonpos_of_nonneg_of_nonpos htp (Int.le_of_lt hdo)
  exact pos_of_mul_neg_right (by omega) hto
/-- not beyond two edges: the vertex between them is a corner of all -/
theorem no_two {a b c p o f : V4} (hb : ap f b = 0) (ha : 0 ≤ ap f a) (hc : 0 ≤ ap f c) (hp : 0 < ap f p) (ho : 0 ≤ ap f o) (htp : 0 ≤ vV a b c p) (hto : vV a b c o < 0) (h1 : 0 ≤ vV a b p o) (h2 : 0 ≤ vV b c p o) : False := by
  have h := cram f a b c p o
  rw [hb, Int.mul_zero] at h
  have q1 := Int.mul_nonneg h2 ha
  have q2 := Int.mul_nonneg h1 hc
  have q3 := Int.mul_neg_of_neg_of_pos hto hp
  have q4 := Int.mul_nonneg htp ho
  omega
/-- one root: of two triangles that have p before all their edges, neither has the other's corners below it -/
theorem root_lt {a b c d e f p o : V4} (h1 : vV a b p o ≤ 0) (h2 : vV b c p o ≤ 0) (h3 : vV c a p o ≤ 0) (ga : vV d e f a ≤ 0) (gb : vV d e f b ≤ 0) (gc : vV d e f c ≤ 0) : vV a b c p * vV d e f o ≤ vV a b c o * vV d e f p := by
  have h := cram (frm d e f) a b c p o
  rw [frm_ap, frm_ap, frm_ap, frm_ap, frm_ap] at h
  have q1 := Int.mul_nonneg_of_nonpos_of_nonpos h2 ga
  have q2 := Int.mul_nonneg_of_nonpos_of_nonpos h3 gb
  have q3 := Int.mul_nonneg_of_nonpos_of_nonpos h1 gc
  have e1 : vV c a p o = - vV a c p o := vV_12 a c p o
  rw [e1, Int.neg_mul] at q2
  omega
theorem root_lt' {a b c d e f p o : V4} (h1 : vV a b p o < 0) (h2 : vV b c p o < 0) (h3 : vV c a p o < 0) (ga : vV d e f a ≤ 0) (gb : vV d e f b ≤ 0) (gc : vV d e f c ≤ 0) (hs : vV d e f a < 0 ∨ vV d e f b < 0 ∨ vV d e f c < 0) : vV a b c p * vV d e f o < vV a b c o * vV d e f p := by
  have h := cram (frm d e f) a b c p o
  rw [frm_ap, frm_ap, frm_ap, frm_ap, frm_ap] at h
  have q1 := Int.mul_nonneg_of_nonpos_of_nonpos (Int.le_of_lt h2) ga
  have q2 := Int.mul_nonneg_of_nonpos_of_nonpos (Int.le_of_lt h3) gb
  have q3 := Int.mul_nonneg_of_nonpos_of_nonpos (Int.le_of_lt h1) gc
  have e1 : vV c a p o = - vV a c p o := vV_12 a c p o
  rw [e1, Int.neg_mul] at q2
  rcases hs with hs | hs | hs
  · have := Int.mul_pos_of_neg_of_neg h2 hs
    omega
  · have := Int.mul_pos_of_neg_of_neg h3 hs
    rw [e1, Int.neg_mul] at this
    omega
  · have := Int.mul_pos_of_neg_of_neg h1 hs
    omega
/-- over an edge between a triangle that p takes away and one that it does not, the new one has nothing below it -/
theorem rim_new {a b c d p x : V4} (hcd : vV a b c d < 0) (hcp : 0 < vV a b c p) (hdp : vV b a d p < 0) (hcx : vV a b c x ≤ 0) (hdx : vV b a d x < 0) : vV a b p x < 0 := by
  have h := vV_GP a b c d p x
  have e1 : vV b a d p = - vV a b d p := vV_12 a b d p
  have e2 : vV b a d x = - vV a b d x := vV_12 a b d x
  have q1 : 0 < vV a b c p * vV a b d x := Int.mul_pos hcp (by omega)
  have q2 : vV a b c x * vV a b d p ≤ 0 := Int.mul_nonpos_of_nonpos_of_nonneg hcx (by omega)
  have q3 : 0 < vV a b c d * vV a b p x := by omega
  exact neg_of_mul_pos_right q3 hcd
/-! facets of a finite set -/
def FC (u : Nat → V4) (P : List Nat) (a b c : Nat) : Prop := a ∈ P ∧ b ∈ P ∧ c ∈ P ∧ a ≠ b ∧ b ≠ c ∧ c ≠ a ∧ ∀ d ∈ P, d ≠ a → d ≠ b → d ≠ c → vV (u a) (u b) (u c) (u d) < 0
theorem FC.rot {u : Nat → V4} {P : List Nat} {a b c : Nat} (h : FC u P a b c) : FC u P b c a := by
  obtain ⟨h1, h2, h3, h4, h5, h6, h7⟩ := h
  exact ⟨h2, h3, h1, h5, h6, h4, fun d hd n1 n2 n3 => by rw [vV_rot]; exact h7 d hd n3 n1 n2⟩
theorem vV_same1 (a b c : V4) : vV a b c a = 0 := by unfold vV om; grind
theorem vV_same2 (a b c : V4) : vV a b c b = 0 := by unfold vV om; grind
theorem vV_same3 (a b c : V4) : vV a b c c = 0 := by unfold vV om; grind
theorem FC.le {u : Nat → V4} {P : List Nat} {a b c : Nat} (h : FC u P a b c) {d : Nat} (hd : d ∈ P) : vV (u a) (u b) (u c) (u d) ≤ 0 := by
  by_cases h1 : d = a
  · rw [h1, vV_same1]; exact Int.le_refl _
  by_cases h2 : d = b
  · rw [h2, vV_same2]; exact Int.le_refl _
  by_cases h3 : d = c
  · rw [h3, vV_same3]; exact Int.le_refl _
  exact Int.le_of_lt (h.2.2.2.2.2.2 d hd h1 h2 h3)
/-- an edge has one triangle at its left -/
theorem FC.uniq {u : Nat → V4} {P : List Nat} {a b c d : Nat} (h : FC u P a b c) (g : FC u P a b d) : c = d := by
  by_cases hcd : c = d
  · exact hcd
  have h1 := h.2.2.2.2.2.2 d g.2.2.1 (fun e => g.2.2.2.2.2.1 e) (fun e => g.2.2.2.2.1 e.symm) (fun e => hcd e.symm)
  have h2 := g.2.2.2.2.2.2 c h.2.2.1 (fun e => h.2.2.2.2.2.1 e) (fun e => h.2.2.2.2.1 e.symm) hcd
  rw [vV_34] at h2
  omega
/-- the two triangles at an edge -/
theorem FC.across {u : Nat → V4} {P : List Nat} {a b c d : Nat} (h : FC u P a b c) (g : FC u P b a d) (hcd : c ≠ d) : vV (u a) (u b) (u c) (u d) < 0 := h.2.2.2.2.2.2 d g.2.2.1 (fun e => g.2.2.2.2.1 e.symm) (fun e => g.2.2.2.2.2.1 e) (fun e => hcd e.symm)
/-- the triangles at the two sides of an edge differ, when there are four points -/
theorem FC.apart {u : Nat → V4} {P : List Nat} {a b c d x : Nat} (h : FC u P a b c) (g : FC u P b a d) (hx : x ∈ P) (xa : x ≠ a) (xb : x ≠ b) (xc : x ≠ c) : c ≠ d := by
  intro e
  subst e
  have h1 := h.2.2.2.2.2.2 x hx xa xb xc
  have h2 := g.2.2.2.2.2.2 x hx xb xa xc
  rw [vV_12] at h2
  omega
theorem FC.rim {u : Nat → V4} {P : List Nat} {a b c d p : Nat} (h : FC u P a b c) (g : FC u P b a d) (hcd : c ≠ d) (hp : p ∉ P) (t : 0 < vV (u a) (u b) (u c) (u p)) (n : vV (u b) (u a) (u d) (u p) < 0) : FC u (p :: P) a b p := by
  have hab := h.2.2.2.1
  refine ⟨List.mem_cons_of_mem _ h.1, List.mem_cons_of_mem _ h.2.1, List.mem_cons_self, hab, fun e => hp (e ▸ h.2.1), fun e => hp (e ▸ h.1), fun x hx xa xb xp => ?_⟩
  have hxP : x ∈ P := (List.mem_cons.mp hx).resolve_left xp
  by_cases hxd : x = d
  · subst hxd
    have e1 := vV_34 (u a) (u b) (u x) (u p)
    have e2 := vV_12 (u a) (u b) (u x) (u p)
    omega
  · exact rim_new (h.across g hcd) t n (h.le hxP) (g.2.2.2.2.2.2 x hxP xb xa hxd)
theorem FC.keep {u : Nat → V4} {P : List Nat} {a b c p : Nat} (h : FC u P a b c) (n : vV (u a) (u b) (u c) (u p) < 0) : FC u (p :: P) a b c := by
  obtain ⟨h1, h2, h3, h4, h5, h6, h7⟩ := h
  refine ⟨List.mem_cons_of_mem _ h1, List.mem_cons_of_mem _ h2, List.mem_cons_of_mem _ h3, h4, h5, h6, fun d hd n1 n2 n3 => ?_⟩
  rcases List.mem_cons.mp hd with e | hd
  · rw [e]; exact n
  · exact h7 d hd n1 n2 n3
/-! a point o inside that meets no edge's plane through p -/
theorem pow_ne {B : Int} (hB : 0 < B) (k : Nat) : B ^ k ≠ 0 := Int.ne_of_gt (Int.pow_pos hB)
theorem sum_high {B : Int} {c : Nat → Int} {i0 : Nat} : ∀ l : List Nat, (∀ i ∈ l, c i ≠ 0 → i0 < i) → ∃ m : Int, sumz (fun i => B ^ i * c i) l = B ^ (i0 + 1) * m
  | [], _ => ⟨0, by rw [sumz, Int.mul_zero]⟩
  | i :: l, h => by
    obtain ⟨m, hm⟩ := sum_high (B := B) (c := c) (i0 := i0) l (fun j hj => h j (List.mem_cons_of_mem _ hj))
    by_cases hc : c i = 0
    · exact ⟨m, by rw [sumz, hm, hc, Int.mul_zero, Int.zero_add]⟩
    · have hi := h i List.mem_cons_self hc
      obtain ⟨k, hk⟩ : ∃ k, i = i0 + 1 + k := ⟨i - (i0 + 1), by omega⟩
      refine ⟨B ^ k * c i + m, ?_⟩
      rw [sumz, hm, hk, Int.pow_add, Int.mul_add, Int.mul_assoc]
theorem sum_low {B : Int} {c : Nat → Int} {i0 : Nat} : ∀ l : List Nat, l.Nodup → i0 ∈ l → (∀ i ∈ l, c i ≠ 0 → i0 ≤ i) → ∃ m : Int, sumz (fun i => B ^ i * c i) l = B ^ i0 * (c i0 + B * m)
  | [], _, h, _ => absurd h List.not_mem_nil
  | i :: l, hn, hi, h => by
    have hn' := List.nodup_cons.mp hn
    by_cases hii : i0 = i
    · subst hii
      obtain ⟨m, hm⟩ := sum_high (B := B) (c := c) (i0 := i0) l (fun j hj hc => by
        have := h j (List.mem_cons_of_mem _ hj) hc
        rcases Nat.lt_or_eq_of_le this with q | q
        · exact q
        · exact absurd (q ▸ hj) hn'.1)
      exact ⟨m, by rw [sumz, hm, Int.mul_add, Int.pow_succ, Int.mul_assoc]⟩
    · have hil : i0 ∈ l := (List.mem_cons.mp hi).resolve_left hii
      obtain ⟨m, hm⟩ := sum_low (B := B) (c := c) (i0 := i0) l hn'.2 hil (fun j hj => h j (List.mem_cons_of_mem _ hj))
      by_cases hc : c i = 0
      · exact ⟨m, by rw [sumz, hm, hc, Int.mul_zero, Int.zero_add]⟩
      · have hlt : i0 < i := by
          have := h i List.mem_cons_self hc
          omega
        obtain ⟨k, hk⟩ : ∃ k, i = i0 + 1 + k := ⟨i - (i0 + 1), by omega⟩
        refine ⟨B ^ k * c i + m, ?_⟩
        rw [sumz, hm, hk, Int.pow_add, Int.pow_succ]
        have : B ^ i0 * B * B ^ k * c (i0 + 1 + k) + B ^ i0 * (c i0 + B * m) = B ^ i0 * (c i0 + B * (B ^ k * c (i0 + 1 + k) + m)) := by grind
        exact this
theorem sum_ne {B : Int} {c : Nat → Int} {l : List Nat} (hn : l.Nodup) (hB : 0 < B) (hb : ∀ i ∈ l, -B < c i ∧ c i < B) (he : ∃ i ∈ l, c i ≠ 0) : sumz (fun i => B ^ i * c i) l ≠ 0 := by
  have hmin : ∀ k : Nat, (∃ i ∈ l, c i ≠ 0 ∧ i ≤ k) → ∃ i0 ∈ l, c i0 ≠ 0 ∧ ∀ i ∈ l, c i ≠ 0 → i0 ≤ i := by
    intro k
    induction k with
    | zero =>
      rintro ⟨i, h1, h2, h3⟩
      exact ⟨i, h1, h2, fun j _ _ => by omega⟩
    | succ k ih =>
      rintro ⟨i, h1, h2, h3⟩
      by_cases hk : ∃ i ∈ l, c i ≠ 0 ∧ i ≤ k
      · exact ih hk
      · refine ⟨i, h1, h2, fun j hj hc => ?_⟩
        by_cases hjk : j ≤ k
        · exact absurd ⟨j, hj, hc, hjk⟩ hk
        · omega
  obtain ⟨i, hi, hc⟩ := he
  obtain ⟨i0, g1, g2, g3⟩ := hmin i ⟨i, hi, hc, Nat.le_refl _⟩
  obtain ⟨m, hm⟩ := sum_low (B := B) (c := c) l hn g1 g3
  rw [hm]
  intro h
  rcases Int.mul_eq_zero.mp h with h | h
  · exact pow_ne hB i0 h
  · have hb0 := hb i0 g1
    have hd : B ∣ c i0 := ⟨-m, by rw [Int.mul_neg]; omega⟩
    have : c i0 = 0 := Int.eq_zero_of_dvd_of_natAbs_lt_natAbs hd (by omega)
    exact g2 this
