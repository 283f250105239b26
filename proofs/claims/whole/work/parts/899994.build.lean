/-! THE CONSTRUCTORS: states as lists of writes -/
abbrev NF : Type := List (Nat × Nat) × List (Nat × Nat × Int32) × List (Nat × Nat × Int64) × List (Nat × Nat × Nat)
def lk {α : Type} (d : α) : List (Nat × Nat × α) → Nat → Nat → α
  | [], _, _ => d
  | q :: r, a, b => if a = q.1 ∧ b = q.2.1 then q.2.2 else lk d r a b
def den (g : Nat → Int32) (L : Nat) (s : NF) : ab_S := (fun a b => lk (if a = 1 then g b else 0) s.2.1 a b, fun a b => lk 0 s.2.2.1 a b, fun a b => lk 0 s.2.2.2 a b, (6, 0) :: (7, L) :: s.1)
def lnN (s : NF) : Nat := s.1.length + 2
def wfN (s : NF) : Prop := (∀ q ∈ s.2.1, q.1 < lnN s) ∧ (∀ q ∈ s.2.2.1, q.1 < lnN s) ∧ ∀ q ∈ s.2.2.2, q.1 < lnN s
def pshN (s : NF) (h : Nat × Nat) : NF := (s.1 ++ [h], s.2)
def wrI (s : NF) (o k : Nat) (v : Int32) : NF := (s.1, (o, k, v) :: s.2.1, s.2.2)
def wrJ (s : NF) (o k : Nat) (v : Int64) : NF := (s.1, s.2.1, (o, k, v) :: s.2.2.1, s.2.2.2)
def wrR (s : NF) (o k v : Nat) : NF := (s.1, s.2.1, s.2.2.1, (o, k, v) :: s.2.2.2)
def nA (o : Nat) (s : NF) (k : Nat) (h : Nat × Nat) : NF := wrR (pshN s h) o k (lnN s)
def okn (n : Int32) : Bool := !(decide (n < 0)) && !(decide (50000 < n.toNatClampNeg))
def HA (s : NF) (o : Nat) (x : Nat × Nat) : Prop := 2 ≤ o ∧ s.1[o - 2]? = some x
def KP (s t : NF) : Prop := ∀ q x, HA s q x → HA t q x
/-- a good state with the object o of class c -/
def GN (s : NF) (o c : Nat) : Prop := wfN s ∧ HA s o (0, c)
section BUILD
variable {g : Nat → Int32} {L : Nat} {s t : NF} {o c k : Nat}
theorem lk_far {α : Type} {d : α} {n b : Nat} : ∀ {l : List (Nat × Nat × α)}, (∀ q ∈ l, q.1 < n) → lk d l n b = d
  | [], _ => rfl
  | q :: r, h => by
    show (if n = q.1 ∧ b = q.2.1 then q.2.2 else lk d r n b) = d
    have := h q (List.mem_cons_self ..)
    rw [if_neg (by omega)]
    exact lk_far (fun q hq => h q (List.mem_cons_of_mem _ hq))
theorem den_ln : (sH (den g L s)).length = lnN s := rfl
theorem den_push (h : wfN s) (x : Nat × Nat) : ab_mk (den g L s) x = den g L (pshN s x) := by
  obtain ⟨h1, h2, h3⟩ := h
  have e1 : (fun a b => if a = lnN s then (0 : Int32) else lk (if a = 1 then g b else 0) s.2.1 a b) = fun a b => lk (if a = 1 then g b else 0) s.2.1 a b := by
    funext a b
    by_cases q : a = lnN s
    · rw [if_pos q, q, lk_far h1, if_neg (by unfold lnN; omega)]
    · rw [if_neg q]
  have e2 : (fun a b => if a = lnN s then (0 : Int64) else lk 0 s.2.2.1 a b) = fun a b => lk 0 s.2.2.1 a b := by
    funext a b
    by_cases q : a = lnN s
    · rw [if_pos q, q, lk_far h2]
    · rw [if_neg q]
  have e3 : (fun a b => if a = lnN s then (0 : Nat) else lk 0 s.2.2.2 a b) = fun a b => lk 0 s.2.2.2 a b := by
    funext a b
    by_cases q : a = lnN s
    · rw [if_pos q, q, lk_far h3]
    · rw [if_neg q]
  show ((fun a b => if a = lnN s then (0 : Int32) else lk (if a = 1 then g b else 0) s.2.1 a b), (fun a b => if a = lnN s then (0 : Int64) else lk 0 s.2.2.1 a b), (fun a b => if a = lnN s then (0 : Nat) else lk 0 s.2.2.2 a b), (6, 0) :: (7, L) :: (s.1 ++ [x])) = _
  rw [e1, e2, e3]
  rfl
theorem wf_push (h : wfN s) {x : Nat × Nat} : wfN (pshN s x) := by
  obtain ⟨h1, h2, h3⟩ := h
  have e : lnN (pshN s x) = lnN s + 1 := by show (s.1 ++ [x]).length + 2 = _; rw [List.length_append]; rfl
  exact ⟨fun q hq => by have := h1 q hq; omega, fun q hq => by have := h2 q hq; omega, fun q hq => by have := h3 q hq; omega⟩
theorem wf_wrR (h : wfN s) {v : Nat} (ho : o < lnN s) : wfN (wrR s o k v) := ⟨h.1, h.2.1, fun q hq => by
  rcases List.mem_cons.mp hq with e | e
  · rw [e]; exact ho
  · exact h.2.2 q e⟩
theorem wf_wrI (h : wfN s) {v : Int32} (ho : o < lnN s) : wfN (wrI s o k v) := ⟨fun q hq => by
  rcases List.mem_cons.mp hq with e | e
  · rw [e]; exact ho
  · exact h.1 q e, h.2⟩
theorem wf_wrJ (h : wfN s) {v : Int64} (ho : o < lnN s) : wfN (wrJ s o k v) := ⟨h.1, fun q hq => by
  rcases List.mem_cons.mp hq with e | e
  · rw [e]; exact ho
  · exact h.2.1 q e, h.2.2⟩
theorem lt_at {x : Nat × Nat} (h : HA s o x) : o < lnN s := by
  have := (List.getElem?_eq_some_iff.mp h.2).1
  have := h.1
  unfold lnN
  omega
theorem sh_d {x : Nat × Nat} (h : HA s o x) : (sH (den g L s))[o]? = some x := by
  obtain ⟨h1, h2⟩ := h
  obtain ⟨m, rfl⟩ : ∃ m, o = m + 2 := ⟨o - 2, by omega⟩
  show ((6, 0) :: (7, L) :: s.1)[m + 2]? = _
  rw [List.getElem?_cons_succ, List.getElem?_cons_succ]
  exact h2
theorem at_push {x y : Nat × Nat} (h : HA s o x) : HA (pshN s y) o x := by
  refine ⟨h.1, ?_⟩
  show (s.1 ++ [y])[o - 2]? = _
  rw [List.getElem?_append_left (List.getElem?_eq_some_iff.mp h.2).1]
  exact h.2
theorem at_new {y : Nat × Nat} : HA (pshN s y) (lnN s) y := by
  refine ⟨Nat.le_add_left 2 _, ?_⟩
  show (s.1 ++ [y])[s.1.length + 2 - 2]? = _
  rw [Nat.add_sub_cancel, List.getElem?_append_right (Nat.le_refl _), Nat.sub_self]
  rfl
theorem KP_rfl : KP s s := fun _ _ h => h
theorem KP_trans {u : NF} (h : KP s t) (h2 : KP t u) : KP s u := fun q x hq => h2 q x (h q x hq)
theorem KP_push {y : Nat × Nat} : KP s (pshN s y) := fun q x h => at_push h
theorem KP_nA {y : Nat × Nat} : KP s (nA o s k y) := fun q x h => at_push h
theorem KP_R {v : Nat} : KP s (wrR s o k v) := fun q x h => h
theorem KP_I {v : Int32} : KP s (wrI s o k v) := fun q x h => h
theorem KP_J {v : Int64} : KP s (wrJ s o k v) := fun q x h => h
theorem GN_nA (h : GN s o c) {x : Nat × Nat} : GN (nA o s k x) o c := ⟨wf_wrR (wf_push h.1) (lt_at (at_push h.2)), at_push h.2⟩
theorem GN_R (h : GN s o c) {a k v : Nat} {x : Nat × Nat} (ha : HA s a x) : GN (wrR s a k v) o c := ⟨wf_wrR h.1 (lt_at ha), h.2⟩
theorem GN_I (h : GN s o c) {a k : Nat} {v : Int32} {x : Nat × Nat} (ha : HA s a x) : GN (wrI s a k v) o c := ⟨wf_wrI h.1 (lt_at ha), h.2⟩
theorem GN_J (h : GN s o c) {a k : Nat} {v : Int64} {x : Nat × Nat} (ha : HA s a x) : GN (wrJ s a k v) o c := ⟨wf_wrJ h.1 (lt_at ha), h.2⟩
theorem newn_d (h : wfN s) {n : Int32} {kd : Nat} (hn : okn n = true) {K : Nat → ab_S → Option ab_R} : ab_newn (den g L s) n kd K = K (lnN s) (den g L (pshN s (kd, n.toNatClampNeg))) := by
  unfold okn at hn
  simp at hn
  have e1 : ¬ (n < 0 ∨ 50000 < n.toNatClampNeg) := by
    rintro (q | q)
    · exact absurd q (by simpa using hn.1)
    · omega
  have e2 : ab_mo (den g L s) (kd, n.toNatClampNeg) = some (ab_mk (den g L s) (kd, n.toNatClampNeg)) := if_neg (by show ¬ s.1.length + 2 < 2; omega)
  unfold ab_newn
  rw [if_neg e1, e2, Option.bind_some, den_push h]
  rfl
theorem newo_d (h : wfN s) {kd : Nat} {K : Nat → ab_S → Option ab_R} : ab_newo (den g L s) kd K = K (lnN s) (den g L (pshN s (0, kd))) := by
  have e2 : ab_mo (den g L s) (0, kd) = some (ab_mk (den g L s) (0, kd)) := if_neg (by show ¬ s.1.length + 2 < 2; omega)
  unfold ab_newo
  rw [e2, Option.bind_some, den_push h]
  rfl
theorem pR_d (h : HA s o (0, c)) {v : Nat} : ab_pR (den g L s) o c k v = some (den g L (wrR s o k v)) := pR_ok (sh_d h)
theorem pI_d (h : HA s o (0, c)) {v : Int32} : ab_pI (den g L s) o c k v = some (den g L (wrI s o k v)) := pI_ok (sh_d h)
theorem pJ_d (h : HA s o (0, c)) {v : Int64} : ab_pJ (den g L s) o c k v = some (den g L (wrJ s o k v)) := if_pos (sh_d h)
theorem gR_d (h : HA s o (0, c)) : ab_gR (den g L s) o c k = some (lk 0 s.2.2.2 o k) := gR_ok (sh_d h)
theorem gI_d (h : HA s o (0, c)) (h1 : o ≠ 1) : ab_gI (den g L s) o c k = some (lk 0 s.2.1 o k) := by
  rw [gI_ok (sh_d h)]
  show some (lk (if o = 1 then g k else 0) s.2.1 o k) = _
  rw [if_neg h1]
theorem wI_d {n i : Nat} (h : HA s o (1, n)) (hi : i < n) (hn : n < 2147483648) {v : Int32} : ab_wI (den g L s) o (nI i) v = some (den g L (wrI s o i v)) := wI_ok (sh_d h) hi hn
theorem wJ_d {n i : Nat} (h : HA s o (2, n)) (hi : i < n) (hn : n < 2147483648) {v : Int64} : ab_wJ (den g L s) o (nI i) v = some (den g L (wrJ s o i v)) := wJ_ok (sh_d h) hi hn
theorem newp (h : GN s o c) {n : Int32} {kd : Nat} (hn : okn n = true) {K : ab_S → Option ab_R} : (ab_newn (den g L s) n kd fun o1 s2 => Option.bind (ab_pR s2 o c k o1) K) = K (den g L (nA o s k (kd, n.toNatClampNeg))) := by
  rw [newn_d h.1 hn, pR_d (at_push h.2), Option.bind_some]
  rfl
theorem rc_d (h : GN s o c) {r : Option ab_R} : ab_rc (den g L s) o c (if o = 0 then none else r) = r := by
  rw [rc_ok (sh_d h.2), if_neg (by have := h.2.1; omega)]
/-- what a constructor does -/
def RS (g : Nat → Int32) (L : Nat) (r : Option ab_R) (s t : NF) (o c : Nat) : Prop := r = some (none, den g L t) ∧ GN t o c ∧ KP s t
theorem newc (h : GN s o c) {c' : Nat} {f : Nat → ab_S → Option ab_R} {m : Nat → NF → NF} (hf : ∀ t p, GN t p c' → RS g L (f p (den g L t)) t (m p t) p c') {K : ab_S → Option ab_R} : (ab_newo (den g L s) c' fun o1 s2 => ab_rv (f o1 s2) fun s3 => Option.bind (ab_pR s3 o c k o1) K) = K (den g L (wrR (m (lnN s) (pshN s (0, c'))) o k (lnN s))) ∧ GN (wrR (m (lnN s) (pshN s (0, c'))) o k (lnN s)) o c ∧ KP s (wrR (m (lnN s) (pshN s (0, c'))) o k (lnN s)) := by
  obtain ⟨a1, a2, a3⟩ := hf (pshN s (0, c')) (lnN s) ⟨wf_push h.1, at_new⟩
  have ho := a3 _ _ (at_push (y := (0, c')) h.2)
  refine ⟨?_, ⟨wf_wrR a2.1 (lt_at ho), ho⟩, KP_trans KP_push a3⟩
  rw [newo_d h.1, a1, rv_ok, pR_d ho, Option.bind_some]

def mX8 (o : Nat) (s : NF) : NF := (nA o (nA o (nA o (nA o (nA o (nA o (nA o (nA o (nA o (nA o (nA o (nA o (nA o s 0 (1, ((2401 : Int32)).toNatClampNeg)) 1 (1, ((2401 : Int32)).toNatClampNeg)) 2 (1, ((2401 : Int32)).toNatClampNeg)) 3 (2, ((2401 : Int32)).toNatClampNeg)) 4 (2, ((2401 : Int32)).toNatClampNeg)) 5 (1, ((2401 : Int32)).toNatClampNeg)) 6 (1, ((2401 : Int32)).toNatClampNeg)) 7 (1, ((2401 : Int32)).toNatClampNeg)) 8 (1, ((2401 : Int32)).toNatClampNeg)) 9 (1, ((2401 : Int32)).toNatClampNeg)) 10 (1, ((2401 : Int32)).toNatClampNeg)) 11 (1, ((4096 : Int32)).toNatClampNeg)) 12 (1, ((13 : Int32)).toNatClampNeg))
theorem iX8 (s : NF) (o : Nat) (h : GN s o 8) : RS g L (f_X8_init o (den g L s)) s (mX8 o s) o 8 := by
  have hk : KP s s := KP_rfl
  rw [e_X8_init_0, rc_d h]
  rw [newp h rfl]
  replace hk := KP_trans hk (KP_nA (o := o) (k := 0) (y := (1, ((2401 : Int32)).toNatClampNeg)))
  replace h := GN_nA (k := 0) (x := (1, ((2401 : Int32)).toNatClampNeg)) h
  rw [newp h rfl]
  replace hk := KP_trans hk (KP_nA (o := o) (k := 1) (y := (1, ((2401 : Int32)).toNatClampNeg)))
  replace h := GN_nA (k := 1) (x := (1, ((2401 : Int32)).toNatClampNeg)) h
  rw [newp h rfl]
  replace hk := KP_trans hk (KP_nA (o := o) (k := 2) (y := (1, ((2401 : Int32)).toNatClampNeg)))
  replace h := GN_nA (k := 2) (x := (1, ((2401 : Int32)).toNatClampNeg)) h
  rw [newp h rfl]
  replace hk := KP_trans hk (KP_nA (o := o) (k := 3) (y := (2, ((2401 : Int32)).toNatClampNeg)))
  replace h := GN_nA (k := 3) (x := (2, ((2401 : Int32)).toNatClampNeg)) h
  rw [newp h rfl]
  replace hk := KP_trans hk (KP_nA (o := o) (k := 4) (y := (2, ((2401 : Int32)).toNatClampNeg)))
  replace h := GN_nA (k := 4) (x := (2, ((2401 : Int32)).toNatClampNeg)) h
  rw [newp h rfl]
  replace hk := KP_trans hk (KP_nA (o := o) (k := 5) (y := (1, ((2401 : Int32)).toNatClampNeg)))
  replace h := GN_nA (k := 5) (x := (1, ((2401 : Int32)).toNatClampNeg)) h
  rw [newp h rfl]
  replace hk := KP_trans hk (KP_nA (o := o) (k := 6) (y := (1, ((2401 : Int32)).toNatClampNeg)))
  replace h := GN_nA (k := 6) (x := (1, ((2401 : Int32)).toNatClampNeg)) h
  rw [newp h rfl]
  replace hk := KP_trans hk (KP_nA (o := o) (k := 7) (y := (1, ((2401 : Int32)).toNatClampNeg)))
  replace h := GN_nA (k := 7) (x := (1, ((2401 : Int32)).toNatClampNeg)) h
  rw [newp h rfl]
  replace hk := KP_trans hk (KP_nA (o := o) (k := 8) (y := (1, ((2401 : Int32)).toNatClampNeg)))
  replace h := GN_nA (k := 8) (x := (1, ((2401 : Int32)).toNatClampNeg)) h
  rw [newp h rfl]
  replace hk := KP_trans hk (KP_nA (o := o) (k := 9) (y := (1, ((2401 : Int32)).toNatClampNeg)))
  replace h := GN_nA (k := 9) (x := (1, ((2401 : Int32)).toNatClampNeg)) h
  rw [newp h rfl]
  replace hk := KP_trans hk (KP_nA (o := o) (k := 10) (y := (1, ((2401 : Int32)).toNatClampNeg)))
  replace h := GN_nA (k := 10) (x := (1, ((2401 : Int32)).toNatClampNeg)) h
  rw [newp h rfl]
  replace hk := KP_trans hk (KP_nA (o := o) (k := 11) (y := (1, ((4096 : Int32)).toNatClampNeg)))
  replace h := GN_nA (k := 11) (x := (1, ((4096 : Int32)).toNatClampNeg)) h
  rw [newp h rfl]
  replace hk := KP_trans hk (KP_nA (o := o) (k := 12) (y := (1, ((13 : Int32)).toNatClampNeg)))
  replace h := GN_nA (k := 12) (x := (1, ((13 : Int32)).toNatClampNeg)) h
  exact ⟨rfl, h, hk⟩
def mX3 (o : Nat) (s : NF) : NF := (nA o (nA o (nA o (nA o s 0 (1, ((12 : Int32)).toNatClampNeg)) 1 (1, ((13 : Int32)).toNatClampNeg)) 2 (1, ((13 : Int32)).toNatClampNeg)) 3 (2, ((13 : Int32)).toNatClampNeg))
theorem iX3 (s : NF) (o : Nat) (h : GN s o 3) : RS g L (f_X3_init o (den g L s)) s (mX3 o s) o 3 := by
  have hk : KP s s := KP_rfl
  rw [e_X3_init_0, rc_d h]
  rw [newp h rfl]
  replace hk := KP_trans hk (KP_nA (o := o) (k := 0) (y := (1, ((12 : Int32)).toNatClampNeg)))
  replace h := GN_nA (k := 0) (x := (1, ((12 : Int32)).toNatClampNeg)) h
  rw [newp h rfl]
  replace hk := KP_trans hk (KP_nA (o := o) (k := 1) (y := (1, ((13 : Int32)).toNatClampNeg)))
  replace h := GN_nA (k := 1) (x := (1, ((13 : Int32)).toNatClampNeg)) h
  rw [newp h rfl]
  replace hk := KP_trans hk (KP_nA (o := o) (k := 2) (y := (1, ((13 : Int32)).toNatClampNeg)))
  replace h := GN_nA (k := 2) (x := (1, ((13 : Int32)).toNatClampNeg)) h
  rw [newp h rfl]
  replace hk := KP_trans hk (KP_nA (o := o) (k := 3) (y := (2, ((13 : Int32)).toNatClampNeg)))
  replace h := GN_nA (k := 3) (x := (2, ((13 : Int32)).toNatClampNeg)) h
  exact ⟨rfl, h, hk⟩
def mX7 (o : Nat) (s : NF) : NF := (nA o (nA o (nA o s 0 (1, ((200 : Int32)).toNatClampNeg)) 1 (1, ((2400 : Int32)).toNatClampNeg)) 2 (2, ((200 : Int32)).toNatClampNeg))
theorem iX7 (s : NF) (o : Nat) (h : GN s o 7) : RS g L (f_X7_init o (den g L s)) s (mX7 o s) o 7 := by
  have hk : KP s s := KP_rfl
  rw [e_X7_init_0, rc_d h]
  rw [newp h rfl]
  replace hk := KP_trans hk (KP_nA (o := o) (k := 0) (y := (1, ((200 : Int32)).toNatClampNeg)))
  replace h := GN_nA (k := 0) (x := (1, ((200 : Int32)).toNatClampNeg)) h
  rw [newp h rfl]
  replace hk := KP_trans hk (KP_nA (o := o) (k := 1) (y := (1, ((2400 : Int32)).toNatClampNeg)))
  replace h := GN_nA (k := 1) (x := (1, ((2400 : Int32)).toNatClampNeg)) h
  rw [newp h rfl]
  replace hk := KP_trans hk (KP_nA (o := o) (k := 2) (y := (2, ((200 : Int32)).toNatClampNeg)))
  replace h := GN_nA (k := 2) (x := (2, ((200 : Int32)).toNatClampNeg)) h
  exact ⟨rfl, h, hk⟩
theorem iX4 (s : NF) (o : Nat) (h : GN s o 4) : RS g L (f_X4_init o (den g L s)) s s o 4 := by
  rw [e_X4_init_0, rc_d h]
  exact ⟨rfl, h, KP_rfl⟩
theorem iX9 (s : NF) (o : Nat) (h : GN s o 9) : RS g L (f_X9_init o (den g L s)) s (wrI s o 0 (-1)) o 9 := by
  rw [e_X9_init_0, rc_d h, pI_d h.2, Option.bind_some]
  exact ⟨rfl, GN_I h h.2, KP_I⟩
theorem iX6 {n : Int32} (hn0 : ¬ n < 0) (hn : okn n = true) (s : NF) (o : Nat) (h : GN s o 6) : RS g L (f_X6_init o n (den g L s)) s (nA o s 0 (1, n.toNatClampNeg)) o 6 := by
  rw [e_X6_init_0, rc_d h, if_neg hn0, newp h hn]
  exact ⟨rfl, GN_nA h, KP_nA⟩
def rwN (s : NF) (a k : Nat) : Nat → NF
  | 0 => s
  | i + 1 => wrR (pshN (rwN s a k i) (1, k)) a i (lnN (rwN s a k i))
theorem rows_d (h : GN s o c) {a b n : Nat} (ha : HA s a (5, b)) : ∀ i, ab_rows (den g L s) a n i = den g L (rwN s a n i) ∧ GN (rwN s a n i) o c ∧ KP s (rwN s a n i)
  | 0 => ⟨rfl, h, KP_rfl⟩
  | i + 1 => by
    obtain ⟨a1, a2, a3⟩ := rows_d h ha i
    have e : ab_rows (den g L s) a n (i + 1) = uR (ab_mk (ab_rows (den g L s) a n i) (1, n)) a i (sH (ab_rows (den g L s) a n i)).length := rfl
    refine ⟨?_, ⟨wf_wrR (wf_push a2.1) (lt_at (at_push (a3 _ _ ha))), at_push a2.2⟩, KP_trans a3 (KP_trans KP_push KP_R)⟩
    rw [e, a1, den_push a2.1]
    rfl
def mX2 (o : Nat) (s : NF) : NF := wrR (rwN (pshN s (5, 13)) (lnN s) 13 13) o 0 (lnN s)
theorem iX2 (s : NF) (o : Nat) (h : GN s o 2) : RS g L (f_X2_init o (den g L s)) s (mX2 o s) o 2 := by
  obtain ⟨a1, a2, a3⟩ := rows_d (g := g) (L := L) (s := pshN s (5, 13)) (n := 13) ⟨wf_push h.1, at_push h.2⟩ at_new 13
  have e : ab_mm (den g L s) 13 13 = some (den g L (rwN (pshN s (5, 13)) (lnN s) 13 13)) := by
    unfold ab_mm
    rw [if_neg (by
      rintro (q | q)
      · have q' : s.1.length + 2 < 2 := q
        omega
      · exact absurd q (by decide))]
    rw [← a1, ← den_push h.1]
    rfl
  rw [e_X2_init_0, rc_d h]
  unfold ab_newm
  rw [e, Option.bind_some, den_ln]
  dsimp only
  rw [pR_d a2.2, Option.bind_some]
  exact ⟨rfl, GN_R a2 a2.2, KP_trans KP_push (KP_trans a3 KP_R)⟩

def m1X1 (o : Nat) (s : NF) : NF := (nA o (nA o (nA o (nA o (nA o (nA o s 0 (1, ((2402 : Int32)).toNatClampNeg)) 1 (2, ((2401 : Int32)).toNatClampNeg)) 2 (1, ((2401 : Int32)).toNatClampNeg)) 3 (1, ((2400 : Int32)).toNatClampNeg)) 4 (1, ((2400 : Int32)).toNatClampNeg)) 5 (2, ((2400 : Int32)).toNatClampNeg))
def mX1 (o : Nat) (s : NF) : NF := wrI (wrI (wrI (wrI (wrJ (wrI (wrI (wrI (wrI (wrI (wrJ (m1X1 o s) o 6 0) o 10 1) o 7 0) o 8 0) o 9 0) (lnN s) 0 0) (lnN s + 1) 0 (-1)) (lnN s + 2) 0 0) o 9 0) o 7 1) (lnN s) 1 0
theorem ln_nA {x : Nat × Nat} : lnN (nA o s k x) = lnN s + 1 := by
  show (s.1 ++ [x]).length + 2 = _
  rw [List.length_append]; rfl
theorem iX1 (s : NF) (o : Nat) (h : GN s o 1) : RS g L (f_X1_init o (den g L s)) s (mX1 o s) o 1 := by
  have ho1 : o ≠ 1 := by have := h.2.1; omega
  have hk : KP s s := KP_rfl
  have hlt := lt_at h.2
  have hs := h
  rw [e_X1_init_0, rc_d h]
  rw [newp h rfl]
  replace hk := KP_trans hk (KP_nA (o := o) (k := 0) (y := (1, ((2402 : Int32)).toNatClampNeg)))
  replace h := GN_nA (k := 0) (x := (1, ((2402 : Int32)).toNatClampNeg)) h
  rw [newp h rfl]
  replace hk := KP_trans hk (KP_nA (o := o) (k := 1) (y := (2, ((2401 : Int32)).toNatClampNeg)))
  replace h := GN_nA (k := 1) (x := (2, ((2401 : Int32)).toNatClampNeg)) h
  rw [newp h rfl]
  replace hk := KP_trans hk (KP_nA (o := o) (k := 2) (y := (1, ((2401 : Int32)).toNatClampNeg)))
  replace h := GN_nA (k := 2) (x := (1, ((2401 : Int32)).toNatClampNeg)) h
  rw [newp h rfl]
  replace hk := KP_trans hk (KP_nA (o := o) (k := 3) (y := (1, ((2400 : Int32)).toNatClampNeg)))
  replace h := GN_nA (k := 3) (x := (1, ((2400 : Int32)).toNatClampNeg)) h
  rw [newp h rfl]
  replace hk := KP_trans hk (KP_nA (o := o) (k := 4) (y := (1, ((2400 : Int32)).toNatClampNeg)))
  replace h := GN_nA (k := 4) (x := (1, ((2400 : Int32)).toNatClampNeg)) h
  rw [newp h rfl]
  replace hk := KP_trans hk (KP_nA (o := o) (k := 5) (y := (2, ((2400 : Int32)).toNatClampNeg)))
  replace h := GN_nA (k := 5) (x := (2, ((2400 : Int32)).toNatClampNeg)) h
  have k0 : HA (m1X1 o s) (lnN s) (1, 2402) := at_push (at_push (at_push (at_push (at_push (at_new (s := s) (y := (1, 2402)))))))
  have k1 : HA (m1X1 o s) (lnN s + 1) (2, 2401) := by
    rw [← ln_nA (o := o) (k := 0) (s := s) (x := (1, (2402 : Int32).toNatClampNeg))]
    exact at_push (at_push (at_push (at_push (at_new (y := (2, 2401))))))
  have k2 : HA (m1X1 o s) (lnN s + 2) (1, 2401) := by
    have e : lnN s + 2 = lnN (nA o (nA o s 0 (1, (2402 : Int32).toNatClampNeg)) 1 (2, (2401 : Int32).toNatClampNeg)) := by rw [ln_nA, ln_nA]
    rw [e]
    exact at_push (at_push (at_push (at_new (y := (1, 2401)))))
  have l0 : lk 0 (m1X1 o s).2.2.2 o 0 = lnN s := by simp [m1X1, nA, wrR, pshN, lk]
  have l1 : lk 0 (m1X1 o s).2.2.2 o 1 = lnN s + 1 := by simp [m1X1, nA, wrR, pshN, lk, lnN]
  have l2 : lk 0 (m1X1 o s).2.2.2 o 2 = lnN s + 2 := by simp [m1X1, nA, wrR, pshN, lk, lnN]
  change GN (m1X1 o s) o 1 at h
  change KP s (m1X1 o s) at hk
  change RS g L (ab_rv (f_X1_clear o 0 1 (den g L (m1X1 o s))) _) _ _ _ _
  unfold mX1
  generalize m1X1 o s = u at *
  have z0 : (0 : Int32) = nI 0 := rfl
  -- clear
  have G1 : GN (wrJ u o 6 0) o 1 := GN_J h h.2
  have G2 : GN (wrI (wrJ u o 6 0) o 10 1) o 1 := GN_I G1 G1.2
  have G3 : GN (wrI (wrI (wrJ u o 6 0) o 10 1) o 7 0) o 1 := GN_I G2 G2.2
  have G4 : GN (wrI (wrI (wrI (wrJ u o 6 0) o 10 1) o 7 0) o 8 0) o 1 := GN_I G3 G3.2
  have G5 : GN (wrI (wrI (wrI (wrI (wrJ u o 6 0) o 10 1) o 7 0) o 8 0) o 9 0) o 1 := GN_I G4 G4.2
  have G6 : GN (wrI (wrI (wrI (wrI (wrI (wrJ u o 6 0) o 10 1) o 7 0) o 8 0) o 9 0) (lnN s) 0 0) o 1 := GN_I (x := (1, 2402)) G5 k0
  have eC : f_X1_clear o 0 1 (den g L u) = some (none, den g L (wrI (wrI (wrI (wrI (wrI (wrJ u o 6 0) o 10 1) o 7 0) o 8 0) o 9 0) (lnN s) 0 0)) := by
    rw [e_X1_clear_0, rc_ok (sh_d h.2), pJ_d h.2, Option.bind_some, pI_d G1.2, Option.bind_some, pI_d G2.2, Option.bind_some, pI_d G3.2, Option.bind_some, pI_d G4.2, Option.bind_some, gR_d G5.2, Option.bind_some, show lk 0 (wrI (wrI (wrI (wrI (wrJ u o 6 0) o 10 1) o 7 0) o 8 0) o 9 0).2.2.2 o 0 = lnN s from l0]
    have := wI_d (g := g) (L := L) (s := wrI (wrI (wrI (wrI (wrJ u o 6 0) o 10 1) o 7 0) o 8 0) o 9 0) (o := lnN s) (n := 2402) (i := 0) (v := 0) k0 (by omega) (by omega)
    rw [← z0] at this
    rw [this, Option.bind_some]
  rw [eC, rv_ok]
  have i7 : lk 0 (wrI (wrI (wrI (wrI (wrI (wrJ u o 6 0) o 10 1) o 7 0) o 8 0) o 9 0) (lnN s) 0 0).2.1 o 7 = 0 := by simp [wrI, lk]
  have i8 : lk 0 (wrI (wrI (wrI (wrI (wrI (wrJ u o 6 0) o 10 1) o 7 0) o 8 0) o 9 0) (lnN s) 0 0).2.1 o 8 = 0 := by simp [wrI, lk]
  have i9 : lk 0 (wrI (wrI (wrI (wrI (wrI (wrJ u o 6 0) o 10 1) o 7 0) o 8 0) o 9 0) (lnN s) 0 0).2.1 o 9 = 0 := by simp [wrI, lk]
  have hK6 : KP u (wrI (wrI (wrI (wrI (wrI (wrJ u o 6 0) o 10 1) o 7 0) o 8 0) o 9 0) (lnN s) 0 0) := fun q x h => h
  have m0 : lk 0 (wrI (wrI (wrI (wrI (wrI (wrJ u o 6 0) o 10 1) o 7 0) o 8 0) o 9 0) (lnN s) 0 0).2.2.2 o 0 = lnN s := l0
  have m1 : lk 0 (wrI (wrI (wrI (wrI (wrI (wrJ u o 6 0) o 10 1) o 7 0) o 8 0) o 9 0) (lnN s) 0 0).2.2.2 o 1 = lnN s + 1 := l1
  have m2 : lk 0 (wrI (wrI (wrI (wrI (wrI (wrJ u o 6 0) o 10 1) o 7 0) o 8 0) o 9 0) (lnN s) 0 0).2.2.2 o 2 = lnN s + 2 := l2
  generalize wrI (wrI (wrI (wrI (wrI (wrJ u o 6 0) o 10 1) o 7 0) o 8 0) o 9 0) (lnN s) 0 0 = v at *
  replace hk := KP_trans hk hK6
  have H0 := hK6 _ _ k0
  have H1 := hK6 _ _ k1
  have H2 := hK6 _ _ k2
  have G7 : GN (wrJ v (lnN s + 1) 0 (-1)) o 1 := GN_J G6 H1
  have G8 : GN (wrI (wrJ v (lnN s + 1) 0 (-1)) (lnN s + 2) 0 0) o 1 := GN_I (x := (1, 2401)) G7 H2
  have G9 : GN (wrI (wrI (wrJ v (lnN s + 1) 0 (-1)) (lnN s + 2) 0 0) o 9 0) o 1 := GN_I G8 G8.2
  have G10 : GN (wrI (wrI (wrI (wrJ v (lnN s + 1) 0 (-1)) (lnN s + 2) 0 0) o 9 0) o 7 1) o 1 := GN_I G9 G9.2
  have G11 : GN (wrI (wrI (wrI (wrI (wrJ v (lnN s + 1) 0 (-1)) (lnN s + 2) 0 0) o 9 0) o 7 1) (lnN s) 1 0) o 1 := GN_I (x := (1, 2402)) G10 H0
  have j7 : lk 0 (wrJ v (lnN s + 1) 0 (-1)).2.1 o 7 = 0 := i7
  have hne : o ≠ lnN s + 2 := by omega
  have j9 : lk 0 (wrI (wrJ v (lnN s + 1) 0 (-1)) (lnN s + 2) 0 0).2.1 o 9 = 0 := by
    show (if o = lnN s + 2 ∧ 9 = 0 then (0 : Int32) else lk 0 v.2.1 o 9) = 0
    rw [if_neg (by omega)]; exact i9
  have p7 : lk 0 (wrI (wrI (wrJ v (lnN s + 1) 0 (-1)) (lnN s + 2) 0 0) o 9 0).2.1 o 7 = 0 := by
    show (if o = o ∧ 7 = 9 then (0 : Int32) else if o = lnN s + 2 ∧ 7 = 0 then (0 : Int32) else lk 0 v.2.1 o 7) = 0
    rw [if_neg (by omega), if_neg (by omega)]; exact i7
  have p7' : lk 0 (wrI (wrI (wrI (wrJ v (lnN s + 1) 0 (-1)) (lnN s + 2) 0 0) o 9 0) o 7 1).2.1 o 7 = 1 := by
    show (if o = o ∧ 7 = 7 then (1 : Int32) else _) = 1
    rw [if_pos ⟨rfl, rfl⟩]
  have p8' : lk 0 (wrI (wrI (wrI (wrJ v (lnN s + 1) 0 (-1)) (lnN s + 2) 0 0) o 9 0) o 7 1).2.1 o 8 = 0 := by
    show (if o = o ∧ 8 = 7 then (1 : Int32) else if o = o ∧ 8 = 9 then (0 : Int32) else if o = lnN s + 2 ∧ 8 = 0 then (0 : Int32) else lk 0 v.2.1 o 8) = 0
    rw [if_neg (by omega), if_neg (by omega), if_neg (by omega)]; exact i8
  have w1 : ab_wJ (den g L v) (lnN s + 1) 0 (-1) = some (den g L (wrJ v (lnN s + 1) 0 (-1))) := wJ_d (i := 0) H1 (by omega) (by omega)
  have w2 : ab_wI (den g L (wrJ v (lnN s + 1) 0 (-1))) (lnN s + 2) 0 0 = some (den g L (wrI (wrJ v (lnN s + 1) 0 (-1)) (lnN s + 2) 0 0)) := wI_d (s := wrJ v (lnN s + 1) 0 (-1)) (i := 0) H2 (by omega) (by omega)
  have w3 : ab_wI (den g L (wrI (wrI (wrI (wrJ v (lnN s + 1) 0 (-1)) (lnN s + 2) 0 0) o 9 0) o 7 1)) (lnN s) 1 0 = some (den g L (wrI (wrI (wrI (wrI (wrJ v (lnN s + 1) 0 (-1)) (lnN s + 2) 0 0) o 9 0) o 7 1) (lnN s) 1 0)) := wI_d (s := wrI (wrI (wrI (wrJ v (lnN s + 1) 0 (-1)) (lnN s + 2) 0 0) o 9 0) o 7 1) (i := 1) H0 (by omega) (by omega)
  have eP : f_X1_putState o (-1) 0 (den g L v) = some (some (.int 1), den g L (wrI (wrI (wrI (wrI (wrJ v (lnN s + 1) 0 (-1)) (lnN s + 2) 0 0) o 9 0) o 7 1) (lnN s) 1 0)) := by
    rw [e_X1_putState_0, rc_ok (sh_d G6.2), gI_d G6.2 ho1, Option.bind_some, i7, if_pos (by decide), gR_d G6.2, Option.bind_some, m1, Option.bind_some, w1, Option.bind_some, gR_d G7.2, Option.bind_some, show lk 0 (wrJ v (lnN s + 1) 0 (-1)).2.2.2 o 2 = lnN s + 2 from m2, gI_d G7.2 ho1, Option.bind_some, j7, w2, Option.bind_some, gI_d G8.2 ho1, Option.bind_some, j9, if_pos (cmp_eq.mpr rfl), e_X1_putState_50, show (0 : Int32) + 0 = 0 from rfl, pI_d G8.2, Option.bind_some, gI_d G9.2 ho1, Option.bind_some, p7, show (0 : Int32) + 1 = 1 from rfl, pI_d G9.2, Option.bind_some, gR_d G10.2, Option.bind_some, show lk 0 (wrI (wrI (wrI (wrJ v (lnN s + 1) 0 (-1)) (lnN s + 2) 0 0) o 9 0) o 7 1).2.2.2 o 0 = lnN s from m0, gI_d G10.2 ho1, Option.bind_some, p7', gI_d G10.2 ho1, Option.bind_some, p8', w3, Option.bind_some, z_1]
  rw [eP, ri_ok]
  exact ⟨rfl, G11, hk⟩
def mX0 (o : Nat) (s : NF) : NF := let t := wrR (mX7 (lnN s) (pshN s (0, 7))) o 0 (lnN s); wrR (mX1 (lnN t) (pshN t (0, 1))) o 1 (lnN t)
theorem iX0 (s : NF) (o : Nat) (h : GN s o 0) : RS g L (f_X0_init o (den g L s)) s (mX0 o s) o 0 := by
  rw [e_X0_init_0, rc_d h]
  obtain ⟨a1, a2, a3⟩ := newc (g := g) (L := L) (k := 0) h (c' := 7) (f := f_X7_init) (m := mX7) iX7 (K := fun s4 => ab_newo s4 1 fun o5 s6 => ab_rv (f_X1_init o5 s6) fun s7 => Option.bind (ab_pR s7 o 0 1 o5) fun s8 => some (none, s8))
  obtain ⟨b1, b2, b3⟩ := newc (g := g) (L := L) (k := 1) a2 (c' := 1) (f := f_X1_init) (m := mX1) iX1 (K := fun s8 => some (none, s8))
  rw [a1, b1]
  exact ⟨rfl, b2, KP_trans a3 b3⟩

end BUILD
