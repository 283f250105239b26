/-! THE CONSTRUCTORS, two: Pattern, TermMachine, the model; the start -/
section START
variable {g : Nat → Int32} {L : Nat} {s t : NF} {o c k : Nat}
theorem wR_d {i n v : Nat} {a : Nat} (h : HA s a (8 + c, n)) (hi : i < n) (hn : n < 2147483648) (hv : HA s v (0, c)) : ab_wR (den g L s) a (nI i) v = some (den g L (wrR s a i v)) := by
  exact wR_ok (sh_d h) hi hn (sh_d hv)
def mkC (m : Nat → NF → NF) (c' o k : Nat) (s : NF) : NF := wrR (m (lnN s) (pshN s (0, c'))) o k (lnN s)
theorem newc_e (h : GN s o c) {c' : Nat} {f : Nat → ab_S → Option ab_R} {m : Nat → NF → NF} (hf : ∀ t p, GN t p c' → RS g L (f p (den g L t)) t (m p t) p c') {K : ab_S → Option ab_R} : (ab_newo (den g L s) c' fun o1 s2 => ab_rv (f o1 s2) fun s3 => Option.bind (ab_pR s3 o c k o1) K) = K (den g L (mkC m c' o k s)) := (newc h hf).1
theorem newc_G (h : GN s o c) {c' : Nat} {f : Nat → ab_S → Option ab_R} {m : Nat → NF → NF} (hf : ∀ t p, GN t p c' → RS g L (f p (den g L t)) t (m p t) p c') : GN (mkC m c' o k s) o c := (newc (K := fun _ => none) h hf).2.1
theorem newc_K (h : GN s o c) {c' : Nat} {f : Nat → ab_S → Option ab_R} {m : Nat → NF → NF} (hf : ∀ t p, GN t p c' → RS g L (f p (den g L t)) t (m p t) p c') : KP s (mkC m c' o k s) := (newc (k := k) (K := fun _ => none) h hf).2.2
def m5 (a i : Nat) (s : NF) : NF := wrR (pshN s (0, 4)) a i (lnN s)
/-- an object in an array -/
theorem new5 (h : GN s o c) {a i n : Nat} (ha : HA s a (12, n)) (hi : i < n) (hn : n < 1000) {K : ab_S → Option ab_R} : (ab_newo (den g L s) 4 fun o2 s3 => ab_rv (f_X4_init o2 s3) fun s4 => Option.bind (ab_wR s4 a (nI i) o2) K) = K (den g L (m5 a i s)) := by
  rw [newo_d h.1, (iX4 (g := g) (L := L) (pshN s (0, 4)) (lnN s) ⟨wf_push h.1, at_new⟩).1, rv_ok, wR_d (c := 4) (at_push ha) hi (by omega) at_new, Option.bind_some]
  rfl
theorem GN_5 (h : GN s o c) {a i : Nat} {x : Nat × Nat} (ha : HA s a x) : GN (m5 a i s) o c := ⟨wf_wrR (wf_push h.1) (lt_at (at_push ha)), at_push h.2⟩
theorem KP_5 {a i : Nat} : KP s (m5 a i s) := fun q x h => at_push h
def I5 (s : NF) (o a3 a4 : Nat) : Prop := GN s o 5 ∧ lk 0 s.2.2.2 o 3 = a3 ∧ lk 0 s.2.2.2 o 4 = a4 ∧ HA s a3 (12, 5) ∧ HA s a4 (12, 5) ∧ a3 ≠ o ∧ a4 ≠ o
theorem loop5 {a3 a4 i : Nat} (h : I5 s o a3 a4) (hi : i < 5) : L_X5_init_59 o (nI i) (den g L s) = L_X5_init_59 o (nI (i + 1)) (den g L (m5 a4 i (m5 a3 i s))) ∧ I5 (m5 a4 i (m5 a3 i s)) o a3 a4 ∧ KP s (m5 a4 i (m5 a3 i s)) := by
  obtain ⟨h1, h2, h3, h4, h5, h6, h7⟩ := h
  have G1 := GN_5 (i := i) h1 h4
  have e3 : lk 0 (m5 a3 i s).2.2.2 o 4 = a4 := by
    show (if o = a3 ∧ 4 = i then lnN s else lk 0 s.2.2.2 o 4) = a4
    rw [if_neg (fun z => h6 z.1.symm)]; exact h3
  have e2 : lk 0 (m5 a3 i s).2.2.2 o 3 = a3 := by
    show (if o = a3 ∧ 3 = i then lnN s else lk 0 s.2.2.2 o 3) = a3
    rw [if_neg (fun z => h6 z.1.symm)]; exact h2
  have H5 := KP_5 (a := a3) (i := i) _ _ h5
  have H4 := KP_5 (a := a3) (i := i) _ _ h4
  refine ⟨?_, ⟨GN_5 G1 H5, ?_, ?_, KP_5 _ _ H4, KP_5 _ _ H5, h6, h7⟩, KP_trans KP_5 KP_5⟩
  · rw [e_X5_init_59, if_neg (by show ¬ nI 4 < nI i; rw [c_lt (by omega) (by omega)]; omega), gR_d h1.2, Option.bind_some, h2, new5 h1 h4 hi (by omega), gR_d G1.2, Option.bind_some, e3, new5 G1 H5 hi (by omega), nI_1]
  · show (if o = a4 ∧ 3 = i then lnN (m5 a3 i s) else lk 0 (m5 a3 i s).2.2.2 o 3) = a3
    rw [if_neg (fun z => h7 z.1.symm)]; exact e2
  · show (if o = a4 ∧ 4 = i then lnN (m5 a3 i s) else lk 0 (m5 a3 i s).2.2.2 o 4) = a4
    rw [if_neg (fun z => h7 z.1.symm)]; exact e3
def m1X5 (o : Nat) (s : NF) : NF := mkC (fun _ s => s) 4 o 5 (nA o (nA o (nA o (nA o (nA o s 0 (1, ((256 : Int32)).toNatClampNeg)) 1 (1, ((24 : Int32)).toNatClampNeg)) 2 (1, ((256 : Int32)).toNatClampNeg)) 3 (12, ((5 : Int32)).toNatClampNeg)) 4 (12, ((5 : Int32)).toNatClampNeg))
def i5 (o : Nat) (s : NF) (i : Nat) (u : NF) : NF := m5 (lnN s + 4) i (m5 (lnN s + 3) i u)
def mX5 (o : Nat) (s : NF) : NF := i5 o s 4 (i5 o s 3 (i5 o s 2 (i5 o s 1 (i5 o s 0 (m1X5 o s)))))
theorem iX5 (s : NF) (o : Nat) (h : GN s o 5) : RS g L (f_X5_init o (den g L s)) s (mX5 o s) o 5 := by
  have hk : KP s s := KP_rfl
  have hlt := lt_at h.2
  rw [e_X5_init_0, rc_d h]
  rw [newp h rfl]
  replace hk := KP_trans hk (KP_nA (o := o) (k := 0) (y := (1, ((256 : Int32)).toNatClampNeg)))
  replace h := GN_nA (k := 0) (x := (1, ((256 : Int32)).toNatClampNeg)) h
  rw [newp h rfl]
  replace hk := KP_trans hk (KP_nA (o := o) (k := 1) (y := (1, ((24 : Int32)).toNatClampNeg)))
  replace h := GN_nA (k := 1) (x := (1, ((24 : Int32)).toNatClampNeg)) h
  rw [newp h rfl]
  replace hk := KP_trans hk (KP_nA (o := o) (k := 2) (y := (1, ((256 : Int32)).toNatClampNeg)))
  replace h := GN_nA (k := 2) (x := (1, ((256 : Int32)).toNatClampNeg)) h
  rw [newp h rfl]
  replace hk := KP_trans hk (KP_nA (o := o) (k := 3) (y := (12, ((5 : Int32)).toNatClampNeg)))
  replace h := GN_nA (k := 3) (x := (12, ((5 : Int32)).toNatClampNeg)) h
  rw [newp h rfl]
  replace hk := KP_trans hk (KP_nA (o := o) (k := 4) (y := (12, ((5 : Int32)).toNatClampNeg)))
  replace h := GN_nA (k := 4) (x := (12, ((5 : Int32)).toNatClampNeg)) h
  rw [newc_e (k := 5) h (c' := 4) (f := f_X4_init) (m := fun _ s => s) iX4]
  replace hk := KP_trans hk (newc_K (k := 5) (g := g) (L := L) h (c' := 4) (f := f_X4_init) (m := fun _ s => s) iX4)
  replace h := newc_G (k := 5) (g := g) (L := L) h (c' := 4) (f := f_X4_init) (m := fun _ s => s) iX4
  change GN (m1X5 o s) o 5 at h
  change KP s (m1X5 o s) at hk
  change RS g L (L_X5_init_59 o (nI 0) (den g L (m1X5 o s))) _ _ _ _
  have l3 : lk 0 (m1X5 o s).2.2.2 o 3 = lnN s + 3 := by simp [m1X5, mkC, nA, wrR, pshN, lk, lnN]
  have l4 : lk 0 (m1X5 o s).2.2.2 o 4 = lnN s + 4 := by simp [m1X5, mkC, nA, wrR, pshN, lk, lnN]
  have k3 : HA (m1X5 o s) (lnN s + 3) (12, 5) := by
    refine ⟨by omega, ?_⟩
    simp [m1X5, mkC, nA, wrR, pshN, lnN, List.getElem?_append]
  have k4 : HA (m1X5 o s) (lnN s + 4) (12, 5) := by
    refine ⟨by omega, ?_⟩
    simp [m1X5, mkC, nA, wrR, pshN, lnN, List.getElem?_append]
  have I0 : I5 (m1X5 o s) o (lnN s + 3) (lnN s + 4) := ⟨h, l3, l4, k3, k4, by omega, by omega⟩
  obtain ⟨a1, I1, b1⟩ := loop5 (g := g) (L := L) (i := 0) I0 (by omega)
  obtain ⟨a2, I2, b2⟩ := loop5 (g := g) (L := L) (i := 1) I1 (by omega)
  obtain ⟨a3, I3, b3⟩ := loop5 (g := g) (L := L) (i := 2) I2 (by omega)
  obtain ⟨a4, I4, b4⟩ := loop5 (g := g) (L := L) (i := 3) I3 (by omega)
  obtain ⟨a5, I5', b5⟩ := loop5 (g := g) (L := L) (i := 4) I4 (by omega)
  rw [a1, a2, a3, a4, a5, e_X5_init_59, if_pos (by decide)]
  exact ⟨rfl, I5'.1, KP_trans hk (KP_trans b1 (KP_trans b2 (KP_trans b3 (KP_trans b4 b5))))⟩
theorem loop153 {a i : Nat} (h : GN s o 10) (hl : lk 0 s.2.2.2 o 0 = a) (ha : HA s a (8, 4)) (hi : i < 4) : L_X10_init_153 o (nI i) (den g L s) = L_X10_init_153 o (nI (i + 1)) (den g L (mkC mX0 0 a i s)) ∧ GN (mkC mX0 0 a i s) o 10 ∧ KP s (mkC mX0 0 a i s) := by
  obtain ⟨a1, a2, a3⟩ := iX0 (g := g) (L := L) (pshN s (0, 0)) (lnN s) ⟨wf_push h.1, at_new⟩
  have H := a3 _ _ (at_push (y := (0, 0)) ha)
  refine ⟨?_, ⟨wf_wrR a2.1 (lt_at H), a3 _ _ (at_push h.2)⟩, KP_trans KP_push a3⟩
  rw [e_X10_init_153, if_neg (by show ¬ nI 4 ≤ nI i; rw [c_le (by omega) (by omega)]; omega), gR_d h.2, Option.bind_some, hl, newo_d h.1, a1, rv_ok, wR_d (c := 0) H hi (by omega) a2.2, Option.bind_some, nI_1]
  rfl
def mX9 (o : Nat) (s : NF) : NF := wrI s o 0 (-1)
theorem loop179 {a i : Nat} (h : GN s o 10) (hl : lk 0 s.2.2.2 o 2 = a) (ha : HA s a (17, 4)) (hi : i < 4) : L_X10_init_179 o (nI i) (den g L s) = L_X10_init_179 o (nI (i + 1)) (den g L (mkC mX9 9 a i s)) ∧ GN (mkC mX9 9 a i s) o 10 ∧ KP s (mkC mX9 9 a i s) := by
  obtain ⟨a1, a2, a3⟩ := iX9 (g := g) (L := L) (pshN s (0, 9)) (lnN s) ⟨wf_push h.1, at_new⟩
  have H := a3 _ _ (at_push (y := (0, 9)) ha)
  refine ⟨?_, ⟨wf_wrR a2.1 (lt_at H), a3 _ _ (at_push h.2)⟩, KP_trans KP_push a3⟩
  rw [e_X10_init_179, if_neg (by show ¬ nI 4 ≤ nI i; rw [c_le (by omega) (by omega)]; omega), gR_d h.2, Option.bind_some, hl, newo_d h.1, a1, rv_ok, wR_d (c := 9) H hi (by omega) a2.2, Option.bind_some, nI_1]
  rfl
def sN0 : NF := ([(0, 10)], [], [], [])
def m6 (n : Int32) (o : Nat) (s : NF) : NF := nA o s 0 (1, n.toNatClampNeg)
def sN1 : NF := nA 2 (nA 2 (nA 2 sN0 0 (8, (4 : Int32).toNatClampNeg)) 1 (1, (4 : Int32).toNatClampNeg)) 2 (17, (4 : Int32).toNatClampNeg)
def sN2 : NF := mkC (m6 4000) 6 2 8 (mkC (m6 43219) 6 2 7 (mkC mX2 2 2 6 (mkC mX5 5 2 5 (mkC mX3 3 2 4 (mkC mX8 8 2 3 sN1)))))
def sN3 : NF := wrI (nA 2 sN2 9 (1, (200 : Int32).toNatClampNeg)) 2 11 (-1)
def sN4 : NF := mkC mX0 0 2 14 (mkC (m6 4000) 6 2 13 (mkC (m6 4000) 6 2 12 sN3))
def sD1 : NF := mkC mX0 0 3 0 sN4
def sD2 : NF := mkC mX0 0 3 1 sD1
def sD3 : NF := mkC mX0 0 3 2 sD2
def sD4 : NF := mkC mX0 0 3 3 sD3
def sW1 : NF := mkC mX9 9 5 0 sD4
def sW2 : NF := mkC mX9 9 5 1 sW1
def sW3 : NF := mkC mX9 9 5 2 sW2
def sW4 : NF := mkC mX9 9 5 3 sW3
theorem cls_init : f_X10_init 2 (den g L sN0) = some (none, den g L sW4) ∧ wfN sW4 := by
  have h : GN sN0 2 10 := ⟨⟨(fun q hq => absurd hq (by show ¬ q ∈ []; simp)), (fun q hq => absurd hq (by show ¬ q ∈ []; simp)), (fun q hq => absurd hq (by show ¬ q ∈ []; simp))⟩, ⟨Nat.le_refl _, rfl⟩⟩
  have hk : KP sN0 sN0 := KP_rfl
  rw [e_X10_init_0, rc_d h]
  rw [newp h rfl]
  replace hk := KP_trans hk (KP_nA (o := 2) (k := 0) (y := (8, ((4 : Int32)).toNatClampNeg)))
  replace h := GN_nA (k := 0) (x := (8, ((4 : Int32)).toNatClampNeg)) h
  rw [newp h rfl]
  replace hk := KP_trans hk (KP_nA (o := 2) (k := 1) (y := (1, ((4 : Int32)).toNatClampNeg)))
  replace h := GN_nA (k := 1) (x := (1, ((4 : Int32)).toNatClampNeg)) h
  rw [newp h rfl]
  replace hk := KP_trans hk (KP_nA (o := 2) (k := 2) (y := (17, ((4 : Int32)).toNatClampNeg)))
  replace h := GN_nA (k := 2) (x := (17, ((4 : Int32)).toNatClampNeg)) h
  rw [show nA 2 (nA 2 (nA 2 sN0 0 (8, (4 : Int32).toNatClampNeg)) 1 (1, (4 : Int32).toNatClampNeg)) 2 (17, (4 : Int32).toNatClampNeg) = sN1 from rfl]
  change GN sN1 2 10 at h
  have K3 : HA sN1 3 (8, 4) := ⟨by omega, rfl⟩
  have K5 : HA sN1 5 (17, 4) := ⟨by omega, rfl⟩
  clear hk
  have hk : KP sN1 sN1 := KP_rfl
  rw [newc_e (k := 3) h (c' := 8) (f := f_X8_init) (m := mX8) iX8]
  replace hk := KP_trans hk (newc_K (k := 3) (g := g) (L := L) h (c' := 8) (f := f_X8_init) (m := mX8) iX8)
  replace h := newc_G (k := 3) (g := g) (L := L) h (c' := 8) (f := f_X8_init) (m := mX8) iX8
  rw [newc_e (k := 4) h (c' := 3) (f := f_X3_init) (m := mX3) iX3]
  replace hk := KP_trans hk (newc_K (k := 4) (g := g) (L := L) h (c' := 3) (f := f_X3_init) (m := mX3) iX3)
  replace h := newc_G (k := 4) (g := g) (L := L) h (c' := 3) (f := f_X3_init) (m := mX3) iX3
  rw [newc_e (k := 5) h (c' := 5) (f := f_X5_init) (m := mX5) iX5]
  replace hk := KP_trans hk (newc_K (k := 5) (g := g) (L := L) h (c' := 5) (f := f_X5_init) (m := mX5) iX5)
  replace h := newc_G (k := 5) (g := g) (L := L) h (c' := 5) (f := f_X5_init) (m := mX5) iX5
  rw [newc_e (k := 6) h (c' := 2) (f := f_X2_init) (m := mX2) iX2]
  replace hk := KP_trans hk (newc_K (k := 6) (g := g) (L := L) h (c' := 2) (f := f_X2_init) (m := mX2) iX2)
  replace h := newc_G (k := 6) (g := g) (L := L) h (c' := 2) (f := f_X2_init) (m := mX2) iX2
  rw [newc_e (k := 7) h (c' := 6) (f := fun p st => f_X6_init p 43219 st) (m := m6 43219) (iX6 (n := 43219) (by decide) rfl)]
  replace hk := KP_trans hk (newc_K (k := 7) (g := g) (L := L) h (c' := 6) (f := fun p st => f_X6_init p 43219 st) (m := m6 43219) (iX6 (n := 43219) (by decide) rfl))
  replace h := newc_G (k := 7) (g := g) (L := L) h (c' := 6) (f := fun p st => f_X6_init p 43219 st) (m := m6 43219) (iX6 (n := 43219) (by decide) rfl)
  rw [newc_e (k := 8) h (c' := 6) (f := fun p st => f_X6_init p 4000 st) (m := m6 4000) (iX6 (n := 4000) (by decide) rfl)]
  replace hk := KP_trans hk (newc_K (k := 8) (g := g) (L := L) h (c' := 6) (f := fun p st => f_X6_init p 4000 st) (m := m6 4000) (iX6 (n := 4000) (by decide) rfl))
  replace h := newc_G (k := 8) (g := g) (L := L) h (c' := 6) (f := fun p st => f_X6_init p 4000 st) (m := m6 4000) (iX6 (n := 4000) (by decide) rfl)
  rw [newp h rfl]
  replace hk := KP_trans hk (KP_nA (o := 2) (k := 9) (y := (1, (200 : Int32).toNatClampNeg)))
  replace h := GN_nA (k := 9) (x := (1, (200 : Int32).toNatClampNeg)) h
  rw [pI_d h.2, Option.bind_some]
  replace hk := KP_trans hk (KP_I (o := 2) (k := 11) (v := -1))
  replace h := GN_I (a := 2) (k := 11) (v := -1) h h.2
  rw [newc_e (k := 12) h (c' := 6) (f := fun p st => f_X6_init p 4000 st) (m := m6 4000) (iX6 (n := 4000) (by decide) rfl)]
  replace hk := KP_trans hk (newc_K (k := 12) (g := g) (L := L) h (c' := 6) (f := fun p st => f_X6_init p 4000 st) (m := m6 4000) (iX6 (n := 4000) (by decide) rfl))
  replace h := newc_G (k := 12) (g := g) (L := L) h (c' := 6) (f := fun p st => f_X6_init p 4000 st) (m := m6 4000) (iX6 (n := 4000) (by decide) rfl)
  rw [newc_e (k := 13) h (c' := 6) (f := fun p st => f_X6_init p 4000 st) (m := m6 4000) (iX6 (n := 4000) (by decide) rfl)]
  replace hk := KP_trans hk (newc_K (k := 13) (g := g) (L := L) h (c' := 6) (f := fun p st => f_X6_init p 4000 st) (m := m6 4000) (iX6 (n := 4000) (by decide) rfl))
  replace h := newc_G (k := 13) (g := g) (L := L) h (c' := 6) (f := fun p st => f_X6_init p 4000 st) (m := m6 4000) (iX6 (n := 4000) (by decide) rfl)
  rw [newc_e (k := 14) h (c' := 0) (f := f_X0_init) (m := mX0) iX0]
  replace hk := KP_trans hk (newc_K (k := 14) (g := g) (L := L) h (c' := 0) (f := f_X0_init) (m := mX0) iX0)
  replace h := newc_G (k := 14) (g := g) (L := L) h (c' := 0) (f := f_X0_init) (m := mX0) iX0
  change GN sN4 2 10 at h
  change KP sN1 sN4 at hk
  change L_X10_init_153 2 (nI 0) (den g L sN4) = _ ∧ _
  replace K3 := hk _ _ K3
  replace K5 := hk _ _ K5
  obtain ⟨a0, h, hk⟩ := loop153 (g := g) (L := L) (i := 0) h (show lk 0 sN4.2.2.2 2 0 = 3 from by decide +kernel) K3 (by omega)
  change GN sD1 2 10 at h
  replace K3 := hk _ _ K3
  replace K5 := hk _ _ K5
  obtain ⟨a1, h, hk⟩ := loop153 (g := g) (L := L) (i := 1) h (show lk 0 sD1.2.2.2 2 0 = 3 from by decide +kernel) K3 (by omega)
  change GN sD2 2 10 at h
  replace K3 := hk _ _ K3
  replace K5 := hk _ _ K5
  obtain ⟨a2, h, hk⟩ := loop153 (g := g) (L := L) (i := 2) h (show lk 0 sD2.2.2.2 2 0 = 3 from by decide +kernel) K3 (by omega)
  change GN sD3 2 10 at h
  replace K3 := hk _ _ K3
  replace K5 := hk _ _ K5
  obtain ⟨a3, h, hk⟩ := loop153 (g := g) (L := L) (i := 3) h (show lk 0 sD3.2.2.2 2 0 = 3 from by decide +kernel) K3 (by omega)
  change GN sD4 2 10 at h
  replace K3 := hk _ _ K3
  replace K5 := hk _ _ K5
  rw [a0]
  change L_X10_init_153 2 (nI 1) (den g L sD1) = _ ∧ _
  rw [a1]
  change L_X10_init_153 2 (nI 2) (den g L sD2) = _ ∧ _
  rw [a2]
  change L_X10_init_153 2 (nI 3) (den g L sD3) = _ ∧ _
  rw [a3, e_X10_init_153, if_pos (by decide)]
  change L_X10_init_179 2 (nI 0) (den g L sD4) = _ ∧ _
  obtain ⟨b0, h, hk⟩ := loop179 (g := g) (L := L) (i := 0) h (show lk 0 sD4.2.2.2 2 2 = 5 from by decide +kernel) K5 (by omega)
  change GN sW1 2 10 at h
  replace K5 := hk _ _ K5
  obtain ⟨b1, h, hk⟩ := loop179 (g := g) (L := L) (i := 1) h (show lk 0 sW1.2.2.2 2 2 = 5 from by decide +kernel) K5 (by omega)
  change GN sW2 2 10 at h
  replace K5 := hk _ _ K5
  obtain ⟨b2, h, hk⟩ := loop179 (g := g) (L := L) (i := 2) h (show lk 0 sW2.2.2.2 2 2 = 5 from by decide +kernel) K5 (by omega)
  change GN sW3 2 10 at h
  replace K5 := hk _ _ K5
  obtain ⟨b3, h, hk⟩ := loop179 (g := g) (L := L) (i := 3) h (show lk 0 sW3.2.2.2 2 2 = 5 from by decide +kernel) K5 (by omega)
  change GN sW4 2 10 at h
  replace K5 := hk _ _ K5
  rw [b0]
  change L_X10_init_179 2 (nI 1) (den g L sW1) = _ ∧ _
  rw [b1]
  change L_X10_init_179 2 (nI 2) (den g L sW2) = _ ∧ _
  rw [b2]
  change L_X10_init_179 2 (nI 3) (den g L sW3) = _ ∧ _
  rw [b3, e_X10_init_179, if_pos (by decide)]
  exact ⟨rfl, h.1⟩
def sM0 : NF := pshN sW4 (0, 11)
def sM1 : NF := wrI (nA 130 (nA 130 (nA 130 (nA 130 (nA 130 (nA 130 (nA 130 (nA 130 sM0 0 (3, ((4000 : Int32)).toNatClampNeg)) 2 (3, ((14400 : Int32)).toNatClampNeg)) 3 (1, ((1200 : Int32)).toNatClampNeg)) 4 (2, ((1200 : Int32)).toNatClampNeg)) 5 (1, ((6 : Int32)).toNatClampNeg)) 6 (4, ((4 : Int32)).toNatClampNeg)) 7 (1, ((4 : Int32)).toNatClampNeg)) 8 (1, ((200 : Int32)).toNatClampNeg)) 130 10 (-1)
def sM2 : NF := (nA 130 (nA 130 (nA 130 (nA 130 (nA 130 (nA 130 (nA 130 (nA 130 (nA 130 (nA 130 (nA 130 (nA 130 (nA 130 (nA 130 (nA 130 (nA 130 (nA 130 (nA 130 (nA 130 (nA 130 (nA 130 (nA 130 (nA 130 (nA 130 (nA 130 (nA 130 (nA 130 (nA 130 (nA 130 (nA 130 (nA 130 (nA 130 (nA 130 (nA 130 sM1 11 (3, ((50000 : Int32)).toNatClampNeg)) 13 (1, ((4 : Int32)).toNatClampNeg)) 14 (1, ((4 : Int32)).toNatClampNeg)) 15 (1, ((4 : Int32)).toNatClampNeg)) 16 (4, ((4 : Int32)).toNatClampNeg)) 18 (1, ((2401 : Int32)).toNatClampNeg)) 19 (1, ((2401 : Int32)).toNatClampNeg)) 20 (1, ((2401 : Int32)).toNatClampNeg)) 21 (2, ((2401 : Int32)).toNatClampNeg)) 22 (2, ((2401 : Int32)).toNatClampNeg)) 23 (1, ((2401 : Int32)).toNatClampNeg)) 24 (1, ((2401 : Int32)).toNatClampNeg)) 26 (1, ((400 : Int32)).toNatClampNeg)) 27 (1, ((400 : Int32)).toNatClampNeg)) 28 (1, ((400 : Int32)).toNatClampNeg)) 31 (4, ((10240 : Int32)).toNatClampNeg)) 37 (1, ((6 : Int32)).toNatClampNeg)) 38 (1, ((6 : Int32)).toNatClampNeg)) 39 (1, ((6 : Int32)).toNatClampNeg)) 40 (1, ((6 : Int32)).toNatClampNeg)) 41 (4, ((400 : Int32)).toNatClampNeg)) 42 (4, ((400 : Int32)).toNatClampNeg)) 43 (4, ((364 : Int32)).toNatClampNeg)) 44 (1, ((196 : Int32)).toNatClampNeg)) 45 (3, ((50000 : Int32)).toNatClampNeg)) 46 (2, ((2402 : Int32)).toNatClampNeg)) 47 (1, ((2403 : Int32)).toNatClampNeg)) 48 (1, ((4000 : Int32)).toNatClampNeg)) 49 (1, ((4000 : Int32)).toNatClampNeg)) 50 (2, ((4000 : Int32)).toNatClampNeg)) 53 (1, ((13 : Int32)).toNatClampNeg)) 54 (1, ((13 : Int32)).toNatClampNeg)) 55 (2, ((13 : Int32)).toNatClampNeg)) 56 (3, ((12 : Int32)).toNatClampNeg))
def sM3 : NF := wrI (wrI (wrI (wrI sM2 140 0 (-1)) 140 1 (-1)) 140 2 (-1)) 140 3 (-1)
theorem loop366 {a i : Nat} (h : GN s o 11) (hl : lk 0 s.2.2.2 o 13 = a) (ha : HA s a (1, 4)) (hi : i < 4) : L_X11_init_366 o (nI i) (den g L s) = L_X11_init_366 o (nI (i + 1)) (den g L (wrI s a i (-1))) := by
  rw [e_X11_init_366, if_neg (by show ¬ nI 4 ≤ nI i; rw [c_le (by omega) (by omega)]; omega), gR_d h.2, Option.bind_some, hl, wI_d ha hi (by omega), Option.bind_some, nI_1]
theorem mod_init : f_X11_init 130 (den g L sM0) = some (none, den g L sM3) := by
  have hA : HA sM0 (lnN sW4) (0, 11) := at_new
  rw [show lnN sW4 = 130 from by decide +kernel] at hA
  have h : GN sM0 130 11 := ⟨wf_push (cls_init (g := g) (L := L)).2, hA⟩
  have hk : KP sM0 sM0 := KP_rfl
  rw [e_X11_init_0, rc_d h]
  rw [newp h rfl]
  replace hk := KP_trans hk (KP_nA (o := 130) (k := 0) (y := (3, ((4000 : Int32)).toNatClampNeg)))
  replace h := GN_nA (k := 0) (x := (3, ((4000 : Int32)).toNatClampNeg)) h
  rw [newp h rfl]
  replace hk := KP_trans hk (KP_nA (o := 130) (k := 2) (y := (3, ((14400 : Int32)).toNatClampNeg)))
  replace h := GN_nA (k := 2) (x := (3, ((14400 : Int32)).toNatClampNeg)) h
  rw [newp h rfl]
  replace hk := KP_trans hk (KP_nA (o := 130) (k := 3) (y := (1, ((1200 : Int32)).toNatClampNeg)))
  replace h := GN_nA (k := 3) (x := (1, ((1200 : Int32)).toNatClampNeg)) h
  rw [newp h rfl]
  replace hk := KP_trans hk (KP_nA (o := 130) (k := 4) (y := (2, ((1200 : Int32)).toNatClampNeg)))
  replace h := GN_nA (k := 4) (x := (2, ((1200 : Int32)).toNatClampNeg)) h
  rw [newp h rfl]
  replace hk := KP_trans hk (KP_nA (o := 130) (k := 5) (y := (1, ((6 : Int32)).toNatClampNeg)))
  replace h := GN_nA (k := 5) (x := (1, ((6 : Int32)).toNatClampNeg)) h
  rw [newp h rfl]
  replace hk := KP_trans hk (KP_nA (o := 130) (k := 6) (y := (4, ((4 : Int32)).toNatClampNeg)))
  replace h := GN_nA (k := 6) (x := (4, ((4 : Int32)).toNatClampNeg)) h
  rw [newp h rfl]
  replace hk := KP_trans hk (KP_nA (o := 130) (k := 7) (y := (1, ((4 : Int32)).toNatClampNeg)))
  replace h := GN_nA (k := 7) (x := (1, ((4 : Int32)).toNatClampNeg)) h
  rw [newp h rfl]
  replace hk := KP_trans hk (KP_nA (o := 130) (k := 8) (y := (1, ((200 : Int32)).toNatClampNeg)))
  replace h := GN_nA (k := 8) (x := (1, ((200 : Int32)).toNatClampNeg)) h
  rw [pI_d h.2, Option.bind_some]
  replace h := GN_I (a := 130) (k := 10) (v := -1) h h.2
  replace hk := KP_trans hk (KP_I (o := 130) (k := 10) (v := -1))
  rw [newp h rfl]
  replace hk := KP_trans hk (KP_nA (o := 130) (k := 11) (y := (3, ((50000 : Int32)).toNatClampNeg)))
  replace h := GN_nA (k := 11) (x := (3, ((50000 : Int32)).toNatClampNeg)) h
  rw [newp h rfl]
  replace hk := KP_trans hk (KP_nA (o := 130) (k := 13) (y := (1, ((4 : Int32)).toNatClampNeg)))
  replace h := GN_nA (k := 13) (x := (1, ((4 : Int32)).toNatClampNeg)) h
  rw [newp h rfl]
  replace hk := KP_trans hk (KP_nA (o := 130) (k := 14) (y := (1, ((4 : Int32)).toNatClampNeg)))
  replace h := GN_nA (k := 14) (x := (1, ((4 : Int32)).toNatClampNeg)) h
  rw [newp h rfl]
  replace hk := KP_trans hk (KP_nA (o := 130) (k := 15) (y := (1, ((4 : Int32)).toNatClampNeg)))
  replace h := GN_nA (k := 15) (x := (1, ((4 : Int32)).toNatClampNeg)) h
  rw [newp h rfl]
  replace hk := KP_trans hk (KP_nA (o := 130) (k := 16) (y := (4, ((4 : Int32)).toNatClampNeg)))
  replace h := GN_nA (k := 16) (x := (4, ((4 : Int32)).toNatClampNeg)) h
  rw [newp h rfl]
  replace hk := KP_trans hk (KP_nA (o := 130) (k := 18) (y := (1, ((2401 : Int32)).toNatClampNeg)))
  replace h := GN_nA (k := 18) (x := (1, ((2401 : Int32)).toNatClampNeg)) h
  rw [newp h rfl]
  replace hk := KP_trans hk (KP_nA (o := 130) (k := 19) (y := (1, ((2401 : Int32)).toNatClampNeg)))
  replace h := GN_nA (k := 19) (x := (1, ((2401 : Int32)).toNatClampNeg)) h
  rw [newp h rfl]
  replace hk := KP_trans hk (KP_nA (o := 130) (k := 20) (y := (1, ((2401 : Int32)).toNatClampNeg)))
  replace h := GN_nA (k := 20) (x := (1, ((2401 : Int32)).toNatClampNeg)) h
  rw [newp h rfl]
  replace hk := KP_trans hk (KP_nA (o := 130) (k := 21) (y := (2, ((2401 : Int32)).toNatClampNeg)))
  replace h := GN_nA (k := 21) (x := (2, ((2401 : Int32)).toNatClampNeg)) h
  rw [newp h rfl]
  replace hk := KP_trans hk (KP_nA (o := 130) (k := 22) (y := (2, ((2401 : Int32)).toNatClampNeg)))
  replace h := GN_nA (k := 22) (x := (2, ((2401 : Int32)).toNatClampNeg)) h
  rw [newp h rfl]
  replace hk := KP_trans hk (KP_nA (o := 130) (k := 23) (y := (1, ((2401 : Int32)).toNatClampNeg)))
  replace h := GN_nA (k := 23) (x := (1, ((2401 : Int32)).toNatClampNeg)) h
  rw [newp h rfl]
  replace hk := KP_trans hk (KP_nA (o := 130) (k := 24) (y := (1, ((2401 : Int32)).toNatClampNeg)))
  replace h := GN_nA (k := 24) (x := (1, ((2401 : Int32)).toNatClampNeg)) h
  rw [newp h rfl]
  replace hk := KP_trans hk (KP_nA (o := 130) (k := 26) (y := (1, ((400 : Int32)).toNatClampNeg)))
  replace h := GN_nA (k := 26) (x := (1, ((400 : Int32)).toNatClampNeg)) h
  rw [newp h rfl]
  replace hk := KP_trans hk (KP_nA (o := 130) (k := 27) (y := (1, ((400 : Int32)).toNatClampNeg)))
  replace h := GN_nA (k := 27) (x := (1, ((400 : Int32)).toNatClampNeg)) h
  rw [newp h rfl]
  replace hk := KP_trans hk (KP_nA (o := 130) (k := 28) (y := (1, ((400 : Int32)).toNatClampNeg)))
  replace h := GN_nA (k := 28) (x := (1, ((400 : Int32)).toNatClampNeg)) h
  rw [newp h rfl]
  replace hk := KP_trans hk (KP_nA (o := 130) (k := 31) (y := (4, ((10240 : Int32)).toNatClampNeg)))
  replace h := GN_nA (k := 31) (x := (4, ((10240 : Int32)).toNatClampNeg)) h
  rw [newp h rfl]
  replace hk := KP_trans hk (KP_nA (o := 130) (k := 37) (y := (1, ((6 : Int32)).toNatClampNeg)))
  replace h := GN_nA (k := 37) (x := (1, ((6 : Int32)).toNatClampNeg)) h
  rw [newp h rfl]
  replace hk := KP_trans hk (KP_nA (o := 130) (k := 38) (y := (1, ((6 : Int32)).toNatClampNeg)))
  replace h := GN_nA (k := 38) (x := (1, ((6 : Int32)).toNatClampNeg)) h
  rw [newp h rfl]
  replace hk := KP_trans hk (KP_nA (o := 130) (k := 39) (y := (1, ((6 : Int32)).toNatClampNeg)))
  replace h := GN_nA (k := 39) (x := (1, ((6 : Int32)).toNatClampNeg)) h
  rw [newp h rfl]
  replace hk := KP_trans hk (KP_nA (o := 130) (k := 40) (y := (1, ((6 : Int32)).toNatClampNeg)))
  replace h := GN_nA (k := 40) (x := (1, ((6 : Int32)).toNatClampNeg)) h
  rw [newp h rfl]
  replace hk := KP_trans hk (KP_nA (o := 130) (k := 41) (y := (4, ((400 : Int32)).toNatClampNeg)))
  replace h := GN_nA (k := 41) (x := (4, ((400 : Int32)).toNatClampNeg)) h
  rw [newp h rfl]
  replace hk := KP_trans hk (KP_nA (o := 130) (k := 42) (y := (4, ((400 : Int32)).toNatClampNeg)))
  replace h := GN_nA (k := 42) (x := (4, ((400 : Int32)).toNatClampNeg)) h
  rw [newp h rfl]
  replace hk := KP_trans hk (KP_nA (o := 130) (k := 43) (y := (4, ((364 : Int32)).toNatClampNeg)))
  replace h := GN_nA (k := 43) (x := (4, ((364 : Int32)).toNatClampNeg)) h
  rw [newp h rfl]
  replace hk := KP_trans hk (KP_nA (o := 130) (k := 44) (y := (1, ((196 : Int32)).toNatClampNeg)))
  replace h := GN_nA (k := 44) (x := (1, ((196 : Int32)).toNatClampNeg)) h
  rw [newp h rfl]
  replace hk := KP_trans hk (KP_nA (o := 130) (k := 45) (y := (3, ((50000 : Int32)).toNatClampNeg)))
  replace h := GN_nA (k := 45) (x := (3, ((50000 : Int32)).toNatClampNeg)) h
  rw [newp h rfl]
  replace hk := KP_trans hk (KP_nA (o := 130) (k := 46) (y := (2, ((2402 : Int32)).toNatClampNeg)))
  replace h := GN_nA (k := 46) (x := (2, ((2402 : Int32)).toNatClampNeg)) h
  rw [newp h rfl]
  replace hk := KP_trans hk (KP_nA (o := 130) (k := 47) (y := (1, ((2403 : Int32)).toNatClampNeg)))
  replace h := GN_nA (k := 47) (x := (1, ((2403 : Int32)).toNatClampNeg)) h
  rw [newp h rfl]
  replace hk := KP_trans hk (KP_nA (o := 130) (k := 48) (y := (1, ((4000 : Int32)).toNatClampNeg)))
  replace h := GN_nA (k := 48) (x := (1, ((4000 : Int32)).toNatClampNeg)) h
  rw [newp h rfl]
  replace hk := KP_trans hk (KP_nA (o := 130) (k := 49) (y := (1, ((4000 : Int32)).toNatClampNeg)))
  replace h := GN_nA (k := 49) (x := (1, ((4000 : Int32)).toNatClampNeg)) h
  rw [newp h rfl]
  replace hk := KP_trans hk (KP_nA (o := 130) (k := 50) (y := (2, ((4000 : Int32)).toNatClampNeg)))
  replace h := GN_nA (k := 50) (x := (2, ((4000 : Int32)).toNatClampNeg)) h
  rw [newp h rfl]
  replace hk := KP_trans hk (KP_nA (o := 130) (k := 53) (y := (1, ((13 : Int32)).toNatClampNeg)))
  replace h := GN_nA (k := 53) (x := (1, ((13 : Int32)).toNatClampNeg)) h
  rw [newp h rfl]
  replace hk := KP_trans hk (KP_nA (o := 130) (k := 54) (y := (1, ((13 : Int32)).toNatClampNeg)))
  replace h := GN_nA (k := 54) (x := (1, ((13 : Int32)).toNatClampNeg)) h
  rw [newp h rfl]
  replace hk := KP_trans hk (KP_nA (o := 130) (k := 55) (y := (2, ((13 : Int32)).toNatClampNeg)))
  replace h := GN_nA (k := 55) (x := (2, ((13 : Int32)).toNatClampNeg)) h
  rw [newp h rfl]
  replace hk := KP_trans hk (KP_nA (o := 130) (k := 56) (y := (3, ((12 : Int32)).toNatClampNeg)))
  replace h := GN_nA (k := 56) (x := (3, ((12 : Int32)).toNatClampNeg)) h
  change GN sM2 130 11 at h
  change L_X11_init_366 130 (nI 0) (den g L sM2) = _
  have lM : lk 0 sM2.2.2.2 130 13 = 140 := by decide +kernel
  have kM : HA sM2 140 (1, 4) := by unfold HA; decide +kernel
  rw [loop366 h lM kM (by omega), loop366 (s := wrI sM2 140 0 (-1)) (GN_I h kM) lM kM (by omega), loop366 (s := wrI (wrI sM2 140 0 (-1)) 140 1 (-1)) (GN_I (x := (1, 4)) (GN_I h kM) kM) lM kM (by omega), loop366 (s := wrI (wrI (wrI sM2 140 0 (-1)) 140 1 (-1)) 140 2 (-1)) (GN_I (x := (1, 4)) (GN_I (x := (1, 4)) (GN_I h kM) kM) kM) lM kM (by omega), e_X11_init_366, if_pos (by decide)]
  rfl
end START
