/-! THE HEAP'S ROWS over an abstract state -/
def kdok (ks : List Nat) (ty : FieldType) (k : Nat) : Bool := match ks[k]?, ty with
  | some 0, .int => true
  | some 1, .boolean => true
  | some 2, .long => true
  | some 3, .object _ => true
  | some 3, .array _ => true
  | _, _ => false
theorem cl_w0 : ∀ w ∈ u_ws RX0 TX0 3, w ∈ ab_ws := by decide +kernel
theorem cl_t0 : ∀ k, k < 3 → parseFieldDescriptor (TX0 k).2.2.1 = some (ab_ty 0 k) := by decide +kernel
theorem cl_n0 : ∀ a, a < 3 → ∀ b, b < 3 → a ≠ b → (TX0 a).2.1 ≠ (TX0 b).2.1 := by decide +kernel
theorem cl_k0 : ∀ k, k < 3 → kdok (ab_fk 0) (ab_ty 0 k) k = true := by decide +kernel
theorem cl_w1 : ∀ w ∈ u_ws RX1 TX1 11, w ∈ ab_ws := by decide +kernel
theorem cl_t1 : ∀ k, k < 11 → parseFieldDescriptor (TX1 k).2.2.1 = some (ab_ty 1 k) := by decide +kernel
theorem cl_n1 : ∀ a, a < 11 → ∀ b, b < 11 → a ≠ b → (TX1 a).2.1 ≠ (TX1 b).2.1 := by decide +kernel
theorem cl_k1 : ∀ k, k < 11 → kdok (ab_fk 1) (ab_ty 1 k) k = true := by decide +kernel
theorem cl_w2 : ∀ w ∈ u_ws RX2 TX2 3, w ∈ ab_ws := by decide +kernel
theorem cl_t2 : ∀ k, k < 3 → parseFieldDescriptor (TX2 k).2.2.1 = some (ab_ty 2 k) := by decide +kernel
theorem cl_n2 : ∀ a, a < 3 → ∀ b, b < 3 → a ≠ b → (TX2 a).2.1 ≠ (TX2 b).2.1 := by decide +kernel
theorem cl_k2 : ∀ k, k < 3 → kdok (ab_fk 2) (ab_ty 2 k) k = true := by decide +kernel
theorem cl_w3 : ∀ w ∈ u_ws RX3 TX3 5, w ∈ ab_ws := by decide +kernel
theorem cl_t3 : ∀ k, k < 5 → parseFieldDescriptor (TX3 k).2.2.1 = some (ab_ty 3 k) := by decide +kernel
theorem cl_n3 : ∀ a, a < 5 → ∀ b, b < 5 → a ≠ b → (TX3 a).2.1 ≠ (TX3 b).2.1 := by decide +kernel
theorem cl_k3 : ∀ k, k < 5 → kdok (ab_fk 3) (ab_ty 3 k) k = true := by decide +kernel
theorem cl_w4 : ∀ w ∈ u_ws RX4 TX4 3, w ∈ ab_ws := by decide +kernel
theorem cl_t4 : ∀ k, k < 3 → parseFieldDescriptor (TX4 k).2.2.1 = some (ab_ty 4 k) := by decide +kernel
theorem cl_n4 : ∀ a, a < 3 → ∀ b, b < 3 → a ≠ b → (TX4 a).2.1 ≠ (TX4 b).2.1 := by decide +kernel
theorem cl_k4 : ∀ k, k < 3 → kdok (ab_fk 4) (ab_ty 4 k) k = true := by decide +kernel
theorem cl_w5 : ∀ w ∈ u_ws RX5 TX5 10, w ∈ ab_ws := by decide +kernel
theorem cl_t5 : ∀ k, k < 10 → parseFieldDescriptor (TX5 k).2.2.1 = some (ab_ty 5 k) := by decide +kernel
theorem cl_n5 : ∀ a, a < 10 → ∀ b, b < 10 → a ≠ b → (TX5 a).2.1 ≠ (TX5 b).2.1 := by decide +kernel
theorem cl_k5 : ∀ k, k < 10 → kdok (ab_fk 5) (ab_ty 5 k) k = true := by decide +kernel
theorem cl_w6 : ∀ w ∈ u_ws RX6 TX6 2, w ∈ ab_ws := by decide +kernel
theorem cl_t6 : ∀ k, k < 2 → parseFieldDescriptor (TX6 k).2.2.1 = some (ab_ty 6 k) := by decide +kernel
theorem cl_n6 : ∀ a, a < 2 → ∀ b, b < 2 → a ≠ b → (TX6 a).2.1 ≠ (TX6 b).2.1 := by decide +kernel
theorem cl_k6 : ∀ k, k < 2 → kdok (ab_fk 6) (ab_ty 6 k) k = true := by decide +kernel
theorem cl_w7 : ∀ w ∈ u_ws RX7 TX7 4, w ∈ ab_ws := by decide +kernel
theorem cl_t7 : ∀ k, k < 4 → parseFieldDescriptor (TX7 k).2.2.1 = some (ab_ty 7 k) := by decide +kernel
theorem cl_n7 : ∀ a, a < 4 → ∀ b, b < 4 → a ≠ b → (TX7 a).2.1 ≠ (TX7 b).2.1 := by decide +kernel
theorem cl_k7 : ∀ k, k < 4 → kdok (ab_fk 7) (ab_ty 7 k) k = true := by decide +kernel
theorem cl_w8 : ∀ w ∈ u_ws RX8 TX8 15, w ∈ ab_ws := by decide +kernel
theorem cl_t8 : ∀ k, k < 15 → parseFieldDescriptor (TX8 k).2.2.1 = some (ab_ty 8 k) := by decide +kernel
theorem cl_n8 : ∀ a, a < 15 → ∀ b, b < 15 → a ≠ b → (TX8 a).2.1 ≠ (TX8 b).2.1 := by decide +kernel
theorem cl_k8 : ∀ k, k < 15 → kdok (ab_fk 8) (ab_ty 8 k) k = true := by decide +kernel
theorem cl_w9 : ∀ w ∈ u_ws RX9 TX9 4, w ∈ ab_ws := by decide +kernel
theorem cl_t9 : ∀ k, k < 4 → parseFieldDescriptor (TX9 k).2.2.1 = some (ab_ty 9 k) := by decide +kernel
theorem cl_n9 : ∀ a, a < 4 → ∀ b, b < 4 → a ≠ b → (TX9 a).2.1 ≠ (TX9 b).2.1 := by decide +kernel
theorem cl_k9 : ∀ k, k < 4 → kdok (ab_fk 9) (ab_ty 9 k) k = true := by decide +kernel
theorem cl_w10 : ∀ w ∈ u_ws RX10 TX10 15, w ∈ ab_ws := by decide +kernel
theorem cl_t10 : ∀ k, k < 15 → parseFieldDescriptor (TX10 k).2.2.1 = some (ab_ty 10 k) := by decide +kernel
theorem cl_n10 : ∀ a, a < 15 → ∀ b, b < 15 → a ≠ b → (TX10 a).2.1 ≠ (TX10 b).2.1 := by decide +kernel
theorem cl_k10 : ∀ k, k < 15 → kdok (ab_fk 10) (ab_ty 10 k) k = true := by decide +kernel
theorem cl_w11 : ∀ w ∈ u_ws RX11 TX11 57, w ∈ ab_ws := by decide +kernel
theorem cl_t11 : ∀ k, k < 57 → parseFieldDescriptor (TX11 k).2.2.1 = some (ab_ty 11 k) := by decide +kernel
theorem cl_n11 : ∀ a, a < 57 → ∀ b, b < 57 → a ≠ b → (TX11 a).2.1 ≠ (TX11 b).2.1 := by decide +kernel
theorem cl_k11 : ∀ k, k < 57 → kdok (ab_fk 11) (ab_ty 11 k) k = true := by decide +kernel
def cl_P (ci : Nat) (C : String) (T : u_T) (N : Nat) : Prop := (∀ w ∈ u_ws C T N, w ∈ ab_ws) ∧ (∀ k, k < N → parseFieldDescriptor (T k).2.2.1 = some (ab_ty ci k)) ∧ (∀ a, a < N → ∀ b, b < N → a ≠ b → (T a).2.1 ≠ (T b).2.1) ∧ (ab_fk ci).length = N ∧ ∀ k, k < N → kdok (ab_fk ci) (ab_ty ci k) k = true
theorem cl_ok {ci : Nat} {q : vw_C} (h : ab_cl[ci]? = some q) : cl_P ci q.1 q.2.1 q.2.2 := by
  match ci, h with
  | 0, h => cases h; exact ⟨cl_w0, cl_t0, cl_n0, rfl, cl_k0⟩
  | 1, h => cases h; exact ⟨cl_w1, cl_t1, cl_n1, rfl, cl_k1⟩
  | 2, h => cases h; exact ⟨cl_w2, cl_t2, cl_n2, rfl, cl_k2⟩
  | 3, h => cases h; exact ⟨cl_w3, cl_t3, cl_n3, rfl, cl_k3⟩
  | 4, h => cases h; exact ⟨cl_w4, cl_t4, cl_n4, rfl, cl_k4⟩
  | 5, h => cases h; exact ⟨cl_w5, cl_t5, cl_n5, rfl, cl_k5⟩
  | 6, h => cases h; exact ⟨cl_w6, cl_t6, cl_n6, rfl, cl_k6⟩
  | 7, h => cases h; exact ⟨cl_w7, cl_t7, cl_n7, rfl, cl_k7⟩
  | 8, h => cases h; exact ⟨cl_w8, cl_t8, cl_n8, rfl, cl_k8⟩
  | 9, h => cases h; exact ⟨cl_w9, cl_t9, cl_n9, rfl, cl_k9⟩
  | 10, h => cases h; exact ⟨cl_w10, cl_t10, cl_n10, rfl, cl_k10⟩
  | 11, h => cases h; exact ⟨cl_w11, cl_t11, cl_n11, rfl, cl_k11⟩
  | n + 12, h => simp [ab_cl] at h
theorem cl_lt {ci : Nat} (h : ci < 12) : ∃ q, ab_cl[ci]? = some q := ⟨_, List.getElem?_eq_getElem (by simpa [ab_cl] using h)⟩
def fok (own : String) (i ci k kd : Nat) : Bool := match ab_cl[ci]? with
  | some q => decide (k < q.2.2) && (decide ((ab_fk ci)[k]? = some kd) && (decide (Cond.fieldLink own i (q.2.1 k).1 (q.2.1 k).2.1 (q.2.1 k).2.2.1 ∈ ab_ws) || decide (Cond.fieldLinkNest own i (q.2.1 k).1 (q.2.1 k).2.1 (q.2.1 k).2.2.1 "TermMachine" ∈ ab_nw)))
  | none => false
theorem fok_e {own : String} {i ci k kd : Nat} (h : fok own i ci k kd = true) : ∃ q : vw_C, ab_cl[ci]? = some q ∧ k < q.2.2 ∧ (ab_fk ci)[k]? = some kd ∧ (Cond.fieldLink own i (q.2.1 k).1 (q.2.1 k).2.1 (q.2.1 k).2.2.1 ∈ ab_ws ∨ Cond.fieldLinkNest own i (q.2.1 k).1 (q.2.1 k).2.1 (q.2.1 k).2.2.1 "TermMachine" ∈ ab_nw) := by
  unfold fok at h
  split at h
  · next q hq =>
    simp only [Bool.and_eq_true, Bool.or_eq_true, decide_eq_true_eq] at h
    exact ⟨q, hq, h.1, h.2.1, h.2.2⟩
  · cases h
/-- a final field is written in its own class' constructor alone -/
def pok (own : String) (init : Bool) (i ci k : Nat) : Bool := match ab_cl[ci]? with
  | some q => (q.2.1 k).2.2.2 == false || (init && (decide ((q.2.1 k).1 = own) && decide (Cond.fieldLink own i (q.2.1 k).1 (q.2.1 k).2.1 (q.2.1 k).2.2.1 ∈ ab_ws)))
  | none => false
/-- what holds all through a method's body -/
def Cx (p : Program) (s : State) (m : MethodId) (args : Array Value) (c : Code) (cc : ByteArray) (own : String) (nL : Nat) (D : va_G) (aK : Nat → ClassId) (b N0 L : Nat) (xs : Nat → Int32) : Prop :=
  p.tables.exec = Jvm.exec ∧ c.code = cc ∧ c.maxLocals = nL ∧ s.vm.findClass own = some m.cls ∧ (∀ w ∈ ab_ws, w.before args s = true) ∧ rk D aK b N0 L xs s
section HR
variable {p : Program} {l : Launch} {e : Env} {R : Room} {s : State} {m : MethodId} {args : Array Value} {below : List Frame} {meth : Method} {c : Code} {Q : State → Prop}
variable {D : va_G} {aK : Nat → ClassId} {b N0 L : Nat} {xs : Nat → Int32} {nL : Nat} {cc : ByteArray} {own : String} {pc : Nat} {lsA : Array Slot} {rest : List Value} {H : Heap} {locs : List Loc} {cells slots : Nat} {st : ab_S}
theorem ab_get (X : Cx p s m args c cc own nL D aK b N0 L xs) {i ci k kd o : Nat} (hf : fok own i ci k kd = true) (hr : rp D aK b N0 L xs st H) (hs : (sH st)[o]? = some (0, ci)) (hdg : decode cc pc = .ok (.getfield i, 3))
    (kk : W p l e R s m args below meth c H locs cells slots Q (F0 m (pc + 3) lsA (fv b N0 st o k kd :: rest))) : W p l e R s m args below meth c H locs cells slots Q (F0 m pc lsA (cv b N0 (.ref o) :: rest)) := by
  obtain ⟨o, rfl⟩ := rp_ge hr hs (by simp) (by simp)
  obtain ⟨hx, hb, -, hown, hts, hrk⟩ := X
  obtain ⟨q, hq, hk, hkd, hw⟩ := fok_e hf
  obtain ⟨C, T, N⟩ := q
  have hc := cl_ok hq
  have he := wsl_get (b := b) (N0 := N0) (aK := aK) hs
  have hv : (flv b N0 st (o + 2) 0 (ab_fk ci))[k]? = some (fv b N0 st (o + 2) k kd) := by rw [flv_get, hkd]; simp
  rcases hw with hw | hw
  · exact va_get (ci := ci) (v := fv b N0 st (o + 2) k kd) (C := C) (T := T) (N := N) hx hb hts hc.1 hown hrk.1 hr.1 o he hq k hk (hts _ hw) (fun _ h => h) hv hdg kk
  · exact va_getN (ci := ci) (v := fv b N0 st (o + 2) k kd) (C := C) (T := T) (N := N) hx hb hts hc.1 hown hrk.1 hr.1 o he hq k hk (va_Nw.use rfl (hrk.2.1 _ hw)) (fun _ h => h) hv hdg kk
theorem ab_put (X : Cx p s m args c cc own nL D aK b N0 L xs) {init : Bool} (hin : init = true → meth.name = "<init>") {i ci k kd o : Nat} {st' : ab_S} (hf : fok own i ci k kd = true) (hp : pok own init i ci k = true) (hr : rp D aK b N0 L xs st H) (hS : va_S (fun q => N0 ≤ q) s.heap H locs) (hs : (sH st)[o]? = some (0, ci))
    (hH : sH st' = sH st) (hoth : ∀ j, j ≠ o → sI st' j = sI st j ∧ sJ st' j = sJ st j ∧ sR st' j = sR st j) (hsame : ∀ j t', j ≠ k → fv b N0 st' o j t' = fv b N0 st o j t') (hn : narrow (ab_ty ci k) (fv b N0 st' o k kd) = fv b N0 st' o k kd) (hfit : fits (ab_ty ci k) (fv b N0 st' o k kd) = true) (hdg : decode cc pc = .ok (.putfield i, 3))
    (kk : ∀ (H1 : Heap) (locs1 : List Loc), rp D aK b N0 L xs st' H1 → va_S (fun q => N0 ≤ q) s.heap H1 locs1 → W p l e R s m args below meth c H1 locs1 cells slots Q (F0 m (pc + 3) lsA rest)) : W p l e R s m args below meth c H locs cells slots Q (F0 m pc lsA (fv b N0 st' o k kd :: cv b N0 (.ref o) :: rest)) := by
  obtain ⟨o, rfl⟩ := rp_ge hr hs (by simp) (by simp)
  obtain ⟨hx, hb, -, hown, hts, hrk⟩ := X
  obtain ⟨q, hq, hk, hkd, hw⟩ := fok_e hf
  obtain ⟨C, T, N⟩ := q
  obtain ⟨hin0, hty, hnm, hlen, -⟩ := cl_ok hq
  have hd := hty k hk
  have hap := va_apart (own := own) hts hin0 (ab_ty ci) hty hnm hrk.1 hq
  obtain ⟨r, h1, cell, q1, q2, q3, q4⟩ := hr.1 o _ (wsl_get (b := b) (N0 := N0) (aK := aK) hs)
  have hr2 : r = (C, T, N) := Option.some.inj (h1.symm.trans hq)
  subst hr2
  obtain ⟨hSl, hfc, kC, hkC, hkind⟩ := hrk.1.1 ci _ hq
  obtain ⟨cf, kf, fi, f, hi, hsl⟩ := hSl k hk
  have hlay := hts _ (hin0 _ (u_in_lay hk))
  have hst := (u_facts hfc hkC (u_lays hts hin0 hk) hi).1
  have hl : k < (flv b N0 st (o + 2) 0 (ab_fk ci)).length := by rw [flv_len]; exact (List.getElem?_eq_some_iff.mp hkd).1
  have fin : ∀ (H' : Heap), H'[N0 + o]? = some (cell.setSlot ((D.2 ci) k) (fv b N0 st' (o + 2) k kd)) → H'.size = H.size → (∀ q : Nat, q ≠ N0 + o → H'[q]? = H[q]?) → ∀ sl, W p l e R s m args below meth c H' (locs ++ [⟨N0 + o, sl⟩]) cells slots Q (F0 m (pc + 3) lsA rest) := by
    intro H' e1 e2 e3 sl
    refine kk H' _ (rp_set hr hs hH (fun j => by rw [(hoth 1 (by omega)).1]) (fun j h' hj => ?_) e2 e3 ?_) (hS.put e2 e3 (Nat.le_add_right N0 o))
    · obtain ⟨a1, a2, a3⟩ := hoth (j + 2) (by omega)
      unfold en
      rw [a1, a2, a3, flv_congr (st' := st') (st := st) (fun k t => by unfold fv; rw [a1, a2, a3])]
    · show ∃ r : vw_C, ab_cl[ci]? = some r ∧ t_OB (N0 + o) (D.1 ci) r.2.2 (D.2 ci) H' (vp_V (flv b N0 st' (o + 2) 0 (ab_fk ci)))
      refine ⟨_, hq, t_OB.to (V := updV (vp_V (flv b N0 st (o + 2) 0 (ab_fk ci))) k (fv b N0 st' (o + 2) k kd)) ⟨_, e1, q2, q3, t_set q4 hap hk _⟩ (fun j _ => ?_)⟩
      rw [vp_updV_set hl, flv_set hkd rfl hsame]
  have hlt : f.slot < cell.slots.size := by rw [hsl]; exact k2_hasslot (q4 k hk)
  by_cases hfin : (T k).2.2.2 = true
  · unfold pok at hp
    rw [hq] at hp
    simp only [hfin, Bool.or_eq_true, Bool.and_eq_true, decide_eq_true_eq] at hp
    rcases hp with hp | ⟨hp1, hp2, hp3⟩
    · cases hp
    · unfold u_lay at hlay
      rw [if_pos hfin] at hlay
      have hcf : m.cls = cf := by
        obtain ⟨_, _, c', _, _, _, -, -, hf', -, -, -, hown2, -⟩ := Cond.laysFinal_spec hlay
        have e1 : c' = cf := by have := hi.symm.trans hf'; simp at this; exact this.1.symm
        rw [hp2] at hown2
        rw [← e1]; exact Option.some.inj (hown.symm.trans hown2)
      have h6 := u_fits hfc hkC hkind (Or.inr hlay) hi hd hn hfit
      refine W.putFinK hx hb hown (hts _ hp3) hi hst hcf (hin hp1) (by rw [q2]; exact h6) q1 q3 hlt rfl rfl hdg fun H' e1 e2 e3 => ?_
      rw [hsl] at e1
      exact fin H' e1 e2 e3 _
  · unfold u_lay at hlay
    rw [if_neg hfin] at hlay
    have h6 := u_store hfc hkC hkind hlay hi hd hn hfit
    rcases hw with hw | hw
    · refine W.putK hx hb (f := f) ⟨hown, hts _ hw, ⟨_, _, _, hi⟩, hst⟩ (by rw [q2]; exact h6) q1 q3 hlt rfl rfl hdg fun H' e1 e2 e3 => ?_
      rw [hsl] at e1
      exact fin H' e1 e2 e3 _
    · refine va_WputK hx hb (f := f) hown (va_Nw.use rfl (hrk.2.1 _ hw)) hi hst (by rw [q2]; exact h6) q1 q3 hlt rfl rfl hdg fun H' e1 e2 e3 => ?_
      rw [hsl] at e1
      exact fin H' e1 e2 e3 _
theorem ab_rd_e {st : ab_S} {a : Nat} {i : Int32} {f : Nat → Bool} {k : Nat} (h : ab_rd st a i f = some k) : ∃ n, (sH st)[a]? = some (k, n) ∧ f k = true ∧ vp_in i n := by
  unfold ab_rd at h
  split at h
  · next k' n hs =>
    split at h
    · next hc => cases h; exact ⟨n, hs, hc.1, hc.2⟩
    · cases h
  · cases h
theorem rp_sh {a : Nat} {q : Nat × Nat} (hr : rp D aK b N0 L xs st H) (hs : (sH st)[a + 2]? = some q) : shOK q := hr.2.2.2.2.2 a q hs
/-- one place of an array changes -/
theorem rp_arr {a n kd : Nat} {st' : ab_S} {H1 : Heap} (hr : rp D aK b N0 L xs st H) (hs : (sH st)[a + 2]? = some (kd, n)) (hH : sH st' = sH st) (hoth : ∀ j, j ≠ a + 2 → sI st' j = sI st j ∧ sJ st' j = sJ st j ∧ sR st' j = sR st j)
    (hz : H1.size = H.size) (hq : ∀ x : Nat, x ≠ N0 + a → H1[x]? = H[x]?) (hat : va_at D ab_cl (N0 + a, en b N0 aK st' (a + 2) (kd, n)) H1) : rp D aK b N0 L xs st' H1 := by
  refine rp_set hr hs hH (fun j => by rw [(hoth 1 (by omega)).1]) (fun j h' hj => ?_) hz hq hat
  obtain ⟨a1, a2, a3⟩ := hoth (j + 2) (by omega)
  unfold en
  rw [a1, a2, a3, flv_congr (st' := st') (st := st) (fun k t => by unfold fv; rw [a1, a2, a3])]
theorem ab_iald (X : Cx p s m args c cc own nL D aK b N0 L xs) {a : Nat} {i : Int32} {v : Int32} (hr : rp D aK b N0 L xs st H) (hS : va_S (fun q => N0 ≤ q) s.heap H locs) (h : ab_rI st a i = some v) (hdg : decode cc pc = .ok (.iaload, 1))
    (kk : W p l e R s m args below meth c H locs cells slots Q (F0 m (pc + 1) lsA (.int v :: rest))) : W p l e R s m args below meth c H locs cells slots Q (F0 m pc lsA (.int i :: cv b N0 (.ref a) :: rest)) := by
  obtain ⟨hx, hb, -, hown, hts, hrk⟩ := X
  unfold ab_rI at h
  cases hd : ab_rd st a i (fun k => k == 1 || k == 7) with
  | none => rw [hd] at h; cases h
  | some k =>
    rw [hd] at h
    cases h
    obtain ⟨n, hs, hk, hi⟩ := ab_rd_e hd
    match a, hs with
    | 0, hs => rw [hr.2.2.1] at hs; cases hs; cases hk
    | 1, hs =>
      have hL := hr.2.2.2.1
      rw [hL] at hs; cases hs
      have hlt : i.toNatClampNeg < L := Nat.not_le.mp fun q => hi (Or.inr q)
      have e1 : sI st 1 i.toNatClampNeg = xs i.toNatClampNeg := hr.2.2.2.2.1 _ hlt
      rw [e1] at kk
      exact va_sld (A := fun q => N0 ≤ q) hx hb hrk.2.2.2.2.2.1 (Nat.lt_of_lt_of_le hrk.2.2.2.2.2.2.1 hrk.2.2.2.2.2.2.2) (Nat.not_le.mpr hrk.2.2.2.2.2.2.1) hS hi hdg kk
    | a + 2, hs =>
      have h1 : k = 1 := by
        have h2 := rp_sh hr hs
        simp only [Bool.or_eq_true, beq_iff_eq] at hk
        rcases hk with rfl | rfl
        · rfl
        · simp [shOK] at h2
      subst h1
      exact va_iald (f := sI st (a + 2)) hx hb hrk.1 hr.1 a 0 (wsl_get (b := b) (N0 := N0) (aK := aK) hs) rfl hi hdg kk
theorem ab_bald (X : Cx p s m args c cc own nL D aK b N0 L xs) {a : Nat} {i : Int32} {v : Int32} (hr : rp D aK b N0 L xs st H) (h : ab_rB st a i = some v) (hdg : decode cc pc = .ok (.baload, 1))
    (kk : W p l e R s m args below meth c H locs cells slots Q (F0 m (pc + 1) lsA (.int v :: rest))) : W p l e R s m args below meth c H locs cells slots Q (F0 m pc lsA (.int i :: cv b N0 (.ref a) :: rest)) := by
  obtain ⟨hx, hb, -, hown, hts, hrk⟩ := X
  unfold ab_rB at h
  cases hd : ab_rd st a i (fun k => k == 3 || k == 4) with
  | none => rw [hd] at h; cases h
  | some k =>
    rw [hd] at h
    cases h
    obtain ⟨n, hs, hk, hi⟩ := ab_rd_e hd
    simp only [Bool.or_eq_true, beq_iff_eq] at hk
    obtain ⟨a, rfl⟩ := rp_ge hr hs (by rcases hk with rfl | rfl <;> simp) (by rcases hk with rfl | rfl <;> simp)
    rcases hk with rfl | rfl
    · exact va_bald (f := sI st (a + 2)) hx hb hrk.1 hr.1 a 2 (wsl_get (b := b) (N0 := N0) (aK := aK) hs) rfl hi hdg kk
    · exact va_zald (f := sI st (a + 2)) hx hb hrk.1 hr.1 a 3 (wsl_get (b := b) (N0 := N0) (aK := aK) hs) rfl hi hdg kk
theorem ab_lald (X : Cx p s m args c cc own nL D aK b N0 L xs) {a : Nat} {i : Int32} {v : Int64} (hr : rp D aK b N0 L xs st H) (h : ab_rJ st a i = some v) (hdg : decode cc pc = .ok (.laload, 1))
    (kk : W p l e R s m args below meth c H locs cells slots Q (F0 m (pc + 1) lsA (.long v :: rest))) : W p l e R s m args below meth c H locs cells slots Q (F0 m pc lsA (.int i :: cv b N0 (.ref a) :: rest)) := by
  obtain ⟨hx, hb, -, hown, hts, hrk⟩ := X
  unfold ab_rJ at h
  cases hd : ab_rd st a i (fun k => k == 2) with
  | none => rw [hd] at h; cases h
  | some k =>
    rw [hd] at h
    cases h
    obtain ⟨n, hs, hk, hi⟩ := ab_rd_e hd
    simp only [beq_iff_eq] at hk
    subst hk
    obtain ⟨a, rfl⟩ := rp_ge hr hs (by simp) (by simp)
    exact va_lald (f := sJ st (a + 2)) hx hb hrk.1 hr.1 a 1 (wsl_get (b := b) (N0 := N0) (aK := aK) hs) rfl hi hdg kk
theorem ab_aald (X : Cx p s m args c cc own nL D aK b N0 L xs) {a : Nat} {i : Int32} {v : Nat} (hr : rp D aK b N0 L xs st H) (h : ab_rR st a i = some v) (hdg : decode cc pc = .ok (.aaload, 1))
    (kk : W p l e R s m args below meth c H locs cells slots Q (F0 m (pc + 1) lsA (cv b N0 (.ref v) :: rest))) : W p l e R s m args below meth c H locs cells slots Q (F0 m pc lsA (.int i :: cv b N0 (.ref a) :: rest)) := by
  obtain ⟨hx, hb, -, hown, hts, hrk⟩ := X
  unfold ab_rR at h
  cases hd : ab_rd st a i (fun k => k == 5 || Nat.ble 8 k) with
  | none => rw [hd] at h; cases h
  | some k =>
    rw [hd] at h
    cases h
    obtain ⟨n, hs, hk, hi⟩ := ab_rd_e hd
    simp only [Bool.or_eq_true, beq_iff_eq] at hk
    have h8 : k = 5 ∨ 8 ≤ k := hk.imp id Nat.le_of_ble_eq_true
    obtain ⟨a, rfl⟩ := rp_ge hr hs (by show k ≠ 6; omega) (by show k ≠ 7; omega)
    have hsh := rp_sh hr hs
    have hlt : i.toNatClampNeg < n := Nat.not_le.mp fun q => hi (Or.inr q)
    have go : ∀ (t0 : Nat) (ty : FieldType), (tys aK)[t0]? = some (aK k, ty) → ty.isReference = true → en b N0 aK st (a + 2) (k, n) = .inl (aK k, n, .inr (.inr (.inr (.inr (fun j => ad b N0 (sR st (a + 2) j)))))) → W p l e R s m args below meth c H locs cells slots Q (F0 m pc lsA (.int i :: cv b N0 (.ref (a + 2)) :: rest)) := by
      intro t0 ty ht hrf hen
      have hcell := hr.1 a _ (wsl_get (b := b) (N0 := N0) (aK := aK) hs)
      rw [hen] at hcell
      exact W.aald (v := va_rf (ad b N0 (sR st (a + 2) i.toNatClampNeg))) (ty := ty) hx hb hcell ((hrk.1.2 t0 _ ht).1 n (fun j => va_rf (ad b N0 (sR st (a + 2) j)))) hrf (fun q => by cases q) (by show ¬ (i < 0 ∨ (arrV _ _ _).slots.size ≤ _); rw [arrV_size]; exact hi) (by show (arrV _ _ _).slots[_]? = _; rw [arrV_read _ _ hlt]) rfl rfl hdg kk
    have h4 : k = 5 ∨ k = 8 ∨ k = 12 ∨ k = 17 := by
      rcases hsh with h | h | h | h | h | h | h | h | h <;> first | omega | (have := h.1; simp only at this; omega) | (simp only at h; omega)
    rcases h4 with rfl | rfl | rfl | rfl
    · exact go 4 _ rfl rfl rfl
    · exact go 5 _ rfl rfl rfl
    · exact go 6 _ rfl rfl rfl
    · exact go 7 _ rfl rfl rfl
theorem ab_alen (X : Cx p s m args c cc own nL D aK b N0 L xs) {a n : Nat} (hr : rp D aK b N0 L xs st H) (hS : va_S (fun q => N0 ≤ q) s.heap H locs) (h : ab_n st a = some n) (hdg : decode cc pc = .ok (.arraylength, 1))
    (kk : W p l e R s m args below meth c H locs cells slots Q (F0 m (pc + 1) lsA (.int (Int32.ofNat n) :: rest))) : W p l e R s m args below meth c H locs cells slots Q (F0 m pc lsA (cv b N0 (.ref a) :: rest)) := by
  obtain ⟨hx, hb, -, hown, hts, hrk⟩ := X
  unfold ab_n at h
  split at h
  · next k n' hs =>
    split at h
    · cases h
    · next hk =>
      cases h
      match a, hs with
      | 0, hs => rw [hr.2.2.1] at hs; cases hs; exact absurd (Or.inr rfl) hk
      | 1, hs =>
        have hL := hr.2.2.2.1
        rw [hL] at hs; cases hs
        exact va_slen (A := fun q => N0 ≤ q) hx hb hrk.2.2.2.2.2.1 (Nat.lt_of_lt_of_le hrk.2.2.2.2.2.2.1 hrk.2.2.2.2.2.2.2) (Nat.not_le.mpr hrk.2.2.2.2.2.2.1) hS hdg kk
      | a + 2, hs =>
        have hcell := wsl_get (b := b) (N0 := N0) (aK := aK) hs
        have h4 : k = 1 ∨ k = 2 ∨ k = 3 ∨ k = 4 ∨ k = 5 ∨ k = 8 ∨ k = 12 ∨ k = 17 := by
          have hsh := rp_sh hr hs
          rcases hsh with h | h | h | h | h | h | h | h | h <;> first | (have := h.1; simp only at this; omega) | (simp only at h; omega)
        rcases h4 with rfl | rfl | rfl | rfl | rfl | rfl | rfl | rfl
        · exact va_alen (ty := .int) hx hb hrk.1 hr.1 a 0 hcell rfl rfl hdg kk
        · exact va_alen (ty := .long) hx hb hrk.1 hr.1 a 1 hcell rfl rfl hdg kk
        · exact va_alen (ty := .byte) hx hb hrk.1 hr.1 a 2 hcell rfl rfl hdg kk
        · exact va_alen (ty := .boolean) hx hb hrk.1 hr.1 a 3 hcell rfl rfl hdg kk
        · exact va_alen hx hb hrk.1 hr.1 a 4 hcell rfl rfl hdg kk
        · exact va_alen hx hb hrk.1 hr.1 a 5 hcell rfl rfl hdg kk
        · exact va_alen hx hb hrk.1 hr.1 a 6 hcell rfl rfl hdg kk
        · exact va_alen hx hb hrk.1 hr.1 a 7 hcell rfl rfl hdg kk
  · cases h
theorem uI_oth {st : ab_S} {o k : Nat} {v : Int32} : ∀ j, j ≠ o → sI (uI st o k v) j = sI st j ∧ sJ (uI st o k v) j = sJ st j ∧ sR (uI st o k v) j = sR st j := fun j hj => ⟨by funext q; simp [sI, uI, hj], rfl, rfl⟩
theorem uJ_oth {st : ab_S} {o k : Nat} {v : Int64} : ∀ j, j ≠ o → sI (uJ st o k v) j = sI st j ∧ sJ (uJ st o k v) j = sJ st j ∧ sR (uJ st o k v) j = sR st j := fun j hj => ⟨rfl, by funext q; simp [sJ, uJ, hj], rfl⟩
theorem uR_oth {st : ab_S} {o k v : Nat} : ∀ j, j ≠ o → sI (uR st o k v) j = sI st j ∧ sJ (uR st o k v) j = sJ st j ∧ sR (uR st o k v) j = sR st j := fun j hj => ⟨rfl, rfl, by funext q; simp [sR, uR, hj]⟩
theorem ab_iast (X : Cx p s m args c cc own nL D aK b N0 L xs) {a : Nat} {i v : Int32} {st' : ab_S} (hr : rp D aK b N0 L xs st H) (hS : va_S (fun q => N0 ≤ q) s.heap H locs) (h : ab_wI st a i v = some st') (hdg : decode cc pc = .ok (.iastore, 1))
    (kk : ∀ (H1 : Heap) (locs1 : List Loc), rp D aK b N0 L xs st' H1 → va_S (fun q => N0 ≤ q) s.heap H1 locs1 → W p l e R s m args below meth c H1 locs1 cells slots Q (F0 m (pc + 1) lsA rest)) : W p l e R s m args below meth c H locs cells slots Q (F0 m pc lsA (.int v :: .int i :: cv b N0 (.ref a) :: rest)) := by
  obtain ⟨hx, hb, -, hown, hts, hrk⟩ := X
  unfold ab_wI at h
  cases hd : ab_rd st a i (fun k => k == 1) with
  | none => rw [hd] at h; cases h
  | some k =>
    rw [hd] at h
    cases h
    obtain ⟨n, hs, hk, hi⟩ := ab_rd_e hd
    simp only [beq_iff_eq] at hk
    subst hk
    obtain ⟨a, rfl⟩ := rp_ge hr hs (by simp) (by simp)
    refine W.iast hx hb (hr.1 a _ (wsl_get (b := b) (N0 := N0) (aK := aK) hs)) ((hrk.1.2 0 _ rfl).1 n (fun j => .int (sI st (a + 2) j))) (fun q => by cases q) (by show ¬ (i < 0 ∨ (arrV _ _ _).slots.size ≤ _); rw [arrV_size]; exact hi) rfl rfl hdg fun H1 e z oq => ?_
    refine kk H1 _ (rp_arr hr hs rfl uI_oth z oq ?_) (hS.put z oq (Nat.le_add_right N0 a))
    show H1[N0 + a]? = some (vp_cell (aK 1) (n, .inl (sI (uI st (a + 2) i.toNatClampNeg v) (a + 2))))
    rw [e]
    show some ((vp_cell (aK 1) (n, .inl (sI st (a + 2)))).setSlot _ _) = _
    rw [vp_cell_i, vp_cell_i, arrV_store]
    congr 2
    funext q
    by_cases hq : q = i.toNatClampNeg
    · subst hq
      simp [updV, sI, uI]
    · simp [updV, sI, uI, hq]
theorem ab_bast (X : Cx p s m args c cc own nL D aK b N0 L xs) {a : Nat} {i v : Int32} {st' : ab_S} (hr : rp D aK b N0 L xs st H) (hS : va_S (fun q => N0 ≤ q) s.heap H locs) (h : ab_wB st a i v = some st') (hdg : decode cc pc = .ok (.bastore, 1))
    (kk : ∀ (H1 : Heap) (locs1 : List Loc), rp D aK b N0 L xs st' H1 → va_S (fun q => N0 ≤ q) s.heap H1 locs1 → W p l e R s m args below meth c H1 locs1 cells slots Q (F0 m (pc + 1) lsA rest)) : W p l e R s m args below meth c H locs cells slots Q (F0 m pc lsA (.int v :: .int i :: cv b N0 (.ref a) :: rest)) := by
  obtain ⟨hx, hb, -, hown, hts, hrk⟩ := X
  unfold ab_wB at h
  cases hd : ab_rd st a i (fun k => k == 3 || k == 4) with
  | none => rw [hd] at h; cases h
  | some k =>
    rw [hd] at h
    cases h
    obtain ⟨n, hs, hk, hi⟩ := ab_rd_e hd
    simp only [Bool.or_eq_true, beq_iff_eq] at hk
    obtain ⟨a, rfl⟩ := rp_ge hr hs (by rcases hk with rfl | rfl <;> simp) (by rcases hk with rfl | rfl <;> simp)
    rcases hk with rfl | rfl
    · refine W.bast hx hb (hr.1 a _ (wsl_get (b := b) (N0 := N0) (aK := aK) hs)) ((hrk.1.2 2 _ rfl).1 n (fun j => .int (sI st (a + 2) j))) (fun q => by cases q) (by show ¬ (i < 0 ∨ (arrV _ _ _).slots.size ≤ _); rw [arrV_size]; exact hi) rfl rfl hdg fun H1 e z oq => ?_
      refine kk H1 _ (rp_arr hr hs rfl uI_oth z oq ?_) (hS.put z oq (Nat.le_add_right N0 a))
      show H1[N0 + a]? = some (vp_cell (aK 3) (n, .inl (sI (uI st (a + 2) i.toNatClampNeg (if 3 = 3 then v.toInt8.toInt32 else v &&& 1)) (a + 2))))
      rw [e]
      show some ((vp_cell (aK 3) (n, .inl (sI st (a + 2)))).setSlot _ _) = _
      rw [vp_cell_i, vp_cell_i, arrV_store]
      congr 2
      funext q
      by_cases hq : q = i.toNatClampNeg
      · subst hq
        simp [updV, sI, uI, narrow]
      · simp [updV, sI, uI, hq]
    · refine W.zast hx hb (hr.1 a _ (wsl_get (b := b) (N0 := N0) (aK := aK) hs)) ((hrk.1.2 3 _ rfl).1 n (fun j => .int (sI st (a + 2) j))) (fun q => by cases q) (by show ¬ (i < 0 ∨ (arrV _ _ _).slots.size ≤ _); rw [arrV_size]; exact hi) rfl rfl hdg fun H1 e z oq => ?_
      refine kk H1 _ (rp_arr hr hs rfl uI_oth z oq ?_) (hS.put z oq (Nat.le_add_right N0 a))
      show H1[N0 + a]? = some (vp_cell (aK 4) (n, .inl (sI (uI st (a + 2) i.toNatClampNeg (if 4 = 3 then v.toInt8.toInt32 else v &&& 1)) (a + 2))))
      rw [e]
      show some ((vp_cell (aK 4) (n, .inl (sI st (a + 2)))).setSlot _ _) = _
      rw [vp_cell_i, vp_cell_i, arrV_store]
      congr 2
      funext q
      by_cases hq : q = i.toNatClampNeg
      · subst hq
        simp [updV, sI, uI, narrow]
      · simp [updV, sI, uI, hq]
theorem ab_last (X : Cx p s m args c cc own nL D aK b N0 L xs) {a : Nat} {i : Int32} {v : Int64} {st' : ab_S} (hr : rp D aK b N0 L xs st H) (hS : va_S (fun q => N0 ≤ q) s.heap H locs) (h : ab_wJ st a i v = some st') (hdg : decode cc pc = .ok (.lastore, 1))
    (kk : ∀ (H1 : Heap) (locs1 : List Loc), rp D aK b N0 L xs st' H1 → va_S (fun q => N0 ≤ q) s.heap H1 locs1 → W p l e R s m args below meth c H1 locs1 cells slots Q (F0 m (pc + 1) lsA rest)) : W p l e R s m args below meth c H locs cells slots Q (F0 m pc lsA (.long v :: .int i :: cv b N0 (.ref a) :: rest)) := by
  obtain ⟨hx, hb, -, hown, hts, hrk⟩ := X
  unfold ab_wJ at h
  cases hd : ab_rd st a i (fun k => k == 2) with
  | none => rw [hd] at h; cases h
  | some k =>
    rw [hd] at h
    cases h
    obtain ⟨n, hs, hk, hi⟩ := ab_rd_e hd
    simp only [beq_iff_eq] at hk
    subst hk
    obtain ⟨a, rfl⟩ := rp_ge hr hs (by simp) (by simp)
    refine W.last hx hb (hr.1 a _ (wsl_get (b := b) (N0 := N0) (aK := aK) hs)) ((hrk.1.2 1 _ rfl).1 n (fun j => .long (sJ st (a + 2) j))) (fun q => by cases q) (by show ¬ (i < 0 ∨ (arrV _ _ _).slots.size ≤ _); rw [arrV_size]; exact hi) rfl rfl hdg fun H1 e z oq => ?_
    refine kk H1 _ (rp_arr hr hs rfl uJ_oth z oq ?_) (hS.put z oq (Nat.le_add_right N0 a))
    show H1[N0 + a]? = some (vp_cell (aK 2) (n, .inr (.inl (sJ (uJ st (a + 2) i.toNatClampNeg v) (a + 2)))))
    rw [e]
    show some ((vp_cell (aK 2) (n, .inr (.inl (sJ st (a + 2))))).setSlot _ _) = _
    rw [vp_cell_l, vp_cell_l, arrV_store]
    congr 2
    funext q
    by_cases hq : q = i.toNatClampNeg
    · subst hq
      simp [updV, sJ, uJ]
    · simp [updV, sJ, uJ, hq]
theorem ab_aast (X : Cx p s m args c cc own nL D aK b N0 L xs) {a v : Nat} {i : Int32} {st' : ab_S} (hr : rp D aK b N0 L xs st H) (hS : va_S (fun q => N0 ≤ q) s.heap H locs) (h : ab_wR st a i v = some st') (hdg : decode cc pc = .ok (.aastore, 1))
    (kk : ∀ (H1 : Heap) (locs1 : List Loc), rp D aK b N0 L xs st' H1 → va_S (fun q => N0 ≤ q) s.heap H1 locs1 → W p l e R s m args below meth c H1 locs1 cells slots Q (F0 m (pc + 1) lsA rest)) : W p l e R s m args below meth c H locs cells slots Q (F0 m pc lsA (cv b N0 (.ref v) :: .int i :: cv b N0 (.ref a) :: rest)) := by
  obtain ⟨hx, hb, -, hown, hts, hrk⟩ := X
  unfold ab_wR at h
  cases hd : ab_rd st a i (fun k => Nat.ble 8 k) with
  | none => rw [hd] at h; cases h
  | some k =>
    rw [hd] at h
    simp only [Option.bind_some] at h
    split at h
    · next hv =>
      cases h
      obtain ⟨n, hs, hk, hi⟩ := ab_rd_e hd
      have h8 : 8 ≤ k := Nat.le_of_ble_eq_true hk
      obtain ⟨a, rfl⟩ := rp_ge hr hs (by show k ≠ 6; omega) (by show k ≠ 7; omega)
      obtain ⟨v, rfl⟩ := rp_ge hr hv (by simp) (by simp)
      have hsh := rp_sh hr hs
      have hlt : i.toNatClampNeg < n := Nat.not_le.mp fun q => hi (Or.inr q)
      have h0 : ¬ i < 0 := fun q => hi (Or.inl q)
      have go : ∀ (t0 ci : Nat) (r : vw_C), (tys aK)[t0]? = some (aK k, .object r.1) → ab_cl[ci]? = some r → k - 8 = ci → en b N0 aK st (a + 2) (k, n) = .inl (aK k, n, .inr (.inr (.inr (.inr (fun j => ad b N0 (sR st (a + 2) j)))))) → en b N0 aK (uR st (a + 2) i.toNatClampNeg (v + 2)) (a + 2) (k, n) = .inl (aK k, n, .inr (.inr (.inr (.inr (fun j => ad b N0 (sR (uR st (a + 2) i.toNatClampNeg (v + 2)) (a + 2) j)))))) → W p l e R s m args below meth c H locs cells slots Q (F0 m pc lsA (cv b N0 (.ref (v + 2)) :: .int i :: cv b N0 (.ref (a + 2)) :: rest)) := by
        intro t0 ci r ht hc hk8 hen hen'
        rw [hk8] at hv
        have hcell := hr.1 a _ (wsl_get (b := b) (N0 := N0) (aK := aK) hs)
        rw [hen] at hcell
        have hcell : H[N0 + a]? = some (vp_cell (aK k) (n, .inr (.inr (.inr (.inr (fun j => ad b N0 (sR st (a + 2) j))))))) := hcell
        obtain ⟨r', hr', cellV, g1, g2, g3, -⟩ := hr.1 v _ (wsl_get (b := b) (N0 := N0) (aK := aK) hv)
        have hcls := (hrk.1.1 ci r hc).2
        obtain ⟨kA, comp, k1, k2, k3, -⟩ := (hrk.1.2 t0 _ ht).2
        have hcomp : comp = D.1 ci := Option.some.inj (k3.symm.trans hcls.1)
        subst hcomp
        obtain ⟨kC, hkC, -⟩ := hcls.2
        have g2 : cellV.cls = D.1 ci := g2
        refine W.aast hx hb hcell (fun q h => by cases h) (fun h => by cases h) k1 k2 rfl hkC ⟨h0, by show _ < (arrV _ _ _).slots.size; rw [arrV_size]; exact hlt⟩ g1 (fun q h => by rw [g3] at h; cases h) (by rw [g2]; exact hkC) (by rw [g2]; exact va_assign hcls) rfl rfl hdg fun H1 e z oq => ?_
        refine kk H1 _ (rp_arr hr hs rfl uR_oth z oq ?_) (hS.put z oq (Nat.le_add_right N0 a))
        rw [hen']
        show H1[N0 + a]? = some (vp_cell (aK k) _)
        rw [e]
        rw [vp_cell_q, vp_cell_q, arrV_store]
        congr 2
        funext q
        by_cases hq : q = i.toNatClampNeg
        · subst hq
          simp [updV, sR, uR, ad, va_rf]
        · simp [updV, sR, uR, hq]
      have h4 : k = 8 ∨ k = 12 ∨ k = 17 := by
        rcases hsh with h | h | h | h | h | h | h | h | h <;> first | (have := h.1; simp only at this; omega) | (simp only at h; omega)
      rcases h4 with rfl | rfl | rfl
      · exact go 5 0 _ rfl rfl rfl rfl rfl
      · exact go 6 4 _ rfl rfl rfl rfl rfl
      · exact go 7 9 _ rfl rfl rfl rfl rfl
    · cases h
end HR

