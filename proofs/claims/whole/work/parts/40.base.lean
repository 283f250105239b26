/-! THE PURE PART: base. nI n is the int n. -/
theorem nl (n : Nat) : (OfNat.ofNat n : Int32) = nI n := rfl
theorem c_lt {a b : Nat} (ha : a < 2147483648) (hb : b < 2147483648) : (nI a < nI b) = (a < b) := propext (nI_ltI ha hb)
theorem c_le {a b : Nat} (ha : a < 2147483648) (hb : b < 2147483648) : (nI a ≤ nI b) = (a ≤ b) := propext (nI_leI ha hb)
theorem c_eq {a b : Nat} (ha : a < 2147483648) (hb : b < 2147483648) : (nI a = nI b) = (a = b) := propext (nI_eq ha hb)
theorem i_m1 : (-1 : Int32).toInt = -1 := by decide
theorem c_m1l {a : Nat} (ha : a < 2147483648) : ((-1 : Int32) < nI a) = True := by
  rw [Int32.lt_iff_toInt_lt, i_m1, nI_toInt ha]; simp; omega
theorem c_m1e {a : Nat} (ha : a < 2147483648) : (nI a = (-1 : Int32)) = False := by
  refine propext ⟨fun h => ?_, False.elim⟩
  have := congrArg Int32.toInt h
  rw [i_m1, nI_toInt ha] at this
  omega
theorem c_m1e' {a : Nat} (ha : a < 2147483648) : ((-1 : Int32) = nI a) = False := by
  refine propext ⟨fun h => ?_, False.elim⟩
  have := congrArg Int32.toInt h
  rw [i_m1, nI_toInt ha] at this
  omega
theorem c_neg {a : Nat} (ha : a < 2147483648) : (nI a < nI 0) = False := by rw [c_lt ha (by omega)]; simp
theorem a_add (a b : Nat) : nI a + nI b = nI (a + b) := nI_add a b
theorem a_mul (a b : Nat) : nI a * nI b = nI (a * b) := pk_mul a b
theorem a_sub {a b : Nat} (h : b ≤ a) : nI a - nI b = nI (a - b) := pk_sub h
theorem a_cl {a : Nat} (h : a < 2147483648) : (nI a).toNatClampNeg = a := nI_clamp h
/-- an int is below 0, or a number -/
theorem n_cases (x : Int32) : x < 0 ∨ ∃ n : Nat, n < 2147483648 ∧ x = nI n := by
  by_cases h : x < 0
  · exact Or.inl h
  · obtain ⟨j, h1, h2⟩ := nI_of h
    exact Or.inr ⟨j, h1, h2⟩
-- guards
theorem gI_ok {st : ab_S} {o c k : Nat} (h : (sH st)[o]? = some (0, c)) : ab_gI st o c k = some (sI st o k) := if_pos h
theorem gJ_ok {st : ab_S} {o c k : Nat} (h : (sH st)[o]? = some (0, c)) : ab_gJ st o c k = some (sJ st o k) := if_pos h
theorem gR_ok {st : ab_S} {o c k : Nat} (h : (sH st)[o]? = some (0, c)) : ab_gR st o c k = some (sR st o k) := if_pos h
theorem pI_ok {st : ab_S} {o c k : Nat} {v : Int32} (h : (sH st)[o]? = some (0, c)) : ab_pI st o c k v = some (uI st o k v) := if_pos h
theorem pJ_ok {st : ab_S} {o c k : Nat} {v : Int64} (h : (sH st)[o]? = some (0, c)) : ab_pJ st o c k v = some (uJ st o k v) := if_pos h
theorem pR_ok {st : ab_S} {o c k v : Nat} (h : (sH st)[o]? = some (0, c)) : ab_pR st o c k v = some (uR st o k v) := if_pos h
theorem pZ_0 {st : ab_S} {o c k : Nat} (h : (sH st)[o]? = some (0, c)) : ab_pZ st o c k 0 = some (uI st o k 0) := if_pos ⟨h, Or.inl rfl⟩
theorem pZ_1 {st : ab_S} {o c k : Nat} (h : (sH st)[o]? = some (0, c)) : ab_pZ st o c k 1 = some (uI st o k 1) := if_pos ⟨h, Or.inr rfl⟩
theorem rc_ok {st : ab_S} {o c : Nat} {r : Option ab_R} (h : (sH st)[o]? = some (0, c)) : ab_rc st o c r = r := if_pos h
theorem z_0 {r : Option ab_R} : ab_z 0 r = r := if_pos (Or.inl rfl)
theorem z_1 {r : Option ab_R} : ab_z 1 r = r := if_pos (Or.inr rfl)
theorem in_ok {n i : Nat} (hi : i < n) (hn : n < 2147483648) : ¬ (nI i < 0 ∨ n ≤ (nI i).toNatClampNeg) := nI_in hi hn
theorem rd_ok {st : ab_S} {a kd n i : Nat} {f : Nat → Bool} (h : (sH st)[a]? = some (kd, n)) (hf : f kd = true) (hi : i < n) (hn : n < 2147483648) : ab_rd st a (nI i) f = some kd := by
  unfold ab_rd
  rw [h]
  exact if_pos ⟨hf, in_ok hi hn⟩
theorem rI_ok {st : ab_S} {a n i : Nat} (h : (sH st)[a]? = some (1, n)) (hi : i < n) (hn : n < 2147483648) : ab_rI st a (nI i) = some (sI st a i) := by
  unfold ab_rI; rw [rd_ok h rfl hi hn, a_cl (Nat.lt_trans hi hn)]; rfl
theorem rI_s {st : ab_S} {a n i : Nat} (h : (sH st)[a]? = some (7, n)) (hi : i < n) (hn : n < 2147483648) : ab_rI st a (nI i) = some (sI st a i) := by
  unfold ab_rI; rw [rd_ok h rfl hi hn, a_cl (Nat.lt_trans hi hn)]; rfl
theorem rB_ok {st : ab_S} {a n i : Nat} (h : (sH st)[a]? = some (3, n)) (hi : i < n) (hn : n < 2147483648) : ab_rB st a (nI i) = some (sI st a i) := by
  unfold ab_rB; rw [rd_ok h rfl hi hn, a_cl (Nat.lt_trans hi hn)]; rfl
theorem rZ_ok {st : ab_S} {a n i : Nat} (h : (sH st)[a]? = some (4, n)) (hi : i < n) (hn : n < 2147483648) : ab_rB st a (nI i) = some (sI st a i) := by
  unfold ab_rB; rw [rd_ok h rfl hi hn, a_cl (Nat.lt_trans hi hn)]; rfl
theorem rJ_ok {st : ab_S} {a n i : Nat} (h : (sH st)[a]? = some (2, n)) (hi : i < n) (hn : n < 2147483648) : ab_rJ st a (nI i) = some (sJ st a i) := by
  unfold ab_rJ; rw [rd_ok h rfl hi hn, a_cl (Nat.lt_trans hi hn)]; rfl
theorem rR_ok {st : ab_S} {a kd n i : Nat} (h : (sH st)[a]? = some (kd, n)) (hk : (kd == 5 || Nat.ble 8 kd) = true) (hi : i < n) (hn : n < 2147483648) : ab_rR st a (nI i) = some (sR st a i) := by
  unfold ab_rR; rw [rd_ok h hk hi hn, a_cl (Nat.lt_trans hi hn)]; rfl
theorem wI_ok {st : ab_S} {a n i : Nat} {v : Int32} (h : (sH st)[a]? = some (1, n)) (hi : i < n) (hn : n < 2147483648) : ab_wI st a (nI i) v = some (uI st a i v) := by
  unfold ab_wI; rw [rd_ok h rfl hi hn, a_cl (Nat.lt_trans hi hn)]; rfl
theorem wB_ok {st : ab_S} {a n i : Nat} {v : Int32} (h : (sH st)[a]? = some (3, n)) (hi : i < n) (hn : n < 2147483648) : ab_wB st a (nI i) v = some (uI st a i v.toInt8.toInt32) := by
  unfold ab_wB; rw [rd_ok h rfl hi hn, a_cl (Nat.lt_trans hi hn)]; rfl
theorem wZ_ok {st : ab_S} {a n i : Nat} {v : Int32} (h : (sH st)[a]? = some (4, n)) (hi : i < n) (hn : n < 2147483648) : ab_wB st a (nI i) v = some (uI st a i (v &&& 1)) := by
  unfold ab_wB; rw [rd_ok h rfl hi hn, a_cl (Nat.lt_trans hi hn)]; rfl
theorem wJ_ok {st : ab_S} {a n i : Nat} {v : Int64} (h : (sH st)[a]? = some (2, n)) (hi : i < n) (hn : n < 2147483648) : ab_wJ st a (nI i) v = some (uJ st a i v) := by
  unfold ab_wJ; rw [rd_ok h rfl hi hn, a_cl (Nat.lt_trans hi hn)]; rfl
theorem wR_ok {st : ab_S} {a c n i v : Nat} (h : (sH st)[a]? = some (8 + c, n)) (hi : i < n) (hn : n < 2147483648) (hv : (sH st)[v]? = some (0, c)) : ab_wR st a (nI i) v = some (uR st a i v) := by
  unfold ab_wR; rw [rd_ok h (Nat.ble_eq_true_of_le (by omega)) hi hn, a_cl (Nat.lt_trans hi hn)]
  simp only [Option.bind_some]
  rw [if_pos (by rw [hv]; congr 2; omega)]
theorem n_ok {st : ab_S} {a kd n : Nat} (h : (sH st)[a]? = some (kd, n)) (h0 : kd ≠ 0) (h6 : kd ≠ 6) : ab_n st a = some n := by
  unfold ab_n; rw [h]; exact if_neg (fun q => q.elim h0 h6)
theorem ri_ok {x : Int32} {t : ab_S} {k : Int32 → ab_S → Option ab_R} : ab_ri (some (some (.int x), t)) k = k x t := rfl
theorem rl_ok {x : Int64} {t : ab_S} {k : Int64 → ab_S → Option ab_R} : ab_rl (some (some (.long x), t)) k = k x t := rfl
theorem rr_ok {x : Nat} {t : ab_S} {k : Nat → ab_S → Option ab_R} : ab_rr (some (some (.ref x), t)) k = k x t := rfl
theorem rv_ok {t : ab_S} {k : ab_S → Option ab_R} : ab_rv (some (none, t)) k = k t := rfl
-- reading behind writing
theorem H_uI {st : ab_S} {o k : Nat} {v : Int32} : sH (uI st o k v) = sH st := rfl
theorem H_uJ {st : ab_S} {o k : Nat} {v : Int64} : sH (uJ st o k v) = sH st := rfl
theorem H_uR {st : ab_S} {o k v : Nat} : sH (uR st o k v) = sH st := rfl
theorem J_uI {st : ab_S} {o k : Nat} {v : Int32} : sJ (uI st o k v) = sJ st := rfl
theorem R_uI {st : ab_S} {o k : Nat} {v : Int32} : sR (uI st o k v) = sR st := rfl
theorem I_uJ {st : ab_S} {o k : Nat} {v : Int64} : sI (uJ st o k v) = sI st := rfl
theorem R_uJ {st : ab_S} {o k : Nat} {v : Int64} : sR (uJ st o k v) = sR st := rfl
theorem I_uR {st : ab_S} {o k v : Nat} : sI (uR st o k v) = sI st := rfl
theorem J_uR {st : ab_S} {o k v : Nat} : sJ (uR st o k v) = sJ st := rfl
theorem I_uI {st : ab_S} {o k a b : Nat} {v : Int32} : sI (uI st o k v) a b = if a = o ∧ b = k then v else sI st a b := rfl
theorem J_uJ {st : ab_S} {o k a b : Nat} {v : Int64} : sJ (uJ st o k v) a b = if a = o ∧ b = k then v else sJ st a b := rfl
theorem R_uR {st : ab_S} {o k a b v : Nat} : sR (uR st o k v) a b = if a = o ∧ b = k then v else sR st a b := rfl
/-- an object's numbers are as they were -/
def eqo (st st' : ab_S) (o : Nat) : Prop := sI st' o = sI st o ∧ sJ st' o = sJ st o
/-- all is as it was but the numbers of the objects of W; no reference has changed -/
def upto (W : Nat → Prop) (st st' : ab_S) : Prop := sH st' = sH st ∧ sR st' = sR st ∧ ∀ o, ¬ W o → eqo st st' o
theorem eqo_rfl {st : ab_S} {o : Nat} : eqo st st o := ⟨rfl, rfl⟩
theorem eqo_trans {st st' st2 : ab_S} {o : Nat} (h : eqo st st' o) (h2 : eqo st' st2 o) : eqo st st2 o := ⟨h2.1.trans h.1, h2.2.trans h.2⟩
theorem upto_rfl {W : Nat → Prop} {st : ab_S} : upto W st st := ⟨rfl, rfl, fun _ _ => eqo_rfl⟩
theorem upto_trans {W : Nat → Prop} {st st' st2 : ab_S} (h : upto W st st') (h2 : upto W st' st2) : upto W st st2 := ⟨h2.1.trans h.1, h2.2.1.trans h.2.1, fun o ho => eqo_trans (h.2.2 o ho) (h2.2.2 o ho)⟩
theorem upto_mono {W V : Nat → Prop} {st st' : ab_S} (h : upto W st st') (hWV : ∀ o, W o → V o) : upto V st st' := ⟨h.1, h.2.1, fun o ho => h.2.2 o (fun q => ho (hWV o q))⟩
theorem upto_uI {W : Nat → Prop} {st : ab_S} {o k : Nat} {v : Int32} (h : W o) : upto W st (uI st o k v) := ⟨rfl, rfl, fun j hj => ⟨(uI_oth j (fun e => hj (e ▸ h))).1, rfl⟩⟩
theorem upto_uJ {W : Nat → Prop} {st : ab_S} {o k : Nat} {v : Int64} (h : W o) : upto W st (uJ st o k v) := ⟨rfl, rfl, fun j hj => ⟨rfl, (uJ_oth j (fun e => hj (e ▸ h))).2.1⟩⟩
/-- the sign at a place, or NONE -/
def lg (w : List Nat) (k : Nat) : Int32 := match w[k]? with
  | some s => nI s
  | none => -1
theorem lg_some {w : List Nat} {k s : Nat} (h : w[k]? = some s) : lg w k = nI s := by unfold lg; rw [h]
theorem lg_none {w : List Nat} {k : Nat} (h : w[k]? = none) : lg w k = -1 := by unfold lg; rw [h]
/-- the order of terms: -1 below, 0 the same, 1 above -/
def lcmp : List Nat → List Nat → Int32
  | [], [] => 0
  | [], _ :: _ => -1
  | _ :: _, [] => 1
  | a :: x, b :: y => if a = b then lcmp x y else if a < b then -1 else 1
theorem drop_some {w : List Nat} {i s : Nat} (h : w[i]? = some s) : w.drop i = s :: w.drop (i + 1) := by
  have hl := (List.getElem?_eq_some_iff.mp h)
  rw [List.drop_eq_getElem_cons hl.1, hl.2]
theorem drop_none {w : List Nat} {i : Nat} (h : w[i]? = none) : w.drop i = [] := List.drop_eq_nil_of_le (List.getElem?_eq_none_iff.mp h)
