/-! THE CLASS READS PACKED SIGNS: Packing 20 (path 21, stateAt 22, arcAt 23, sumAt 24, place: field 4) -/
theorem uI_over {st : ab_S} {o k : Nat} {u v : Int32} : uI (uI st o k v) o k u = uI st o k u := by
  have : (uI (uI st o k v) o k u).1 = (uI st o k u).1 := by
    funext a b
    show sI (uI (uI st o k v) o k u) a b = sI (uI st o k u) a b
    rw [I_uI, I_uI, I_uI]
    by_cases h : a = o ∧ b = k
    · rw [if_pos h, if_pos h]
    · rw [if_neg h, if_neg h, if_neg h]
  exact Prod.ext this rfl
theorem uI_same {st : ab_S} {o k : Nat} {v : Int32} (h : sI st o k = v) : uI st o k v = st := by
  have : (uI st o k v).1 = st.1 := by
    funext a b
    show sI (uI st o k v) a b = sI st a b
    rw [I_uI]
    by_cases q : a = o ∧ b = k
    · rw [if_pos q, q.1, q.2, h]
    · rw [if_neg q]
  exact Prod.ext this rfl
theorem pow128 (i : Nat) : 128 ^ i = 2 ^ (7 * i) := by rw [Nat.pow_mul]
theorem orsh {acc i m : Nat} (ha : acc < 128 ^ i) (hi : i ≤ 7) (hm : m < 128) : lN acc ||| (lN m <<< (((7 : Int32) * nI i).toInt64 &&& 63)) = lN (acc + 128 ^ i * m) := by
  have hb : 128 ^ i * m < 128 ^ i * 128 := Nat.mul_lt_mul_of_pos_left hm (Nat.pow_pos (by omega))
  have h8 : 128 ^ i * 128 ≤ 128 ^ 8 := by
    rw [← Nat.pow_succ]
    exact Nat.pow_le_pow_right (by omega) (by omega)
  have e64 : 128 ^ 8 = 2 ^ 56 := by decide
  have h9 : 128 ^ i ≤ 128 ^ 7 := Nat.pow_le_pow_right (by omega) hi
  have e7 : 128 ^ 7 = 2 ^ 49 := by decide
  rw [nl 7, a_mul, wb_shl m (k := 7 * i) (by omega), Nat.mul_comm m, ← pow128, wb_or (by omega) (by omega)]
  congr 1
  rw [Nat.or_comm, pow128, Nat.add_comm]
  rw [pow128] at ha
  exact (Nat.two_pow_add_eq_or_of_lt ha m).symm
theorem rdn_cons {k c : Nat} {r : List Nat} : rdn (k + 1) (c :: r) = if c < 128 then some (c, r) else (rdn k r).map fun x => (c % 128 + 128 * x.1, x.2) := rfl
def rdv : Option (Nat × List Nat) → Int64
  | some x => lN x.1
  | none => -1
section CRD
variable {L : Nat} {st : ab_S} {a : Nat} {w : List Nat}
theorem rsign_ok (hF : Fx L st) (hw : isSg st a 4000 w) (hl : w.length ≤ 4000) {p : Nat} (hp : sI st 20 4 = nI p) (hp2 : p < 2000000000) : f_X3_readSign 20 a st = some (some (.int (lg w p)), uI st 20 4 (nI (p + 1))) := by
  have h20 : (sH st)[20]? = some (0, 3) := Fx_sh hF rfl
  have e : sgAt 4000 w (nI p) = lg w p := by
    unfold sgAt
    rw [if_neg (nI_pos (by omega)), a_cl (by omega)]
    by_cases h : p < 4000
    · rw [if_pos h]
    · rw [if_neg h, lg_none (List.getElem?_eq_none (by omega))]
  rw [e_X3_readSign_0, rc_ok h20, gI_ok h20, Option.bind_some, hp, at_ok hw, ri_ok, gI_ok h20, Option.bind_some, hp, pI_ok h20, Option.bind_some, e, nI_1]
theorem and127 {c : Nat} (hc : c < 256) : (nI c &&& (127 : Int32)) = nI (c % 128) := by
  have : (nI c &&& (127 : Int32)) = nI ((nI c).toBitVec.toNat % 128) := pk_and (nI c) 7 (by decide)
  rw [nI_bv (by omega)] at this
  exact this
theorem rnum_ok (hF : Fx L st) (hw : isSg st a 4000 w) (ha : 20 < a) (hl : w.length ≤ 4000) {p : Nat} (hp : sI st 20 4 = nI p) (hp2 : p < 1000000000) : ∃ p', f_X3_readNumber 20 a st = some (some (.long (rdv (rdn 6 (w.drop p)))), uI st 20 4 (nI p')) ∧ p ≤ p' ∧ p' ≤ p + 6 ∧ ∀ n r, rdn 6 (w.drop p) = some (n, r) → w.drop p' = r ∧ p' ≤ w.length ∧ p + 1 ≤ p' := by
  have hw6 := hw.2.2.2.2.2.1
  have key : ∀ k i acc p (st : ab_S), i + k = 6 → acc < 128 ^ i → Fx L st → isSg st a 4000 w → sI st 20 4 = nI p → p + k < 1900000000 → ∃ p', L_X3_readNumber_5 20 a (lN acc) (nI i) st = some (some (.long (rdv ((rdn k (w.drop p)).map fun x => (acc + 128 ^ i * x.1, x.2)))), uI st 20 4 (nI p')) ∧ p ≤ p' ∧ p' ≤ p + k ∧ ∀ n r, rdn k (w.drop p) = some (n, r) → w.drop p' = r ∧ p' ≤ w.length ∧ p + 1 ≤ p' := by
    intro k
    induction k with
    | zero =>
      intro i acc p st hi hacc hF hw hp hp2
      refine ⟨p, ?_, Nat.le_refl _, Nat.le_refl _, fun n r h => by cases h⟩
      rw [e_X3_readNumber_5, nl 6, if_pos (by rw [c_le (by omega) (by omega)]; omega), uI_same hp]
      rfl
    | succ k ih =>
      intro i acc p st hi hacc hF hw hp hp2
      have u1 : upto (fun q => q = 20) st (uI st 20 4 (nI (p + 1))) := upto_uI rfl
      have F1 := Fx_up hF u1
      have W1 := isSg_up hw u1 (by omega) (by omega)
      have p1 : sI (uI st 20 4 (nI (p + 1))) 20 4 = nI (p + 1) := by rw [I_uI, if_pos ⟨rfl, rfl⟩]
      rw [e_X3_readNumber_5, nl 6, if_neg (by rw [c_le (by omega) (by omega)]; omega), rsign_ok hF hw hl hp (by omega), ri_ok]
      cases hg : w[p]? with
      | none =>
        refine ⟨p + 1, ?_, by omega, by omega, fun n r h => ?_⟩
        · rw [lg_none hg, if_pos rfl, drop_none hg]; rfl
        · rw [drop_none hg] at h; cases h
      | some c =>
        have hc := hw6 c (List.mem_of_getElem? hg)
        have hpl := (List.getElem?_eq_some_iff.mp hg).1
        rw [lg_some hg, if_neg (by rw [c_m1e (by omega)]; exact id), and127 hc, nI_l (by omega), orsh hacc (by omega) (by omega), drop_some hg]
        by_cases h128 : c < 128
        · refine ⟨p + 1, ?_, by omega, by omega, fun n r h => ?_⟩
          · rw [nl 128, if_neg (by rw [c_le (by omega) (by omega)]; omega)]
            rw [rdn_cons, if_pos h128, Nat.mod_eq_of_lt h128]
            rfl
          · rw [rdn_cons, if_pos h128] at h
            cases h
            exact ⟨rfl, by omega, Nat.le_refl _⟩
        · have hpw : 128 ^ (i + 1) = 128 ^ i * 128 := Nat.pow_succ ..
          have hlt : acc + 128 ^ i * (c % 128) < 128 ^ (i + 1) := by
            rw [hpw]
            have : 128 ^ i * (c % 128) ≤ 128 ^ i * 127 := Nat.mul_le_mul_left _ (by omega)
            omega
          obtain ⟨p', g1, g2, g3, g4⟩ := ih (i + 1) _ (p + 1) _ (by omega) hlt F1 W1 p1 (by omega)
          refine ⟨p', ?_, by omega, by omega, fun n r h => ?_⟩
          · rw [nl 128, if_pos (by rw [c_le (by omega) (by omega)]; omega), nI_1, g1, uI_over]
            rw [rdn_cons, if_neg h128]
            congr 3
            cases hq : rdn k (w.drop (p + 1)) with
            | none => rfl
            | some x =>
              show Value.long (lN (acc + 128 ^ i * (c % 128) + 128 ^ (i + 1) * x.1)) = Value.long (lN (acc + 128 ^ i * (c % 128 + 128 * x.1)))
              rw [hpw, Nat.mul_add, Nat.mul_assoc, Nat.add_assoc]
          · rw [rdn_cons, if_neg h128] at h
            cases hq : rdn k (w.drop (p + 1)) with
            | none => rw [hq] at h; cases h
            | some x =>
              obtain ⟨m, r1⟩ := x
              rw [hq] at h
              cases h
              obtain ⟨z1, z2, z3⟩ := g4 m r1 hq
              exact ⟨z1, z2, by omega⟩
  have h20 : (sH st)[20]? = some (0, 3) := Fx_sh hF rfl
  obtain ⟨p', g1, g2, g3, g4⟩ := key 6 0 0 p st rfl (by decide) hF hw hp (by omega)
  refine ⟨p', ?_, g2, g3, g4⟩
  rw [e_X3_readNumber_0, rc_ok h20]
  refine g1.trans ?_
  congr 3
  cases rdn 6 (w.drop p) with
  | none => rfl
  | some x => show Value.long (lN (0 + 128 ^ 0 * x.1)) = Value.long (lN x.1); rw [Nat.zero_add, Nat.pow_zero, Nat.one_mul]
theorem rdv_neg {q : Option (Nat × List Nat)} (h : ∀ x, q = some x → x.1 < 4611686018427387904) : (lg_cmp (rdv q) 0 < 0) ↔ q = none := by
  cases q with
  | none => exact ⟨fun _ => rfl, fun _ => by decide⟩
  | some x =>
    have := h x rfl
    refine ⟨fun q => ?_, fun q => by cases q⟩
    have hn : ¬ lg_cmp (lN x.1) (lN 0) < 0 := by
      rw [lg_cmp_lt, pk_lLT (by omega) (by omega)]
      omega
    exact absurd q hn
theorem rdn_b {k : Nat} {r : List Nat} (hk : k ≤ 7) : ∀ x, rdn k r = some x → x.1 < 562949953421312 := by
  intro x hx
  have := (rdn_ok (v := x.1) (r' := x.2) hx).1
  have h2 : 128 ^ k ≤ 128 ^ 7 := Nat.pow_le_pow_right (by omega) hk
  omega
def befI : Nat → Int32
  | 0 => -1
  | b + 1 => nI b
theorem befI_le {c bf : Nat} (hc : c < 1000) (hb : bf < 1000) : (nI c ≤ befI bf) ↔ c < bf := by
  cases bf with
  | zero =>
    have : ¬ nI c ≤ (-1 : Int32) := Int32.not_le.mpr (by rw [c_m1l (by omega)]; trivial)
    exact ⟨fun q => absurd q this, fun q => by omega⟩
  | succ b =>
    show nI c ≤ nI b ↔ _
    rw [c_le (by omega) (by omega)]
    omega
theorem befI_m1 {bf : Nat} (hb : bf < 1000) : (-1 : Int32) ≤ befI bf := by
  cases bf with
  | zero => exact Int32.le_refl _
  | succ b => exact Int32.le_of_lt (by show (-1 : Int32) < nI b; rw [c_m1l (by omega)]; trivial)
end CRD
