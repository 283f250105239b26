/-! THE CLASS LISTS THE TERMS of a machine that it has read -/
def GOOD (Q : QS) (l : Nat) : Prop := (∀ n ∈ vs Q 12 0 [] l, (n.1 = [] ∨ lastQ Q n.2.1 ≠ none ∨ arcsQ Q n.2.1 ≠ []) ∧ (∀ k, lastQ Q n.2.1 = some k → n.2.2 + k ≤ 1000000000000) ∧ (12 ≤ n.1.length → arcsQ Q n.2.1 = [])) ∧ ((vs Q 12 0 [] l).filterMap (tmN Q)).length ≤ 200 ∧ (vs Q 12 0 [] l).length ≤ 2401
def onL (t q : Nat) : Prop := (21 ≤ q ∧ q ≤ 24) ∨ (t ≤ q ∧ q ≤ t + 3)
/-- the stack of the walk, in objects base + 1 (states), base + 2 (arcs), base + 3 (sums), the path in base -/
def stk (st : ab_S) (Q : QS) (S I V : Nat → Nat) (p : List Nat) (U : Nat) : Prop := (∀ j, j ≤ p.length → sI st 22 j = nI (S j) ∧ sI st 23 j = nI (I j) ∧ sJ st 24 j = lN (V j) ∧ S j < Q.length ∧ I j ≤ (arcsQ Q (S j)).length ∧ V j ≤ (j + 1) * U) ∧ (∀ j c, p[j]? = some c → sI st 21 j = nI c ∧ c < 256) ∧ p.length ≤ 12
section CLIST
variable {L : Nat} {st : ab_S} {o t : Nat} {M : MM}
theorem arcI_Q {s i : Nat} (hs : s < 2147483648) (hi : i < 2147483648) : arcI M (nI s) (nI i) = (arcsQ M.2.2 s)[i]? := by
  unfold arcI arcsQ
  rw [atO_n hs]
  cases M.2.2[s]? with
  | none => simp
  | some x => show atO x.2.2 (nI i) = _; rw [atO_n hi]
theorem lastOf_Q {B V : Nat} (h : MO st o) (hM : mcG st o M B V) {s : Nat} (hs : s < 2147483648) : f_X1_lastOf o (nI s) st = some (some (.long (lastI (lastQ M.2.2 s))), st) := by
  rw [lastOf_ok h hM, atO_n hs]
  unfold lastQ
  cases M.2.2[s]? with
  | none => rfl
  | some x => rfl
theorem arcsOf_Q {B V : Nat} (h : MO st o) (hM : mcG st o M B V) {s : Nat} (hs : s < 2147483648) : f_X1_arcsOf o (nI s) st = some (some (.int (nI (arcsQ M.2.2 s).length)), st) := by
  rw [arcsOf_ok h hM, atO_n hs]
  unfold arcsQ
  cases M.2.2[s]? with
  | none => rfl
  | some x => rfl
theorem arcsQ_len {B V : Nat} (hM : mcG st o M B V) (s : Nat) : (arcsQ M.2.2 s).length ≤ 2400 := by
  unfold arcsQ
  cases hs : M.2.2[s]? with
  | none => simp
  | some x => have := (arcs_le hM hs).2; show x.2.2.length ≤ 2400; omega
theorem arcsQ_in {B V : Nat} (hM : mcG st o M B V) {s i : Nat} {y : Nat × Nat × Nat} (h : (arcsQ M.2.2 s)[i]? = some y) : y.1 < 256 ∧ y.2.1 < B ∧ y.2.2 ≤ V := by
  unfold arcsQ at h
  cases hs : M.2.2[s]? with
  | none => rw [hs] at h; simp at h
  | some x =>
    rw [hs] at h
    obtain ⟨-, h2, -, h4, -, h6⟩ := (hM.2.2.2.2.2.2.2 s x hs).2.2.2.2.2.2 i y h
    exact ⟨h2, h4, h6⟩
theorem lastQ_in {B V : Nat} (hM : mcG st o M B V) {s k : Nat} (h : lastQ M.2.2 s = some k) : k ≤ V := by
  unfold lastQ at h
  cases hs : M.2.2[s]? with
  | none => rw [hs] at h; cases h
  | some x =>
    rw [hs] at h
    exact (hM.2.2.2.2.2.2.2 s x hs).2.1 k h
/-- enter -/
theorem enter_ok (hF : Fx L st) (hO : MO st o) (hM : mcG st o M M.2.2.length VV) (ho : 24 < o) (ht : 65 < t) (hto : t + 3 < o ∨ o + 6 < t) {D : Dc} (hT : isTm st t D) {p : List Nat} (hp : ∀ j c, p[j]? = some c → sI st 21 j = nI c ∧ c < 256) (hpl : p.length ≤ 12) {s v : Nat} (hs : s < M.2.2.length) (hv : v ≤ 13 * VV) : ∃ st', upto (onL t) st st' ∧ sI st' 22 = sI (uI st 22 p.length (nI s)) 22 ∧ sI st' 23 = sI (uI st 23 p.length 0) 23 ∧ sJ st' 24 = sJ (uJ st 24 p.length (lN v)) 24 ∧ sI st' 21 = sI st 21 ∧ ((f_X3_enter 20 o t (nI p.length) (nI s) (lN v) st = some (some (.int 1), st') ∧ isTm st' t (D ++ (tmN M.2.2 (p, s, v)).toList)) ∨ (f_X3_enter 20 o t (nI p.length) (nI s) (lN v) st = some (some (.int 0), st') ∧ ¬ ((p = [] ∨ lastQ M.2.2 s ≠ none ∨ arcsQ M.2.2 s ≠ []) ∧ (∀ k, lastQ M.2.2 s = some k → v + k ≤ 1000000000000 ∧ D.length < 200)))) := by
  have h20 : (sH st)[20]? = some (0, 3) := Fx_sh hF rfl
  have hML := hM.2.2.2.2.2.2.1.2.2.1
  have hVV : VV = 4398046511103 := rfl
  let s1 := uI st 22 p.length (nI s)
  let s2 := uI s1 23 p.length 0
  let s3 := uJ s2 24 p.length (lN v)
  have u3 : upto (onL t) st s3 := upto_trans (upto_uI (Or.inl (by omega))) (upto_trans (upto_uI (Or.inl (by omega))) (upto_uJ (Or.inl (by omega))))
  have u3' : upto (fun q => 21 ≤ q ∧ q ≤ 24) st s3 := upto_trans (upto_uI (by omega)) (upto_trans (upto_uI (by omega)) (upto_uJ (by omega)))
  have F3 := Fx_up hF u3
  have O3 : MO s3 o := hO
  have M3 : mcG s3 o M M.2.2.length VV := by
    refine mcG_up hM u3' (fun q h1 h2 => ?_)
    omega
  have T3 : isTm s3 t D := isTm_up hT u3' (by omega) (by omega) (by omega) (by omega)
  have e21 : sI s3 21 = sI st 21 := by
    funext j
    show sI (uJ (uI (uI st 22 p.length (nI s)) 23 p.length 0) 24 p.length (lN v)) 21 j = _
    rw [I_uJ, I_uI, if_neg (fun z => by omega), I_uI, if_neg (fun z => by omega)]
  have e22 : sI s3 22 = sI (uI st 22 p.length (nI s)) 22 := by
    funext j
    show sI (uJ (uI (uI st 22 p.length (nI s)) 23 p.length 0) 24 p.length (lN v)) 22 j = _
    rw [I_uJ, I_uI, if_neg (fun z => by omega)]
  have e23 : sI s3 23 = sI (uI st 23 p.length 0) 23 := by
    funext j
    show sI (uJ (uI (uI st 22 p.length (nI s)) 23 p.length 0) 24 p.length (lN v)) 23 j = _
    rw [I_uJ, I_uI, I_uI, I_uI]
    by_cases hj : 23 = 23 ∧ j = p.length
    · rw [if_pos hj, if_pos hj]
    · rw [if_neg hj, if_neg hj, if_neg (fun z => by omega)]
  have e24 : sJ s3 24 = sJ (uJ st 24 p.length (lN v)) 24 := by
    funext j
    show sJ (uJ (uI (uI st 22 p.length (nI s)) 23 p.length 0) 24 p.length (lN v)) 24 j = _
    rw [J_uJ, J_uI, J_uI, J_uJ]
  have hd : f_X3_enter 20 o t (nI p.length) (nI s) (lN v) st = ab_rl (f_X1_lastOf o (nI s) s3) fun x8 s7 => if (lg_cmp x8 (-1 : Int64)) = 0 then (if nI p.length = 0 then some (some (.int 1), s7) else ab_ri (f_X1_arcsOf o (nI s) s7) fun x10 s9 => if x10 ≤ 0 then some (some (.int 0), s9) else some (some (.int 1), s9)) else if 0 < (lg_cmp (lN v + x8) (1000000000000 : Int64)) then some (some (.int 0), s7) else Option.bind (ab_gR s7 20 3 0) fun x11 => ab_ri (f_X7_append t x11 (0 : Int32) (nI p.length) (lN v + x8) s7) fun x13 s12 => if x13 = 0 then some (some (.int 0), s12) else some (some (.int 1), s12) := by
    have a22 : (sH st)[22]? = some (1, 13) := Fx_sh hF rfl
    have a23 : (sH s1)[23]? = some (1, 13) := Fx_sh hF (o := 23) rfl
    have a24 : (sH s2)[24]? = some (2, 13) := Fx_sh hF (o := 24) rfl
    have t1 : (sH s1)[20]? = some (0, 3) := h20
    have t2 : (sH s2)[20]? = some (0, 3) := h20
    have r1 : sR st 20 1 = 22 := Fx_rf hF (by decide)
    have r2 : sR s1 20 2 = 23 := Fx_rf hF (v := 23) (by decide)
    have r3 : sR s2 20 3 = 24 := Fx_rf hF (v := 24) (by decide)
    rw [e_X3_enter_0, rc_ok h20, if_neg (nI_pos (by omega)), nl 12, if_pos (by rw [c_le (by omega) (by omega)]; omega), gR_ok h20, Option.bind_some, r1, wI_ok a22 (by omega) (by omega), Option.bind_some]
    show Option.bind (ab_gR s1 20 3 2) _ = _
    rw [gR_ok t1, Option.bind_some, r2, wI_ok a23 (by omega) (by omega), Option.bind_some]
    show Option.bind (ab_gR s2 20 3 3) _ = _
    rw [gR_ok t2, Option.bind_some, r3, wJ_ok a24 (by omega) (by omega), Option.bind_some]
    simp only [z_0, z_1]
    rfl
  rw [hd, lastOf_Q O3 M3 (by omega), rl_ok]
  cases hlq : lastQ M.2.2 s with
  | none =>
    refine ⟨s3, u3, e22, e23, e24, e21, ?_⟩
    have htm : (tmN M.2.2 (p, s, v)).toList = [] := by unfold tmN; rw [hlq]; rfl
    rw [if_pos (c := lg_cmp (lastI none) (-1) = 0) (cmp_eq.mpr rfl), htm, List.append_nil]
    by_cases hp0 : p.length = 0
    · rw [if_pos (by rw [hp0]; rfl)]
      exact Or.inl ⟨rfl, T3⟩
    · rw [if_neg (by show ¬ nI _ = nI 0; rw [c_eq (by omega) (by omega)]; exact hp0), arcsOf_Q O3 M3 (by omega), ri_ok]
      have hal := arcsQ_len hM s
      by_cases ha : (arcsQ M.2.2 s).length = 0
      · rw [if_pos (by show nI _ ≤ nI 0; rw [c_le (by omega) (by omega)]; omega)]
        refine Or.inr ⟨rfl, fun q => ?_⟩
        rcases q.1 with q1 | q1 | q1
        · rw [q1] at hp0; exact hp0 rfl
        · exact q1 rfl
        · exact q1 (List.length_eq_zero_iff.mp ha)
      · rw [if_neg (by show ¬ nI _ ≤ nI 0; rw [c_le (by omega) (by omega)]; omega)]
        exact Or.inl ⟨rfl, T3⟩
  | some k =>
    have hk := lastQ_in hM hlq
    have htm : (tmN M.2.2 (p, s, v)).toList = [(p, v + k)] := by unfold tmN; rw [hlq]; rfl
    have hne : ¬ (lg_cmp (lastI (some k)) (-1) = 0) := fun q => by
      have := (lastI_m1 (v := some k) (V := VV) (fun u hu => by cases hu; exact hk) (by decide)).mp (cmp_eq.mp q)
      cases this
    have elk : lastI (some k) = lN k := rfl
    rw [if_neg hne, htm, elk, lN_add]
    have hcmp : (0 < lg_cmp (lN (v + k)) 1000000000000) ↔ 1000000000000 < v + k := by
      rw [← Int32.not_le]
      exact (not_congr (lc_le (a := v + k) (b := 1000000000000) (by omega) (by omega))).trans (by omega)
    by_cases hbig : 1000000000000 < v + k
    · refine ⟨s3, u3, e22, e23, e24, e21, Or.inr ⟨by rw [if_pos (hcmp.mpr hbig)], fun q => ?_⟩⟩
      have := (q.2 k rfl).1
      omega
    · have t3 : (sH s3)[20]? = some (0, 3) := h20
      have r0 : sR s3 20 0 = 21 := Fx_rf hF (v := 21) (by decide)
      have a21 : (sH s3)[21]? = some (1, 12) := Fx_sh hF (o := 21) rfl
      by_cases hfull : D.length < 200
      · obtain ⟨s4, b1, b2, b3⟩ := append_ok T3 hfull a21 (by omega) (by omega) (f := 0) (x := p) (fun j c hj => by rw [Nat.zero_add, e21]; exact hp j c hj) hpl (by omega) (v := v + k) (by omega)
        refine ⟨s4, upto_trans u3 (upto_mono b3 (fun q hq => Or.inr hq)), ?_, ?_, ?_, ?_, Or.inl ⟨?_, b2⟩⟩
        · rw [(b3.2.2 22 (by omega)).1, e22]
        · rw [(b3.2.2 23 (by omega)).1, e23]
        · rw [(b3.2.2 24 (by omega)).2, e24]
        · rw [(b3.2.2 21 (by omega)).1, e21]
        · rw [if_neg (fun q => hbig (hcmp.mp q)), gR_ok t3, Option.bind_some, r0, show (0 : Int32) = nI 0 from rfl, b1, ri_ok, if_neg (by decide)]
      · have hD := T3.2.2.2.2.2.2.2.2.1
        refine ⟨s3, u3, e22, e23, e24, e21, Or.inr ⟨?_, fun q => hfull (q.2 k rfl).2⟩⟩
        rw [if_neg (fun q => hbig (hcmp.mp q)), gR_ok t3, Option.bind_some, r0, append_full T3 (by omega) a21, ri_ok, if_pos rfl]
theorem list0 {dp step : Int32} : L_X3_listTerms_23 20 o t dp 0 step st = some (some (.int 0), st) := by
  rw [e_X3_listTerms_23, z_0]
  by_cases h : (1000000 : Int32) ≤ step
  · rw [if_pos h]
  · rw [if_neg h, if_pos rfl]
theorem listL_ok (hto : 65 < t ∧ t + 3 < o) (l : Nat) : ∀ m step (S I V : Nat → Nat) (p : List Nat) (W : List Nd) (st : ab_S), step + m = 1000000 → Fx L st → MO st o → mcG st o M M.2.2.length VV → isTm st t (W.filterMap (tmN M.2.2)) → stk st M.2.2 S I V p VV → W ++ sr M.2.2 S I V p p.length = vs M.2.2 12 0 [] l → (∀ j, j ≤ p.length → (p.take j, S j, V j) ∈ W) → ∃ st', upto (onL t) st st' ∧ ((L_X3_listTerms_23 20 o t (nI p.length) 1 (nI step) st = some (some (.int 1), st') ∧ isTm st' t ((vs M.2.2 12 0 [] l).filterMap (tmN M.2.2))) ∨ (L_X3_listTerms_23 20 o t (nI p.length) 1 (nI step) st = some (some (.int 0), st') ∧ ¬ (GOOD M.2.2 l ∧ step + 2 * (sr M.2.2 S I V p p.length).length + p.length < 1000000))) := by
  intro m
  induction m with
  | zero =>
    intro step S I V p W st hm hF hO hM hT hk hW hin
    refine ⟨st, upto_rfl, Or.inr ⟨?_, fun q => by have := q.2; omega⟩⟩
    rw [e_X3_listTerms_23, if_pos (by show nI 1000000 ≤ nI step; rw [c_le (by omega) (by omega)]; omega), z_0]
  | succ m ih =>
    intro step S I V p W st hm hF hO hM hT hk hW hin
    obtain ⟨k1, k2, k3⟩ := hk
    have hk : stk st M.2.2 S I V p VV := ⟨k1, k2, k3⟩
    have hML := hM.2.2.2.2.2.2.1.2.2.1
    have hVV : VV = 4398046511103 := rfl
    have h20 : (sH st)[20]? = some (0, 3) := Fx_sh hF rfl
    have a21 : (sH st)[21]? = some (1, 12) := Fx_sh hF rfl
    have a22 : (sH st)[22]? = some (1, 13) := Fx_sh hF rfl
    have a23 : (sH st)[23]? = some (1, 13) := Fx_sh hF rfl
    have r0 : sR st 20 0 = 21 := Fx_rf hF (by decide)
    have r1 : sR st 20 1 = 22 := Fx_rf hF (by decide)
    have r2 : sR st 20 2 = 23 := Fx_rf hF (by decide)
    obtain ⟨z1, z2, z3, z4, z5, z6⟩ := k1 p.length (Nat.le_refl _)
    have hal := arcsQ_len hM (S p.length)
    have head : L_X3_listTerms_23 20 o t (nI p.length) 1 (nI step) st = if lg_cmp (tellA ((arcsQ M.2.2 (S p.length))[I p.length]?) 0) (-1) = 0 then (if nI p.length = 0 then some (some (.int 1), st) else L_X3_listTerms_69 20 o t (nI p.length) 1 (nI step) (tellA ((arcsQ M.2.2 (S p.length))[I p.length]?) 0) st) else L_X3_listTerms_69 20 o t (nI p.length) 1 (nI step) (tellA ((arcsQ M.2.2 (S p.length))[I p.length]?) 0) st := by
      rw [e_X3_listTerms_23, if_neg (by show ¬ nI 1000000 ≤ nI step; rw [c_le (by omega) (by omega)]; omega), if_neg (by decide), gR_ok h20, Option.bind_some, r1, rI_ok a22 (by omega) (by omega), Option.bind_some, gR_ok h20, Option.bind_some, r2, rI_ok a23 (by omega) (by omega), Option.bind_some, z1, z2, tellArc_ok hO hM hML, rl_ok, arcI_Q (by omega) (by omega), z_1]
    cases hy : (arcsQ M.2.2 (S p.length))[I p.length]? with
    | none =>
      rw [hy] at head
      have hl := lvl_nil (V := V) (p := p) hy
      rw [head, if_pos (show lg_cmp (tellA none 0) (-1) = 0 from cmp_eq.mpr rfl)]
      by_cases hp0 : p.length = 0
      · have esr : sr M.2.2 S I V p p.length = [] := by rw [hp0] at hl ⊢; exact hl
        rw [if_pos (by rw [hp0]; rfl)]
        refine ⟨st, upto_rfl, Or.inl ⟨rfl, ?_⟩⟩
        rw [esr, List.append_nil] at hW
        rw [← hW]
        exact hT
      · obtain ⟨d, hd⟩ : ∃ d, p.length = d + 1 := ⟨p.length - 1, by omega⟩
        have hpt : (p.take d).length = d := by rw [List.length_take]; omega
        have esr : sr M.2.2 S I V p p.length = sr M.2.2 S I V (p.take d) (p.take d).length := by
          rw [hpt]
          rw [hd] at hl ⊢
          show lvl M.2.2 S I V p (d + 1) ++ sr M.2.2 S I V p d = _
          rw [hl, List.nil_append]
          exact sr_congr (fun i hi => ⟨rfl, rfl, rfl, by rw [List.take_take, Nat.min_eq_left hi]⟩)
        rw [if_neg (by show ¬ nI _ = nI 0; rw [c_eq (by omega) (by omega)]; exact hp0), e_X3_listTerms_69, if_pos (show lg_cmp (tellA none 0) (-1) = 0 from cmp_eq.mpr rfl), e_X3_listTerms_113, nI_1, show nI p.length + (-1 : Int32) = nI (p.take d).length by
          rw [hpt, hd, show (-1 : Int32) = - (1 : Int32) from rfl, ← Int32.sub_eq_add_neg, show (1 : Int32) = nI 1 from rfl, a_sub (by omega)]
          rfl]
        have := ih (step + 1) S I V (p.take d) W st (by omega) hF hO hM hT ⟨fun j hj => k1 j (by omega), fun j c hj => k2 j c (by
          have hjl := (List.getElem?_eq_some_iff.mp hj).1
          rw [List.getElem?_take_of_lt (by omega)] at hj
          exact hj), by omega⟩ (by rw [← esr]; exact hW) (fun j hj => by rw [List.take_take, Nat.min_eq_left (by omega)]; exact hin j (by omega))
        obtain ⟨st', b1, b2⟩ := this
        refine ⟨st', b1, ?_⟩
        rcases b2 with b2 | ⟨b2, b3⟩
        · exact Or.inl b2
        · refine Or.inr ⟨b2, fun q => b3 ⟨q.1, ?_⟩⟩
          have := q.2
          rw [esr] at this
          omega
    | some y =>
      rw [hy] at head
      obtain ⟨y1, y2, y3⟩ := arcsQ_in hM hy
      have hne : ¬ lg_cmp (tellA (some y) 0) (-1) = 0 := fun q => by
        have e := cmp_eq.mp q
        have := (lastI_m1 (v := some y.1) (V := 1000) (fun u hu => by cases hu; omega) (by decide)).mp e
        cases this
      rw [head, if_neg hne, e_X3_listTerms_69, if_neg hne]
      by_cases hd12 : p.length < 12
      rotate_left
      · refine ⟨st, upto_rfl, Or.inr ⟨?_, fun q => ?_⟩⟩
        · rw [if_neg (by show ¬ nI p.length < nI 12; rw [c_lt (by omega) (by omega)]; exact hd12), z_0]
        · have hmem : (p.take p.length, S p.length, V p.length) ∈ vs M.2.2 12 0 [] l := by rw [← hW]; exact List.mem_append_left _ (hin _ (Nat.le_refl _))
          rw [List.take_length] at hmem
          have := (q.1.1 _ hmem).2.2 (by show 12 ≤ p.length; omega)
          dsimp only at this
          rw [this] at hy
          simp at hy
      have hI : I p.length < (arcsQ M.2.2 (S p.length)).length := (List.getElem?_eq_some_iff.mp hy).1
      let s1 := uI st 21 p.length (nI y.1)
      let s2 := uI s1 23 p.length (nI (I p.length + 1))
      have u2 : upto (fun q => 21 ≤ q ∧ q ≤ 24) st s2 := upto_trans (upto_uI (by omega)) (upto_uI (by omega))
      have U2 : upto (onL t) st s2 := upto_mono u2 (fun q hq => Or.inl hq)
      have F2 := Fx_up hF u2
      have O2 : MO s2 o := hO
      have M2 : mcG s2 o M M.2.2.length VV := mcG_up hM u2 (fun q _ _ => by omega)
      have O1 : MO s1 o := hO
      have T2 := isTm_up hT u2 (by omega) (by omega) (by omega) (by omega)
      have hpl : (p ++ [y.1]).length = p.length + 1 := by rw [List.length_append, List.length_singleton]
      have hv : V p.length + y.2.2 ≤ 13 * VV := by
        have : (p.length + 1) * VV ≤ 12 * VV := Nat.mul_le_mul_right _ (by omega)
        omega
      have hpath : ∀ j c, (p ++ [y.1])[j]? = some c → sI s2 21 j = nI c ∧ c < 256 := by
        intro j c hj
        have hjl := (List.getElem?_eq_some_iff.mp hj).1
        rw [hpl] at hjl
        have e21 : sI s2 21 j = if j = p.length then nI y.1 else sI st 21 j := by
          show sI (uI (uI st 21 p.length (nI y.1)) 23 p.length (nI (I p.length + 1))) 21 j = _
          rw [I_uI, if_neg (fun z => by omega), I_uI]
          simp
        by_cases hjp : j = p.length
        · subst hjp
          rw [List.getElem?_append_right (Nat.le_refl _), Nat.sub_self] at hj
          have : c = y.1 := by simpa using hj.symm
          rw [e21, if_pos rfl, this]
          exact ⟨rfl, y1⟩
        · rw [List.getElem?_append_left (by omega)] at hj
          rw [e21, if_neg hjp]
          exact k2 j c hj
      obtain ⟨s3, b1, b2, b3, b4, b5, b6⟩ := enter_ok F2 O2 M2 (by omega) (by omega) (Or.inl hto.2) T2 hpath (by omega) y2 hv
      have efol : ∀ b, f_X3_enter 20 o t (nI (p ++ [y.1]).length) (nI y.2.1) (lN (V p.length + y.2.2)) s2 = some (some (.int b), s3) → (b = 0 ∨ b = 1) → (if nI p.length < (12 : Int32) then Option.bind (ab_gR st 20 3 0) fun x1 => Option.bind (ab_wI st x1 (nI p.length) (tellA (some y) 0).toInt32) fun s2 => ab_ri (f_X3_follow 20 o t (nI p.length) s2) fun x4 s3 => L_X3_listTerms_113 20 o t (nI p.length + 1) x4 (nI step) s3 else ab_z (0 : Int32) (some (some (.int (0 : Int32)), st))) = L_X3_listTerms_23 20 o t (nI (p ++ [y.1]).length) b (nI (step + 1)) s3 := by
        intro b hb hb01
        have hz : ∀ r, ab_z b r = r := fun r => by rcases hb01 with q | q <;> rw [q]; exact z_0; exact z_1
        have t1 : (sH s1)[20]? = some (0, 3) := h20
        have t2 : (sH s2)[20]? = some (0, 3) := h20
        have c22 : (sH s1)[22]? = some (1, 13) := a22
        have c23 : (sH s1)[23]? = some (1, 13) := a23
        have c24 : (sH s2)[24]? = some (2, 13) := Fx_sh hF (o := 24) rfl
        have q1 : sR s1 20 1 = 22 := r1
        have q2 : sR s1 20 2 = 23 := r2
        have q3 : sR s2 20 3 = 24 := Fx_rf hF (v := 24) (by decide)
        have v1 : sI s1 22 p.length = nI (S p.length) := by show sI (uI st 21 p.length (nI y.1)) 22 p.length = _; rw [I_uI, if_neg (fun z => by omega)]; exact z1
        have v2 : sI s1 23 p.length = nI (I p.length) := by show sI (uI st 21 p.length (nI y.1)) 23 p.length = _; rw [I_uI, if_neg (fun z => by omega)]; exact z2
        have v3 : sJ s2 24 p.length = lN (V p.length) := z3
        rw [if_pos (by show nI p.length < nI 12; rw [c_lt (by omega) (by omega)]; exact hd12), gR_ok h20, Option.bind_some, r0, wI_ok a21 (by omega) (by omega), Option.bind_some]
        show ab_ri (f_X3_follow 20 o t (nI p.length) (uI st 21 p.length (lN y.1).toInt32)) _ = _
        rw [lN_i]
        show ab_ri (f_X3_follow 20 o t (nI p.length) s1) _ = _
        rw [e_X3_follow_0, rc_ok t1, gR_ok t1, Option.bind_some, q1, rI_ok c22 (by omega) (by omega), Option.bind_some, gR_ok t1, Option.bind_some, q2, rI_ok c23 (by omega) (by omega), Option.bind_some, v1, v2, Option.bind_some, wI_ok c23 (by omega) (by omega), Option.bind_some, nI_1]
        show ab_ri (Option.bind (ab_gR s2 20 3 3) _) _ = _
        rw [gR_ok t2, Option.bind_some, q3, rJ_ok c24 (by omega) (by omega), Option.bind_some, tellArc_ok O2 M2 hML, rl_ok, tellArc_ok O2 M2 hML, rl_ok, arcI_Q (by omega) (by omega), hy, v3]
        show ab_ri (ab_ri (f_X3_enter 20 o t (nI p.length + 1) (lN y.2.1).toInt32 (lN (V p.length) + lN y.2.2) s2) _) _ = _
        rw [lN_i, lN_add, nI_1, ← hpl, hb, ri_ok, hz, ri_ok, e_X3_listTerms_113, nI_1]
      have esr := sr_down (p := p) rfl hd12 hy (V := V)
      have hnode : (p ++ [y.1], y.2.1, V p.length + y.2.2) ∈ vs M.2.2 12 0 [] l := by rw [← hW, esr]; exact List.mem_append_right _ List.mem_cons_self
      rcases b6 with ⟨c1, c2⟩ | ⟨c1, c2⟩
      · rw [efol 1 c1 (Or.inr rfl)]
        have U3 : upto (onL t) st s3 := upto_trans U2 b1
        have fm : (W ++ [(p ++ [y.1], y.2.1, V p.length + y.2.2)]).filterMap (tmN M.2.2) = W.filterMap (tmN M.2.2) ++ (tmN M.2.2 (p ++ [y.1], y.2.1, V p.length + y.2.2)).toList := by
          rw [List.filterMap_append]
          congr 1
        rw [← fm] at c2
        have i22 : ∀ j, sI s3 22 j = if j = p.length + 1 then nI y.2.1 else sI st 22 j := by
          intro j
          rw [b2, I_uI, hpl]
          have : sI s2 22 j = sI st 22 j := by
            show sI (uI (uI st 21 p.length (nI y.1)) 23 p.length (nI (I p.length + 1))) 22 j = _
            rw [I_uI, if_neg (fun z => by omega), I_uI, if_neg (fun z => by omega)]
          rw [this]
          simp
        have i23 : ∀ j, sI s3 23 j = if j = p.length + 1 then 0 else if j = p.length then nI (I p.length + 1) else sI st 23 j := by
          intro j
          rw [b3, I_uI, hpl]
          have : sI s2 23 j = if j = p.length then nI (I p.length + 1) else sI st 23 j := by
            show sI (uI (uI st 21 p.length (nI y.1)) 23 p.length (nI (I p.length + 1))) 23 j = _
            rw [I_uI, I_uI, if_neg (c := 23 = 21 ∧ j = p.length) (fun z => by omega)]
            simp
          rw [this]
          simp
        have i24 : ∀ j, sJ s3 24 j = if j = p.length + 1 then lN (V p.length + y.2.2) else sJ st 24 j := by
          intro j
          rw [b4, J_uJ, hpl]
          have : sJ s2 24 j = sJ st 24 j := rfl
          rw [this]
          simp
        have M3 : mcG s3 o M M.2.2.length VV := mcG_up hM U3 (fun q _ _ => by unfold onL; omega)
        obtain ⟨st', d1, d2⟩ := ih (step + 1) (up1 S (p.length + 1) y.2.1) (up1 (up1 I p.length (I p.length + 1)) (p.length + 1) 0) (up1 V (p.length + 1) (V p.length + y.2.2)) (p ++ [y.1]) (W ++ [(p ++ [y.1], y.2.1, V p.length + y.2.2)]) s3 (by omega) (Fx_up hF U3) (MO_up hO U3) M3 c2 ⟨fun j hj => by
            rw [hpl] at hj
            rw [i22, i23, i24]
            by_cases hj1 : j = p.length + 1
            · rw [if_pos hj1, if_pos hj1, if_pos hj1, hj1, up1_s, up1_s, up1_s]
              refine ⟨rfl, rfl, rfl, y2, Nat.zero_le _, ?_⟩
              rw [Nat.succ_mul]
              omega
            · rw [if_neg hj1, if_neg hj1, if_neg hj1, up1_o hj1, up1_o hj1, up1_o hj1]
              obtain ⟨w1, w2, w3, w4, w5, w6⟩ := k1 j (by omega)
              by_cases hj2 : j = p.length
              · rw [if_pos hj2, hj2, up1_s]
                rw [hj2] at w1 w3 w4 w6
                exact ⟨w1, rfl, w3, w4, by omega, w6⟩
              · rw [if_neg hj2, up1_o hj2]
                exact ⟨w1, w2, w3, w4, w5, w6⟩, fun j c hj => by rw [b5]; exact hpath j c hj, by omega⟩ (by
            rw [List.append_assoc, ← hW, esr, hpl]; rfl) (fun j hj => by
            rw [hpl] at hj
            by_cases hj1 : j = p.length + 1
            · rw [hj1, up1_s, up1_s, List.take_of_length_le (by omega)]
              exact List.mem_append_right _ List.mem_cons_self
            · rw [up1_o hj1, up1_o hj1, List.take_append_of_le_length (by omega)]
              exact List.mem_append_left _ (hin j (by omega)))
        refine ⟨st', upto_trans U3 d1, ?_⟩
        rcases d2 with d2 | ⟨d2, d3⟩
        · exact Or.inl d2
        · refine Or.inr ⟨d2, fun q => d3 ⟨q.1, ?_⟩⟩
          have := q.2
          rw [esr, List.length_cons] at this
          rw [hpl]
          omega
      · rw [efol 0 c1 (Or.inl rfl)]
        refine ⟨s3, upto_trans U2 b1, Or.inr ⟨list0, fun q => c2 ?_⟩⟩
        obtain ⟨g1, g2, g3⟩ := q.1
        obtain ⟨h1, h2, h3⟩ := g1 _ hnode
        refine ⟨h1, fun k hk => ⟨h2 k hk, ?_⟩⟩
        rw [← hW, esr] at g2
        rw [List.filterMap_append, List.filterMap_cons] at g2
        have htm : tmN M.2.2 (p ++ [y.1], y.2.1, V p.length + y.2.2) = some (p ++ [y.1], V p.length + y.2.2 + k) := by unfold tmN; dsimp only; rw [hk]; rfl
        rw [htm, List.length_append, List.length_cons] at g2
        omega
theorem list_ok (hF : Fx L st) (hO : MO st o) (hM : mcG st o M M.2.2.length VV) (h1 : 1 ≤ M.2.2.length) (hto : 65 < t ∧ t + 3 < o) (hc : f_X7_clear t st = some (none, uI st t 3 0)) (hT : isTm (uI st t 3 0) t []) : ∃ st', upto (onL t) st st' ∧ ((f_X3_listTerms 20 o t st = some (some (.int 1), st') ∧ isTm st' t ((vs M.2.2 12 0 [] M.1).filterMap (tmN M.2.2))) ∨ (f_X3_listTerms 20 o t st = some (some (.int 0), st') ∧ ¬ GOOD M.2.2 M.1)) := by
  have h20 : (sH st)[20]? = some (0, 3) := Fx_sh hF rfl
  have u1 : upto (fun q => q = t) st (uI st t 3 0) := upto_uI rfl
  have U1 : upto (onL t) st (uI st t 3 0) := upto_uI (Or.inr (by omega))
  have F1 := Fx_up hF u1
  have O1 : MO (uI st t 3 0) o := hO
  have M1 := mcG_up hM u1 (fun q _ _ => by omega)
  have hVV : VV = 4398046511103 := rfl
  have hl : M.1 ≤ VV := hM.2.2.2.2.2.2.1.1
  obtain ⟨s2, b1, b2, b3, b4, b5, b6⟩ := enter_ok F1 O1 M1 (by omega) hto.1 (Or.inl hto.2) hT (p := []) (fun j c hj => by simp at hj) (by simp) (s := 0) (v := M.1) (by omega) (by omega)
  have head : ∀ b, f_X3_enter 20 o t (nI ([] : List Nat).length) (nI 0) (lN M.1) (uI st t 3 0) = some (some (.int b), s2) → f_X3_listTerms 20 o t st = L_X3_listTerms_23 20 o t 0 b 0 s2 := by
    intro b hb
    have hb' : f_X3_enter 20 o t 0 0 (lN M.1) (uI st t 3 0) = some (some (.int b), s2) := hb
    rw [e_X3_listTerms_0, rc_ok h20, hc, rv_ok, mj O1, Option.bind_some, M1.1, hb', ri_ok]
  have U2 := upto_trans U1 b1
  have est := sr_start (Q := M.2.2) (v := M.1) (S := fun _ => 0) (I := fun _ => 0) (V := fun _ => M.1) rfl rfl rfl
  rcases b6 with ⟨c1, c2⟩ | ⟨c1, c2⟩
  · rw [head 1 c1]
    have M2 : mcG s2 o M M.2.2.length VV := mcG_up hM U2 (fun q _ _ => by unfold onL; omega)
    have fm : [(([] : List Nat), 0, M.1)].filterMap (tmN M.2.2) = [] ++ (tmN M.2.2 ([], 0, M.1)).toList := by
      cases h : tmN M.2.2 ([], 0, M.1) with
      | none => simp [h]
      | some z => simp [h]
    rw [← fm] at c2
    obtain ⟨st', d1, d2⟩ := listL_ok (M := M) hto M.1 1000000 0 (fun _ => 0) (fun _ => 0) (fun _ => M.1) [] [([], 0, M.1)] s2 rfl (Fx_up hF U2) (MO_up hO U2) M2 c2 ⟨fun j hj => by
      have hj0 : j = 0 := by simpa using hj
      subst hj0
      refine ⟨?_, ?_, ?_, (by show 0 < M.2.2.length; omega), Nat.zero_le _, ?_⟩
      · rw [b2, I_uI]; rfl
      · rw [b3, I_uI]; rfl
      · rw [b4, J_uJ]; rfl
      · rw [Nat.zero_add, Nat.one_mul]; exact hl, fun j c hj => by simp at hj, by simp⟩ est.symm (fun j hj => by
      have hj0 : j = 0 := by simpa using hj
      subst hj0
      exact List.mem_cons_self)
    refine ⟨st', upto_trans U2 d1, ?_⟩
    rcases d2 with d2 | ⟨d2, d3⟩
    · exact Or.inl d2
    · refine Or.inr ⟨d2, fun q => d3 ⟨q, ?_⟩⟩
      have h3 := q.2.2
      rw [est, List.length_cons] at h3
      simp only [List.length_nil]
      omega
  · rw [head 0 c1]
    refine ⟨s2, U2, Or.inr ⟨list0, fun q => c2 ?_⟩⟩
    obtain ⟨h2, h3, h4⟩ := q.1 ([], 0, M.1) (by rw [est]; exact List.mem_cons_self)
    exact ⟨Or.inl rfl, fun k hk => ⟨h3 k hk, by simp⟩⟩
end CLIST
