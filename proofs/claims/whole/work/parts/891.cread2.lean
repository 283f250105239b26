/-! THE CLASS READS A STATE, A MACHINE -/
def VV : Nat := 4398046511103
section CRD2
variable {L : Nat} {st : ab_S} {a o : Nat} {w : List Nat}
def onR (o q : Nat) : Prop := q = 20 ∨ (o ≤ q ∧ q ≤ o + 6)
theorem e154_0 {l l3 : Int32} {l7 : Int64} {l10 l11 : Int32} {l13 l15 : Int64} : L_X3_readState_154 20 a o l3 l7 l10 l11 l l13 l15 0 st = some (some (.int 0), st) := by
  rw [e_X3_readState_154, z_0]
  by_cases h : l ≤ l10
  · rw [if_pos h]
  · rw [if_neg h, if_pos rfl]
theorem rdA_cons {K n B bf c : Nat} {sd : Bool} {r : List Nat} : rdA K sd B (n + 1) bf (c :: r) = if sd = true ∧ c < bf then none else (rdn K r).bind fun x => (rdn K x.2).bind fun y => if x.1 < B then (rdA K sd B n (c + 1) y.2).map fun z => ((c, x.1, y.1) :: z.1, z.2) else none := rfl
theorem rarcs_ok (hao : 61 < a ∧ a < 66) (ho : 66 < o) {l B n : Nat} {Q : QS} {v : Option Nat} (hB : B ≤ 2401) (hn : n ≤ 256) (hwl : w.length ≤ 4000) : ∀ k i bf p (as : List (Nat × Nat × Nat)) (st : ab_S), i + k = n → bf < 1000 → Fx L st → MO st o → isSg st a 4000 w → mcG st o (l, 0, Q ++ [(v, 0, as)]) B VV → sI st 20 4 = nI p → p ≤ w.length → 3 * arcsB (l, 0, Q ++ [(v, 0, as)]) (Q.length + 1) ≤ p → ∃ st', upto (onR o) st st' ∧ ((∃ l2 r' p', rdA 6 true B k bf (w.drop p) = some (l2, r') ∧ L_X3_readState_97 20 a o (nI B) (lN n) (befI bf) (nI i) st = some (some (.int 1), st') ∧ mcG st' o (l, 0, Q ++ [(v, 0, as ++ l2)]) B VV ∧ sI st' 20 4 = nI p' ∧ p' ≤ w.length ∧ w.drop p' = r' ∧ 3 * arcsB (l, 0, Q ++ [(v, 0, as ++ l2)]) (Q.length + 1) ≤ p') ∨ (rdA 6 true B k bf (w.drop p) = none ∧ L_X3_readState_97 20 a o (nI B) (lN n) (befI bf) (nI i) st = some (some (.int 0), st'))) := by
  intro k
  induction k with
  | zero =>
    intro i bf p as st hi hbf hF hO hw hM hp hpl h3
    refine ⟨st, upto_rfl, Or.inl ⟨[], w.drop p, p, rfl, ?_, by rw [List.append_nil]; exact hM, hp, hpl, rfl, by rw [List.append_nil]; exact h3⟩⟩
    rw [e_X3_readState_97, nI_l (by omega), if_pos ((lc_ge (by omega) (by omega)).mpr (by omega)), z_1]
  | succ k ih =>
    intro i bf p as st hi hbf hF hO hw hM hp hpl h3
    have hw6 := hw.2.2.2.2.2.1
    have u1 : upto (fun q => q = 20) st (uI st 20 4 (nI (p + 1))) := upto_uI rfl
    have F1 := Fx_up hF u1
    have W1 := isSg_up hw u1 (by omega) (by omega)
    have p1 : sI (uI st 20 4 (nI (p + 1))) 20 4 = nI (p + 1) := by rw [I_uI, if_pos ⟨rfl, rfl⟩]
    obtain ⟨pa, g1, g2, g3, g4⟩ := rnum_ok F1 W1 (by omega) hwl p1 (by omega)
    rw [uI_over] at g1
    have u2 : upto (fun q => q = 20) st (uI st 20 4 (nI pa)) := upto_uI rfl
    have F2 := Fx_up hF u2
    have W2 := isSg_up hw u2 (by omega) (by omega)
    have p2 : sI (uI st 20 4 (nI pa)) 20 4 = nI pa := by rw [I_uI, if_pos ⟨rfl, rfl⟩]
    obtain ⟨pb, j1, j2, j3, j4⟩ := rnum_ok F2 W2 (by omega) hwl p2 (by omega)
    rw [uI_over] at j1
    have u3 : upto (onR o) st (uI st 20 4 (nI pb)) := upto_uI (Or.inl rfl)
    have hd1 := rdn_b (k := 6) (r := w.drop (p + 1)) (by omega)
    have hd2 := rdn_b (k := 6) (r := w.drop pa) (by omega)
    have head : L_X3_readState_97 20 a o (nI B) (lN n) (befI bf) (nI i) st = (if lg_cmp (rdv (rdn 6 (w.drop (p + 1)))) 0 < 0 then L_X3_readState_153 20 a o (nI B) (lN n) (befI bf) (nI i) (lg w p) (rdv (rdn 6 (w.drop (p + 1)))) (rdv (rdn 6 (w.drop pa))) (uI st 20 4 (nI pb)) else if 0 ≤ lg_cmp (rdv (rdn 6 (w.drop (p + 1)))) (nI B).toInt64 then L_X3_readState_153 20 a o (nI B) (lN n) (befI bf) (nI i) (lg w p) (rdv (rdn 6 (w.drop (p + 1)))) (rdv (rdn 6 (w.drop pa))) (uI st 20 4 (nI pb)) else if lg_cmp (rdv (rdn 6 (w.drop pa))) 0 < 0 then L_X3_readState_153 20 a o (nI B) (lN n) (befI bf) (nI i) (lg w p) (rdv (rdn 6 (w.drop (p + 1)))) (rdv (rdn 6 (w.drop pa))) (uI st 20 4 (nI pb)) else L_X3_readState_154 20 a o (nI B) (lN n) (befI bf) (nI i) (lg w p) (rdv (rdn 6 (w.drop (p + 1)))) (rdv (rdn 6 (w.drop pa))) 1 (uI st 20 4 (nI pb))) := by
      rw [e_X3_readState_97, nI_l (show i < 2 ^ 31 by omega), if_neg (fun q => by have := (lc_ge (by omega) (by omega)).mp q; omega), rsign_ok hF hw hwl hp (by omega), ri_ok, g1, rl_ok, j1, rl_ok]
    have e153 : L_X3_readState_153 20 a o (nI B) (lN n) (befI bf) (nI i) (lg w p) (rdv (rdn 6 (w.drop (p + 1)))) (rdv (rdn 6 (w.drop pa))) (uI st 20 4 (nI pb)) = some (some (.int 0), uI st 20 4 (nI pb)) := by rw [e_X3_readState_153, e154_0]
    have nope : rdA 6 true B (k + 1) bf (w.drop p) = none → L_X3_readState_97 20 a o (nI B) (lN n) (befI bf) (nI i) st = some (some (.int 0), uI st 20 4 (nI pb)) → ∃ st', upto (onR o) st st' ∧ ((∃ l2 r' p', rdA 6 true B (k + 1) bf (w.drop p) = some (l2, r') ∧ L_X3_readState_97 20 a o (nI B) (lN n) (befI bf) (nI i) st = some (some (.int 1), st') ∧ mcG st' o (l, 0, Q ++ [(v, 0, as ++ l2)]) B VV ∧ sI st' 20 4 = nI p' ∧ p' ≤ w.length ∧ w.drop p' = r' ∧ 3 * arcsB (l, 0, Q ++ [(v, 0, as ++ l2)]) (Q.length + 1) ≤ p') ∨ (rdA 6 true B (k + 1) bf (w.drop p) = none ∧ L_X3_readState_97 20 a o (nI B) (lN n) (befI bf) (nI i) st = some (some (.int 0), st'))) := fun h1 h2 => ⟨_, u3, Or.inr ⟨h1, h2⟩⟩
    cases hg : w[p]? with
    | none =>
      have hnone : rdA 6 true B (k + 1) bf (w.drop p) = none := by rw [drop_none hg]; rfl
      refine nope hnone ?_
      rw [head, e153, lg_none hg, e_X3_readState_154, if_pos (c := (-1 : Int32) ≤ befI bf) (befI_m1 hbf), z_0]
      split
      · rfl
      · split
        · rfl
        · split
          · rfl
          · rfl
    | some c =>
      have hc := hw6 c (List.mem_of_getElem? hg)
      cases hq1 : rdn 6 (w.drop (p + 1)) with
      | none =>
        refine nope ?_ ?_
        · rw [drop_some hg, rdA_cons, hq1]
          split <;> rfl
        · rw [head, e153, if_pos ((rdv_neg (fun x hx => by have := hd1 x hx; omega)).mpr hq1)]
      | some x =>
        obtain ⟨s, r1⟩ := x
        have hs := hd1 _ hq1
        dsimp only at hs
        obtain ⟨y1, y2, y3⟩ := g4 s r1 hq1
        have n1 : ¬ lg_cmp (rdv (rdn 6 (w.drop (p + 1)))) 0 < 0 := fun q => by
          have := (rdv_neg (fun x hx => by have := hd1 x hx; omega)).mp q
          rw [hq1] at this
          cases this
        have hcmp : (0 ≤ lg_cmp (rdv (rdn 6 (w.drop (p + 1)))) (nI B).toInt64) ↔ B ≤ s := by
          rw [hq1, nI_l (by omega)]
          exact lc_ge (by omega) (by omega)
        by_cases hsB : s < B
        rotate_left
        · refine nope ?_ ?_
          · rw [drop_some hg, rdA_cons, hq1, Option.bind_some]
            dsimp only
            cases rdn 6 r1 with
            | none => split <;> rfl
            | some y => rw [Option.bind_some, if_neg hsB]; split <;> rfl
          · rw [head, e153, if_neg n1, if_pos (hcmp.mpr (by omega))]
        cases hq2 : rdn 6 (w.drop pa) with
        | none =>
          refine nope ?_ ?_
          · rw [drop_some hg, rdA_cons, hq1, Option.bind_some]
            dsimp only
            rw [← y1, hq2]
            split <;> rfl
          · rw [head, e153, if_neg n1, if_neg (fun q => by have := hcmp.mp q; omega), if_pos ((rdv_neg (fun x hx => by have := hd2 x hx; omega)).mpr hq2)]
        | some y =>
          obtain ⟨u, r2⟩ := y
          have hu := (rdn_ok hq2).1
          obtain ⟨z1, z2, z3⟩ := j4 u r2 hq2
          have n2 : ¬ lg_cmp (rdv (rdn 6 (w.drop pa))) 0 < 0 := fun q => by
            have := (rdv_neg (fun x hx => by have := hd2 x hx; omega)).mp q
            rw [hq2] at this
            cases this
          have to154 : L_X3_readState_97 20 a o (nI B) (lN n) (befI bf) (nI i) st = L_X3_readState_154 20 a o (nI B) (lN n) (befI bf) (nI i) (nI c) (lN s) (lN u) 1 (uI st 20 4 (nI pb)) := by
            rw [head, if_neg n1, if_neg (fun q => by have := hcmp.mp q; omega), if_neg n2, lg_some hg, hq1, hq2]
            rfl
          by_cases hcb : c < bf
          · refine nope ?_ ?_
            · rw [drop_some hg, rdA_cons, if_pos ⟨rfl, hcb⟩]
            · rw [to154, e_X3_readState_154, if_pos ((befI_le (by omega) hbf).mpr hcb), z_0]
          · have M3 : mcG (uI st 20 4 (nI pb)) o (l, 0, Q ++ [(v, 0, as)]) B VV := mcG_up hM (upto_uI rfl : upto (fun q => q = 20) st (uI st 20 4 (nI pb))) (fun q _ _ => by omega)
            have O3 : MO (uI st 20 4 (nI pb)) o := hO
            obtain ⟨s4, q1, q2, q3⟩ := putArc_ok O3 M3 (by omega) (y := (c, s, u)) hc hsB (by show u ≤ VV; unfold VV; omega)
            have u4 : upto (onR o) st s4 := upto_trans u3 (upto_mono q3 (fun q hq => Or.inr hq))
            have F4 := Fx_up hF u4
            have W4 := isSg_up hw u4 (by unfold onR; omega) (by unfold onR; omega)
            have p4 : sI s4 20 4 = nI pb := by rw [(q3.2.2 20 (by omega)).1, I_uI, if_pos ⟨rfl, rfl⟩]
            have eArc : arcsB (l, 0, Q ++ [(v, 0, as ++ [(c, s, u)])]) (Q.length + 1) = arcsB (l, 0, Q ++ [(v, 0, as)]) (Q.length + 1) + 1 := by
              rw [arcsB_last, arcsB_last]
              simp
              omega
            obtain ⟨s5, v1, v2⟩ := ih (i + 1) (c + 1) pb (as ++ [(c, s, u)]) s4 (by omega) (by omega) F4 (MO_up hO u4) W4 q2 p4 z2 (by rw [eArc]; omega)
            have e2 : L_X3_readState_97 20 a o (nI B) (lN n) (befI bf) (nI i) st = L_X3_readState_97 20 a o (nI B) (lN n) (befI (c + 1)) (nI (i + 1)) s4 := by
              rw [to154, e_X3_readState_154, if_neg (fun q => hcb ((befI_le (by omega) hbf).mp q)), if_neg (by decide), lN_i]
              show ab_ri (f_X1_putArc o (nI (c, s, u).1) (nI (c, s, u).2.1) (lN (c, s, u).2.2) (uI st 20 4 (nI pb))) _ = _
              rw [q1, ri_ok, if_neg (by decide), nI_1]
              rfl
            have e3 : rdA 6 true B (k + 1) bf (w.drop p) = (rdA 6 true B k (c + 1) (w.drop pb)).map fun z => ((c, s, u) :: z.1, z.2) := by
              rw [drop_some hg, rdA_cons, if_neg (fun q => hcb q.2), hq1, Option.bind_some]
              dsimp only
              rw [← y1, hq2, Option.bind_some, if_pos hsB, z1]
            refine ⟨s5, upto_trans u4 v1, ?_⟩
            rw [e2, e3]
            rcases v2 with ⟨l2, r', p', t1, t2, t3, t4, t5, t6, t7⟩ | ⟨t1, t2⟩
            · refine Or.inl ⟨(c, s, u) :: l2, r', p', by rw [t1]; rfl, t2, ?_, t4, t5, t6, ?_⟩
              · rw [List.append_assoc] at t3; exact t3
              · rw [List.append_assoc] at t7; exact t7
            · exact Or.inr ⟨by rw [t1]; rfl, t2⟩
theorem rtail_ok (hF : Fx L st) (hO : MO st o) (hw : isSg st a 4000 w) (hao : 61 < a ∧ a < 66) (ho : 66 < o) {l B : Nat} {Q : QS} {v : Option Nat} (hB : B ≤ 2401) (hwl : w.length ≤ 4000) (hM : mcG st o (l, 0, Q) B VV) (hQ : Q.length < 2401) (hv : ∀ u, v = some u → u ≤ VV) {p : Nat} (hp : sI st 20 4 = nI p) (hpl : p ≤ w.length) (h3 : 3 * arcsB (l, 0, Q) Q.length ≤ p) : ∃ pn, f_X3_readNumber 20 a st = some (some (.long (rdv (rdn 6 (w.drop p)))), uI st 20 4 (nI pn)) ∧ ∃ st', upto (onR o) st st' ∧ ((∃ x r' p', rdS2 6 true B v (w.drop p) = some (x, r') ∧ L_X3_readState_56 20 a o (nI B) (lastI v) (rdv (rdn 6 (w.drop p))) 1 (uI st 20 4 (nI pn)) = some (some (.int 1), st') ∧ mcG st' o (l, 0, Q ++ [x]) B VV ∧ sI st' 20 4 = nI p' ∧ p' ≤ w.length ∧ w.drop p' = r' ∧ 3 * arcsB (l, 0, Q ++ [x]) (Q.length + 1) ≤ p') ∨ (rdS2 6 true B v (w.drop p) = none ∧ L_X3_readState_56 20 a o (nI B) (lastI v) (rdv (rdn 6 (w.drop p))) 1 (uI st 20 4 (nI pn)) = some (some (.int 0), st'))) := by
  obtain ⟨pn, g1, g2, g3, g4⟩ := rnum_ok hF hw (by omega) hwl hp (by omega)
  refine ⟨pn, g1, ?_⟩
  have u1 : upto (onR o) st (uI st 20 4 (nI pn)) := upto_uI (Or.inl rfl)
  have hd1 := rdn_b (k := 6) (r := w.drop p) (by omega)
  unfold rdS2
  cases hq : rdn 6 (w.drop p) with
  | none =>
    refine ⟨_, u1, Or.inr ⟨rfl, ?_⟩⟩
    rw [e_X3_readState_56, if_neg (by decide), if_pos (by decide), z_0]
  | some x =>
    obtain ⟨n, r⟩ := x
    have hn := hd1 _ hq
    dsimp only at hn
    obtain ⟨y1, y2, y3⟩ := g4 n r hq
    rw [Option.bind_some]
    dsimp only
    have c0 : ¬ lg_cmp (rdv (some (n, r))) 0 < 0 := fun q => by
      have := (rdv_neg (q := some (n, r)) (fun x hx => by cases hx; show n < _; omega)).mp q
      cases this
    have c256 : (0 < lg_cmp (rdv (some (n, r))) 256) ↔ 256 < n := by
      rw [← Int32.not_le]
      have := lc_le (a := n) (b := 256) (by omega) (by omega)
      exact (not_congr this).trans (by omega)
    by_cases h256 : 256 < n
    · refine ⟨_, u1, Or.inr ⟨by rw [if_pos ⟨rfl, h256⟩], ?_⟩⟩
      rw [e_X3_readState_56, if_neg (by decide), if_neg c0, if_pos (c256.mpr h256), z_0]
    · have M1 : mcG (uI st 20 4 (nI pn)) o (l, 0, Q) B VV := mcG_up hM (upto_uI rfl : upto (fun q => q = 20) st (uI st 20 4 (nI pn))) (fun q _ _ => by omega)
      have O1 : MO (uI st 20 4 (nI pn)) o := hO
      obtain ⟨s2, q1, q2, q3⟩ := putState_ok O1 (by decide) M1 hQ (v := v) (r := 0) hv (by omega)
      have u2 : upto (onR o) st s2 := upto_trans u1 (upto_mono q3 (fun q hq => Or.inr hq))
      have F2 := Fx_up hF u2
      have W2 := isSg_up hw u2 (by unfold onR; omega) (by unfold onR; omega)
      have p2 : sI s2 20 4 = nI pn := by rw [(q3.2.2 20 (by omega)).1, I_uI, if_pos ⟨rfl, rfl⟩]
      have eA : arcsB (l, 0, Q ++ [(v, 0, [])]) (Q.length + 1) = arcsB (l, 0, Q) Q.length := by rw [arcsB_last]; simp
      obtain ⟨s3, v1, v2⟩ := rarcs_ok hao ho hB (by omega : n ≤ 256) hwl n 0 0 pn [] s2 (by omega) (by omega) F2 (MO_up hO u2) W2 q2 p2 y2 (by rw [eA]; omega)
      refine ⟨s3, upto_trans u2 v1, ?_⟩
      have e1 : L_X3_readState_56 20 a o (nI B) (lastI v) (rdv (some (n, r))) 1 (uI st 20 4 (nI pn)) = L_X3_readState_97 20 a o (nI B) (lN n) (befI 0) (nI 0) s2 := by
        rw [e_X3_readState_56, if_neg (by decide), if_neg c0, if_neg (fun q => h256 (c256.mp q)), show (0 : Int32) = nI 0 from rfl, q1, ri_ok, if_neg (by decide)]
        rfl
      rw [e1, if_neg (fun q => h256 q.2), ← y1]
      rcases v2 with ⟨l2, r', p', t1, t2, t3, t4, t5, t6, t7⟩ | ⟨t1, t2⟩
      · exact Or.inl ⟨(v, 0, l2), r', p', by rw [t1]; rfl, t2, t3, t4, t5, t6, t7⟩
      · exact Or.inr ⟨by rw [t1]; rfl, t2⟩
theorem rstate_ok (hF : Fx L st) (hO : MO st o) (hw : isSg st a 4000 w) (hao : 61 < a ∧ a < 66) (ho : 66 < o) {l B : Nat} {Q : QS} (hB : B ≤ 2401) (hwl : w.length ≤ 4000) (hM : mcG st o (l, 0, Q) B VV) (hQ : Q.length < 2401) {p : Nat} (hp : sI st 20 4 = nI p) (hpl : p ≤ w.length) (h3 : 3 * arcsB (l, 0, Q) Q.length ≤ p) : ∃ st', upto (onR o) st st' ∧ ((∃ x r' p', rdS 6 true B (w.drop p) = some (x, r') ∧ f_X3_readState 20 a o (nI B) st = some (some (.int 1), st') ∧ mcG st' o (l, 0, Q ++ [x]) B VV ∧ sI st' 20 4 = nI p' ∧ p' ≤ w.length ∧ w.drop p' = r' ∧ 3 * arcsB (l, 0, Q ++ [x]) (Q.length + 1) ≤ p') ∨ (rdS 6 true B (w.drop p) = none ∧ f_X3_readState 20 a o (nI B) st = some (some (.int 0), st'))) := by
  have hw6 := hw.2.2.2.2.2.1
  have h20 : (sH st)[20]? = some (0, 3) := Fx_sh hF rfl
  let s1 := uI st 20 4 (nI (p + 1))
  have u1 : upto (fun q => q = 20) st s1 := upto_uI rfl
  have U1 : upto (onR o) st s1 := upto_uI (Or.inl rfl)
  have F1 := Fx_up hF u1
  have W1 := isSg_up hw u1 (by omega) (by omega)
  have M1 := mcG_up hM u1 (fun q _ _ => by omega)
  have O1 : MO s1 o := hO
  have p1 : sI s1 20 4 = nI (p + 1) := by show sI (uI st 20 4 (nI (p + 1))) 20 4 = _; rw [I_uI, if_pos ⟨rfl, rfl⟩]
  rw [e_X3_readState_0, rc_ok h20, rsign_ok hF hw hwl hp (by omega), ri_ok]
  change ∃ st', upto (onR o) st st' ∧ ((∃ x r' p', _ ∧ (if lg w p = 1 then ab_rl (f_X3_readNumber 20 a s1) _ else L_X3_readState_24 20 a o (nI B) (lg w p) (-1) s1) = _ ∧ _) ∨ (_ ∧ (if lg w p = 1 then ab_rl (f_X3_readNumber 20 a s1) _ else L_X3_readState_24 20 a o (nI B) (lg w p) (-1) s1) = _))
  -- a number is read, and the state refused
  have bad : ∀ (s : ab_S) (q : Nat) (m : Int32) (t : Int64), upto (onR o) st s → sI s 20 4 = nI q → q < 900000000 → (¬ m = 0) → (m = 1 → lg_cmp t 0 < 0) → ∃ st', upto (onR o) st st' ∧ L_X3_readState_24 20 a o (nI B) m t s = some (some (.int 0), st') := by
    intro s q m t hu hq hq2 m0 m1
    obtain ⟨pn, g1, -, -, -⟩ := rnum_ok (Fx_up hF hu) (isSg_up hw hu (by unfold onR; omega) (by unfold onR; omega)) (by omega) hwl hq (by omega)
    refine ⟨uI s 20 4 (nI pn), upto_trans hu (upto_uI (Or.inl rfl)), ?_⟩
    rw [e_X3_readState_24, g1, rl_ok, if_neg m0, e_X3_readState_55, e_X3_readState_56, if_pos rfl, z_0]
    by_cases hm : m = 1
    · rw [if_pos hm, if_pos (m1 hm)]
    · rw [if_neg hm]
  cases hg : w[p]? with
  | none =>
    obtain ⟨s2, b1, b2⟩ := bad s1 (p + 1) (-1) (-1) U1 p1 (by omega) (by decide) (by decide)
    refine ⟨s2, b1, Or.inr ⟨by rw [drop_none hg]; rfl, ?_⟩⟩
    rw [lg_none hg, if_neg (by decide), b2]
  | some c =>
    have hc := hw6 c (List.mem_of_getElem? hg)
    have hpl2 := (List.getElem?_eq_some_iff.mp hg).1
    rw [lg_some hg, drop_some hg]
    have eS : rdS 6 true B (c :: w.drop (p + 1)) = if c = 0 then rdS2 6 true B none (w.drop (p + 1)) else if c = 1 then (rdn 6 (w.drop (p + 1))).bind fun v => rdS2 6 true B (some v.1) v.2 else none := rfl
    rw [eS]
    by_cases c0 : c = 0
    · subst c0
      rw [if_pos rfl, if_neg (by decide)]
      obtain ⟨pn, g1, s2, u2, v2⟩ := rtail_ok F1 O1 W1 hao ho hB hwl M1 hQ (v := none) (fun u hu => by cases hu) p1 (by omega) (by omega)
      refine ⟨s2, upto_trans U1 u2, ?_⟩
      have e1 : L_X3_readState_24 20 a o (nI B) (nI 0) (-1) s1 = L_X3_readState_56 20 a o (nI B) (lastI none) (rdv (rdn 6 (w.drop (p + 1)))) 1 (uI s1 20 4 (nI pn)) := by
        rw [e_X3_readState_24, g1, rl_ok, if_pos (show nI 0 = 0 from rfl), e_X3_readState_51]
        rfl
      rw [e1]
      exact v2
    · rw [if_neg c0]
      by_cases c1 : c = 1
      · subst c1
        rw [if_pos rfl, if_pos (show nI 1 = 1 from rfl)]
        obtain ⟨pn, g1, g2, g3, g4⟩ := rnum_ok F1 W1 (by omega) hwl p1 (by omega)
        have hd1 := rdn_b (k := 6) (r := w.drop (p + 1)) (by omega)
        rw [g1, rl_ok]
        have U2 : upto (onR o) st (uI s1 20 4 (nI pn)) := upto_trans U1 (upto_uI (Or.inl rfl))
        have u2 : upto (fun q => q = 20) st (uI s1 20 4 (nI pn)) := upto_trans u1 (upto_uI rfl)
        have p2 : sI (uI s1 20 4 (nI pn)) 20 4 = nI pn := by rw [I_uI, if_pos ⟨rfl, rfl⟩]
        cases hq : rdn 6 (w.drop (p + 1)) with
        | none =>
          obtain ⟨s2, b1, b2⟩ := bad _ pn (nI 1) (-1) U2 p2 (by omega) (by decide) (by decide)
          exact ⟨s2, b1, Or.inr ⟨rfl, b2⟩⟩
        | some x =>
          obtain ⟨n, r⟩ := x
          have hn := (rdn_ok hq).1
          obtain ⟨y1, y2, y3⟩ := g4 n r hq
          obtain ⟨pm', j1, s2, u3, v2⟩ := rtail_ok (Fx_up hF u2) (show MO (uI s1 20 4 (nI pn)) o from hO) (isSg_up hw u2 (by omega) (by omega)) hao ho hB hwl (mcG_up hM u2 (fun q _ _ => by omega)) hQ (v := some n) (fun u hu => by cases hu; unfold VV; omega) p2 y2 (by omega)
          refine ⟨s2, upto_trans U2 u3, ?_⟩
          rw [Option.bind_some]
          dsimp only
          have e1 : L_X3_readState_24 20 a o (nI B) (nI 1) (rdv (some (n, r))) (uI s1 20 4 (nI pn)) = L_X3_readState_56 20 a o (nI B) (lastI (some n)) (rdv (rdn 6 (w.drop pn))) 1 (uI (uI s1 20 4 (nI pn)) 20 4 (nI pm')) := by
            rw [e_X3_readState_24, j1, rl_ok, if_neg (show ¬ nI 1 = 0 by decide), if_pos (show nI 1 = 1 from rfl), if_neg, e_X3_readState_51]
            · rfl
            · intro q
              have := (rdv_neg (q := some (n, r)) (fun x hx => by cases hx; show n < _; omega)).mp q
              cases this
          rw [e1, ← y1]
          exact v2
      · rw [if_neg c1, if_neg (by show ¬ nI c = nI 1; rw [c_eq (by omega) (by omega)]; exact c1)]
        obtain ⟨s2, b1, b2⟩ := bad s1 (p + 1) (nI c) (-1) U1 p1 (by omega) (by show ¬ nI c = nI 0; rw [c_eq (by omega) (by omega)]; exact c0) (fun _ => by decide)
        exact ⟨s2, b1, Or.inr ⟨rfl, b2⟩⟩
end CRD2
