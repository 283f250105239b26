/-! THE CLASS READS A MACHINE and lists its terms -/
section CRD3
variable {L : Nat} {st : ab_S} {a o : Nat} {w : List Nat}
theorem rdM_eq {K : Nat} {sd : Bool} (hw : ∀ s ∈ w, s < 256) : rdM K sd w = if lg w 0 = 84 ∧ lg w 1 = 77 then rdM2 K sd (w.drop 2) else none := by
  cases w with
  | nil => rw [if_neg (by decide)]; rfl
  | cons x w =>
    cases w with
    | nil =>
      have e1 : lg [x] 1 = -1 := rfl
      rw [e1, if_neg (fun q => absurd q.2 (by decide))]; rfl
    | cons y w =>
      have hx := hw x List.mem_cons_self
      have hy := hw y (List.mem_cons_of_mem _ List.mem_cons_self)
      show (if x = 84 ∧ y = 77 then rdM2 K sd w else none) = if nI x = nI 84 ∧ nI y = nI 77 then rdM2 K sd w else none
      simp only [c_eq (show x < 2147483648 by omega) (show 84 < 2147483648 by omega), c_eq (show y < 2147483648 by omega) (show 77 < 2147483648 by omega)]
theorem mcG_B {l b B V : Nat} (h : mcG st o (l, b, []) 0 V) : mcG st o (l, b, []) B V := by
  obtain ⟨m1, m2, m3, m4, m5, m6, m7, m8⟩ := h
  exact ⟨m1, m2, m3, m4, m5, m6, m7, fun s x hs => by simp at hs⟩
theorem rmach_ok (hF : Fx L st) (hO : MO st o) (hw : isSg st a 4000 w) (hao : 61 < a ∧ a < 66) (ho : 66 < o) (hwl : w.length ≤ 4000) : ∃ st', upto (onR o) st st' ∧ ((∃ M, rdM 6 true w = some M ∧ f_X3_readMachine 20 a o st = some (some (.int 1), st') ∧ mcG st' o M M.2.2.length VV) ∨ (rdM 6 true w = none ∧ f_X3_readMachine 20 a o st = some (some (.int 0), st'))) := by
  have hw6 := hw.2.2.2.2.2.1
  have h20 : (sH st)[20]? = some (0, 3) := Fx_sh hF rfl
  rw [rdM_eq hw6, e_X3_readMachine_0, rc_ok h20, pI_ok h20, Option.bind_some]
  have at20 : ∀ v : Int32, upto (fun q => q = 20) st (uI st 20 4 v) := fun v => upto_uI rfl
  have at20' : ∀ v : Int32, upto (onR o) st (uI st 20 4 v) := fun v => upto_uI (Or.inl rfl)
  have Fv : ∀ v : Int32, Fx L (uI st 20 4 v) := fun v => Fx_up hF (at20 v)
  have Wv : ∀ v : Int32, isSg (uI st 20 4 v) a 4000 w := fun v => isSg_up hw (at20 v) (by omega) (by omega)
  have pv : ∀ v : Int32, sI (uI st 20 4 v) 20 4 = v := fun v => by rw [I_uI, if_pos ⟨rfl, rfl⟩]
  have s0 := rsign_ok (Fv 0) (Wv 0) hwl (p := 0) (pv 0) (by omega)
  rw [uI_over] at s0
  have s1 := rsign_ok (Fv (nI 1)) (Wv (nI 1)) hwl (p := 1) (pv _) (by omega)
  rw [uI_over] at s1
  rw [s0, ri_ok]
  by_cases h84 : lg w 0 = 84
  rotate_left
  · rw [if_neg h84, if_neg (fun q => h84 q.1), z_0]
    exact ⟨_, at20' _, Or.inr ⟨rfl, rfl⟩⟩
  rw [if_pos h84, s1, ri_ok]
  by_cases h77 : lg w 1 = 77
  rotate_left
  · rw [if_neg h77, if_neg (fun q => h77 q.2), z_0]
    exact ⟨_, at20' _, Or.inr ⟨rfl, rfl⟩⟩
  rw [if_pos h77, if_pos ⟨h84, h77⟩]
  obtain ⟨pa, g1, g2, g3, g4⟩ := rnum_ok (Fv (nI 2)) (Wv (nI 2)) (by omega) hwl (p := 2) (pv _) (by omega)
  rw [uI_over] at g1
  obtain ⟨pb, j1, j2, j3, j4⟩ := rnum_ok (Fv (nI pa)) (Wv (nI pa)) (by omega) hwl (p := pa) (pv _) (by omega)
  rw [uI_over] at j1
  rw [g1, rl_ok, j1, rl_ok, z_0]
  have hd1 := rdn_b (k := 6) (r := w.drop 2) (by omega)
  have hd2 := rdn_b (k := 6) (r := w.drop pa) (by omega)
  unfold rdM2
  cases hq1 : rdn 6 (w.drop 2) with
  | none =>
    rw [if_pos (by decide)]
    exact ⟨_, at20' _, Or.inr ⟨rfl, rfl⟩⟩
  | some x =>
    obtain ⟨b, r1⟩ := x
    have hb := (rdn_ok hq1).1
    obtain ⟨y1, y2, y3⟩ := g4 b r1 hq1
    rw [if_neg (fun q => by
      have := (rdv_neg (q := some (b, r1)) (fun x hx => by cases hx; show b < _; omega)).mp q
      cases this), Option.bind_some]
    dsimp only
    rw [← y1]
    cases hq2 : rdn 6 (w.drop pa) with
    | none =>
      rw [if_pos (by decide)]
      exact ⟨_, at20' _, Or.inr ⟨rfl, rfl⟩⟩
    | some y =>
      obtain ⟨n, r2⟩ := y
      have hn := hd2 _ hq2
      dsimp only at hn
      obtain ⟨z1, z2, z3⟩ := j4 n r2 hq2
      rw [Option.bind_some]
      dsimp only
      have c1 : (lg_cmp (rdv (some (n, r2))) 1 < 0) ↔ n < 1 := by
        show (lg_cmp (lN n) (lN 1) < 0) ↔ _
        rw [lg_cmp_lt, pk_lLT (by omega) (by omega)]
      have c2 : (lg_cmp (rdv (some (n, r2))) 2401 ≤ 0) ↔ n ≤ 2401 := lc_le (a := n) (b := 2401) (by omega) (by omega)
      by_cases hn1 : n < 1
      · rw [if_pos (c1.mpr hn1), if_neg (fun q => by omega)]
        exact ⟨_, at20' _, Or.inr ⟨rfl, rfl⟩⟩
      by_cases hn2 : n ≤ 2401
      rotate_left
      · rw [if_neg (fun q => hn1 (c1.mp q)), if_neg (fun q => hn2 (c2.mp q)), if_neg (fun q => by omega)]
        exact ⟨_, at20' _, Or.inr ⟨rfl, rfl⟩⟩
      rw [if_neg (fun q => hn1 (c1.mp q)), if_pos (c2.mpr hn2), if_pos (show 1 ≤ n ∧ n ≤ 2401 by omega), ← z1]
      have Ob : MO (uI st 20 4 (nI pb)) o := hO
      obtain ⟨s2, m1, m2, m3⟩ := mclear_ok Ob (l := b) (b := 0) (V := VV) (by unfold VV; omega) (by omega)
      have key : ∀ k s p Q (st1 : ab_S), s + k = n → Q.length = s → upto (onR o) st st1 → mcG st1 o (b, 0, Q) n VV → sI st1 20 4 = nI p → p ≤ w.length → 3 * arcsB (b, 0, Q) Q.length ≤ p → ∃ st', upto (onR o) st st' ∧ ((∃ z, rdQ 6 true n k (w.drop p) = some (z, []) ∧ L_X3_readMachine_73 20 a o (lN n) (nI s) st1 = some (some (.int 1), st') ∧ mcG st' o (b, 0, Q ++ z) n VV ∧ z.length = k) ∨ ((∀ z, rdQ 6 true n k (w.drop p) ≠ some (z, [])) ∧ L_X3_readMachine_73 20 a o (lN n) (nI s) st1 = some (some (.int 0), st'))) := by
        intro k
        induction k with
        | zero =>
          intro s p Q st1 hs hQ hu hM hp hpl h3
          have h20' : (sH st1)[20]? = some (0, 3) := by rw [hu.1]; exact h20
          have W1 := isSg_up hw hu (by unfold onR; omega) (by unfold onR; omega)
          refine ⟨st1, hu, ?_⟩
          rw [e_X3_readMachine_73, nI_l (by omega), if_pos ((lc_ge (by omega) (by omega)).mpr (by omega)), gI_ok h20', Option.bind_some, gI_ok W1.1, Option.bind_some, hp, W1.2.2.2.1, z_0, z_1]
          by_cases hpe : p = w.length
          · rw [if_pos (by rw [hpe])]
            exact Or.inl ⟨[], by rw [hpe, List.drop_length]; rfl, rfl, by rw [List.append_nil]; exact hM, rfl⟩
          · rw [if_neg (by rw [c_eq (by omega) (by omega)]; exact hpe)]
            refine Or.inr ⟨fun z q => ?_, rfl⟩
            have q2 : (([] : QS), w.drop p) = (z, []) := Option.some.inj q
            have := congrArg (fun t => t.2.length) q2
            simp at this
            omega
        | succ k ih =>
          intro s p Q st1 hs hQ hu hM hp hpl h3
          have F1 := Fx_up hF hu
          have W1 := isSg_up hw hu (by unfold onR; omega) (by unfold onR; omega)
          obtain ⟨s3, v1, v2⟩ := rstate_ok F1 (MO_up hO hu) W1 hao ho hn2 hwl hM (by omega) hp hpl h3
          have e73 : L_X3_readMachine_73 20 a o (lN n) (nI s) st1 = ab_ri (f_X3_readState 20 a o (nI n) st1) fun x4 s3 => if x4 = 0 then some (some (.int 0), s3) else L_X3_readMachine_73 20 a o (lN n) (nI (s + 1)) s3 := by
            rw [e_X3_readMachine_73, nI_l (show s < 2 ^ 31 by omega), if_neg (fun q => by have := (lc_ge (by omega) (by omega)).mp q; omega), lN_i, nI_1]
            simp only [z_0]
          have eQ : rdQ 6 true n (k + 1) (w.drop p) = (rdS 6 true n (w.drop p)).bind fun x => (rdQ 6 true n k x.2).map fun z => (x.1 :: z.1, z.2) := rfl
          rw [e73, eQ]
          rcases v2 with ⟨x, r', p', t1, t2, t3, t4, t5, t6, t7⟩ | ⟨t1, t2⟩
          · obtain ⟨s4, q1, q2⟩ := ih (s + 1) p' (Q ++ [x]) s3 (by omega) (by rw [List.length_append, List.length_singleton]; omega) (upto_trans hu v1) t3 t4 t5 (by rw [List.length_append, List.length_singleton]; exact t7)
            refine ⟨s4, q1, ?_⟩
            rw [t1, t2, ri_ok, if_neg (by decide), Option.bind_some]
            dsimp only
            rw [← t6]
            rcases q2 with ⟨z, a1, a2, a3, a4⟩ | ⟨a1, a2⟩
            · exact Or.inl ⟨x :: z, by rw [a1]; rfl, a2, by rw [List.append_assoc] at a3; exact a3, by simp [a4]⟩
            · refine Or.inr ⟨fun z q => ?_, a2⟩
              cases hr : rdQ 6 true n k (w.drop p') with
              | none => rw [hr] at q; cases q
              | some y =>
                obtain ⟨y1, y2⟩ := y
                rw [hr] at q
                have e2 : y2 = [] := congrArg (fun t => t.2) (Option.some.inj q)
                exact a1 y1 (by rw [hr, e2])
          · refine ⟨s3, upto_trans hu v1, Or.inr ⟨fun z q => ?_, ?_⟩⟩
            · rw [t1] at q; cases q
            · rw [t2, ri_ok, if_pos rfl]
      have p2 : sI s2 20 4 = nI pb := by rw [(m3.2.2 20 (by omega)).1]; exact pv _
      obtain ⟨s4, q1, q2⟩ := key n 0 pb [] s2 (by omega) rfl (upto_trans (at20' _) (upto_mono m3 (fun q hq => Or.inr hq))) (mcG_B m2) p2 z2 (by unfold arcsB; simp)
      refine ⟨s4, q1, ?_⟩
      have m1' : f_X1_clear o (rdv (some (b, w.drop pa))) 0 (uI st 20 4 (nI pb)) = some (none, s2) := m1
      rw [m1', rv_ok]
      rcases q2 with ⟨z, a1, a2, a3, a4⟩ | ⟨a1, a2⟩
      · refine Or.inl ⟨(b, 0, z), ?_, a2, ?_⟩
        · rw [a1, Option.bind_some]; exact if_pos rfl
        · show mcG s4 o (b, 0, z) z.length VV
          rw [a4]; exact a3
      · refine Or.inr ⟨?_, a2⟩
        cases hr : rdQ 6 true n n (w.drop pb) with
        | none => rfl
        | some y =>
          rw [Option.bind_some]
          exact if_neg (fun q => a1 y.1 (by rw [hr, ← q]))
end CRD3
