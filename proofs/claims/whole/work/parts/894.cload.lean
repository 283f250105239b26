/-! LOAD: what it means; the class's -/
def mzr (M : MM) : MM := (M.1, 0, M.2.2.map zr)
def ldL (M : MM) : Dc := (vs M.2.2 12 0 [] M.1).filterMap (tmN M.2.2)
theorem vs_zr {Q : QS} : ∀ {k s : Nat} {p : List Nat} {v : Nat}, vs (Q.map zr) k s p v = vs Q k s p v
  | 0, _, _, _ => rfl
  | k + 1, s, p, v => by
    unfold vs
    rw [arcsQ_zr]
    congr 1
    congr 1
    funext y
    exact vs_zr
theorem tmN_zr {Q : QS} : tmN (Q.map zr) = tmN Q := by
  funext n
  unfold tmN
  rw [lastQ_zr]
theorem ldL_mz {D : Dc} (h : okD D) : ldL (mzr (mach D)) = D := by
  unfold ldL mzr
  dsimp only
  rw [vs_zr, tmN_zr]
  exact lt_mach h
theorem rdM_mach {K : Nat} {sd : Bool} (hK : 6 ≤ K) {D : Dc} (h : okD D) : rdM K sd (pack D) = some (mzr (mach D)) := rdM_pack hK (bM_ok h) mach_pos (okQ_mach h)
theorem GOOD_mach {D : Dc} (h : okD D) : GOOD (mzr (mach D)).2.2 (mzr (mach D)).1 := by
  have e1 : (mzr (mach D)).2.2 = (mach D).2.2.map zr := rfl
  have e2 : (mzr (mach D)).1 = least D [] := rfl
  rw [e1, e2]
  unfold GOOD
  rw [vs_zr, tmN_zr]
  refine ⟨fun n hn => ?_, by rw [lt_mach h]; exact h.2.1, Nat.le_trans (vs_len h) (begs_2401 h)⟩
  obtain ⟨c, hc, rfl⟩ := (vs_all h n).mp hn
  dsimp only
  rw [lastQ_zr, arcsQ_zr, lastQ_mach h hc, arcsQ_mach h hc]
  refine ⟨?_, fun k hk => ?_, fun hl => deep12 h hc hl⟩
  · by_cases hc0 : c = []
    · exact Or.inl hc0
    · exact Or.inr (nodead h hc hc0)
  · obtain ⟨y, hy, -, hy2⟩ := rest_mem.mp ((lastO_iff h.1).mp hk)
    have := (h.2.2 y hy).2.2
    omega
theorem pack_inj {D D' : Dc} (h : okD D) (h' : okD D') (e : pack D = pack D') : D = D' := by
  have h1 := rdM_mach (K := 6) (sd := true) (Nat.le_refl _) h
  have h2 := rdM_mach (K := 6) (sd := true) (Nat.le_refl _) h'
  rw [e, h2] at h1
  have := congrArg ldL (Option.some.inj h1)
  rw [ldL_mz h, ldL_mz h'] at this
  exact this.symm
def isPk (w : List Nat) (D : Dc) : Prop := okD D ∧ w = pack D
noncomputable def a_load (S : Sg) (d : Int32) : Int32 × Sg := by
  classical
  exact withD d (-2, S) fun k => if h : ∃ D, isPk (sW S) D then (nI (Classical.choose h).length, setAge (setDic (setW S []) k (Classical.choose h) false) k) else (-7, setW S [])
theorem a_load_n {S : Sg} {k : Nat} (hk : k < 4) {D : Dc} (h : isPk (sW S) D) : a_load S (nI k) = (nI D.length, setAge (setDic (setW S []) k D false) k) := by
  have hex : ∃ D, isPk (sW S) D := ⟨D, h⟩
  unfold a_load
  rw [withD_n hk, dif_pos hex]
  have hc := Classical.choose_spec hex
  rw [pack_inj hc.1 h.1 (hc.2.symm.trans h.2)]
theorem a_load_none {S : Sg} {k : Nat} (hk : k < 4) (h : ¬ ∃ D, isPk (sW S) D) : a_load S (nI k) = (-7, setW S []) := by
  unfold a_load
  rw [withD_n hk, dif_neg h]
theorem a_load_no {S : Sg} {d : Int32} (hd : ¬ isD d) : a_load S d = (-2, S) := by
  unfold a_load
  rw [withD_no hd]
theorem W_load {S : Sg} (h : wfS S) (d : Int32) : wfS (a_load S d).2 := by
  rcases isD_cases d with hd | ⟨k, hd, rfl⟩
  · rw [a_load_no hd]; exact h
  · by_cases hex : ∃ D, isPk (sW S) D
    · obtain ⟨D, hD⟩ := hex
      rw [a_load_n hd hD]
      exact wf_age (wf_dic (wf_W0 h) hD.1.1)
    · rw [a_load_none hd hex]; exact wf_W0 h
-- what is read is sound
theorem rdS2_ok {K B : Nat} {v : Option Nat} {r r' : List Nat} {x : QX} (h : rdS2 K true B v r = some (x, r')) : rsg x.2.2 := by
  unfold rdS2 at h
  cases h1 : rdn K r with
  | none => rw [h1] at h; cases h
  | some m =>
    rw [h1, Option.bind_some] at h
    by_cases hm : True ∧ 256 < m.1
    · rw [if_pos ⟨rfl, hm.2⟩] at h; cases h
    · rw [if_neg (fun q => hm ⟨trivial, q.2⟩)] at h
      cases h2 : rdA K true B m.1 0 m.2 with
      | none => rw [h2] at h; cases h
      | some z =>
        obtain ⟨l, r2⟩ := z
        rw [h2] at h
        cases h
        exact ((rdA_ok h2).2.2.1 rfl).1
theorem rdS_ok {K B : Nat} {r r' : List Nat} {x : QX} (h : rdS K true B r = some (x, r')) : rsg x.2.2 := by
  cases r with
  | nil => cases h
  | cons c r =>
    have e : rdS K true B (c :: r) = if c = 0 then rdS2 K true B none r else if c = 1 then (rdn K r).bind fun v => rdS2 K true B (some v.1) v.2 else none := rfl
    rw [e] at h
    by_cases c0 : c = 0
    · rw [if_pos c0] at h; exact rdS2_ok h
    · rw [if_neg c0] at h
      by_cases c1 : c = 1
      · rw [if_pos c1] at h
        cases h1 : rdn K r with
        | none => rw [h1] at h; cases h
        | some v => rw [h1, Option.bind_some] at h; exact rdS2_ok h
      · rw [if_neg c1] at h; cases h
theorem rdQ_ok {K B : Nat} : ∀ {n : Nat} {r r' : List Nat} {Q : QS}, rdQ K true B n r = some (Q, r') → Q.length = n ∧ ∀ x ∈ Q, rsg x.2.2
  | 0, r, r', Q, h => by cases h; exact ⟨rfl, fun x hx => by simp at hx⟩
  | n + 1, r, r', Q, h => by
    unfold rdQ at h
    cases h1 : rdS K true B r with
    | none => rw [h1] at h; cases h
    | some x =>
      obtain ⟨x, r1⟩ := x
      rw [h1, Option.bind_some] at h
      dsimp only at h
      cases h2 : rdQ K true B n r1 with
      | none => rw [h2] at h; cases h
      | some z =>
        obtain ⟨z, r2⟩ := z
        rw [h2] at h
        cases h
        obtain ⟨g1, g2⟩ := rdQ_ok h2
        refine ⟨by simp [g1], fun y hy => ?_⟩
        rcases List.mem_cons.mp hy with q | q
        · rw [q]; exact rdS_ok h1
        · exact g2 y q
theorem rdM_ok {K : Nat} {w : List Nat} {M : MM} (h : rdM K true w = some M) : 1 ≤ M.2.2.length ∧ ∀ s, rsg (arcsQ M.2.2 s) := by
  have key : ∀ r, rdM2 K true r = some M → 1 ≤ M.2.2.length ∧ ∀ s, rsg (arcsQ M.2.2 s) := by
    intro r h
    unfold rdM2 at h
    cases h1 : rdn K r with
    | none => rw [h1] at h; cases h
    | some b =>
      rw [h1, Option.bind_some] at h
      cases h2 : rdn K b.2 with
      | none => rw [h2] at h; cases h
      | some n =>
        rw [h2, Option.bind_some] at h
        by_cases hn : 1 ≤ n.1 ∧ n.1 ≤ 2401
        · rw [if_pos hn] at h
          cases h3 : rdQ K true n.1 n.1 n.2 with
          | none => rw [h3] at h; cases h
          | some z =>
            obtain ⟨Q, r3⟩ := z
            rw [h3, Option.bind_some] at h
            by_cases hr : r3 = []
            · rw [if_pos hr] at h
              cases h
              obtain ⟨g1, g2⟩ := rdQ_ok h3
              refine ⟨by show 1 ≤ Q.length; omega, fun s => ?_⟩
              show rsg (arcsQ Q s)
              unfold arcsQ
              cases hs : Q[s]? with
              | none => exact List.Pairwise.nil
              | some x => exact g2 x (List.mem_of_getElem? hs)
            · rw [if_neg hr] at h; cases h
        · rw [if_neg hn] at h; cases h
  cases w with
  | nil => cases h
  | cons a w =>
    cases w with
    | nil => cases h
    | cons b r =>
      have e : rdM K true (a :: b :: r) = if a = 84 ∧ b = 77 then rdM2 K true r else none := rfl
      rw [e] at h
      by_cases hab : a = 84 ∧ b = 77
      · rw [if_pos hab] at h; exact key r h
      · rw [if_neg hab] at h; cases h
section CLOAD
variable {L : Nat} {st : ab_S} {S : Sg}
theorem sameAs_ok {a b : Nat} {w1 w2 : List Nat} (h1 : isSg st a 4000 w1) (h2 : isSg st b 4000 w2) (hl : w2.length ≤ 4000) : f_X6_sameAs a b st = some (some (.int (if w1 = w2 then 1 else 0)), st) := by
  have g1 := h1.2.2.2.2.2.2.2
  rw [e_X6_sameAs_0, rc_ok h1.1, gI_ok h1.1, Option.bind_some, gI_ok h2.1, Option.bind_some, h1.2.2.2.1, h2.2.2.2.1, z_0]
  by_cases hlen : w1.length = w2.length
  rotate_left
  · rw [if_neg (by rw [c_eq (by omega) (by omega)]; exact hlen), if_neg (fun q => hlen (by rw [q]))]
  rw [if_pos (by rw [hlen]), Option.bind_some, gR_ok h1.1, Option.bind_some, h1.2.2.1, n_ok h1.2.1 (by decide) (by decide), Option.bind_some]
  show (if nI w1.length ≤ nI 4000 then _ else _) = _
  rw [if_pos (by rw [c_le (by omega) (by omega)]; omega)]
  have key : ∀ k i, w1.length - i = k → i ≤ w1.length → w1.take i = w2.take i → L_X6_sameAs_27 a b (nI i) st = some (some (.int (if w1 = w2 then 1 else 0)), st) := by
    intro k
    induction k with
    | zero =>
      intro i hk hi ht
      rw [List.take_of_length_le (by omega), List.take_of_length_le (by omega)] at ht
      rw [e_X6_sameAs_27, gI_ok h1.1, Option.bind_some, h1.2.2.2.1, if_pos (by rw [c_le (by omega) (by omega)]; omega), z_1, if_pos ht]
    | succ k ih =>
      intro i hk hi ht
      have hg1 : w1[i]? = some w1[i] := List.getElem?_eq_getElem (by omega)
      have hg2 : w2[i]? = some w2[i] := List.getElem?_eq_getElem (by omega)
      have s1 := h1.2.2.2.2.2.1 _ (List.mem_of_getElem? hg1)
      have s2 := h2.2.2.2.2.2.1 _ (List.mem_of_getElem? hg2)
      rw [e_X6_sameAs_27, gI_ok h1.1, Option.bind_some, h1.2.2.2.1, if_neg (by rw [c_le (by omega) (by omega)]; omega), atn_ok h1 (by omega), ri_ok, atn_ok h2 (by omega), ri_ok, lg_some hg1, lg_some hg2, z_0, nI_1]
      by_cases he : w1[i] = w2[i]
      · rw [if_pos (by rw [he])]
        exact ih (i + 1) (by omega) (by omega) (by rw [List.take_succ, List.take_succ, ht, hg1, hg2, he])
      · rw [if_neg (by rw [c_eq (by omega) (by omega)]; exact he), if_neg]
        intro q
        subst q
        exact he rfl
  exact key _ 0 rfl (Nat.zero_le _) rfl
theorem CS_59 (h : CS L st S) {st' : ab_S} {w : List Nat} (hu : upto (fun q => q = 59 ∨ q = 60) st st') (h9 : isSg st' 59 4000 w) : CS L st' S := by
  obtain ⟨hF, h2, h3, h4, h5, h6, h7, h8, w', -⟩ := h
  exact ⟨Fx_up hF hu, ccol_up h2 hu (fun q _ _ => by omega), cdic_up h3 hu (fun q _ _ => by omega), fun e he => by rw [(hu.2.2 4 (by omega)).1]; exact h4 e he, cwk_up h5 hu (fun q _ _ => by omega), ⟨by rw [(hu.2.2 2 (by omega)).1]; exact h6.1, fun j t hj => by rw [(hu.2.2 61 (by omega)).1]; exact h6.2 j t hj⟩, by rw [(hu.2.2 2 (by omega)).1]; exact h7, isSg_up h8 hu (by omega) (by omega), w, h9⟩
theorem C_load (h : CS L st S) (hwf : wfS S) (d : Int32) : ∃ st', f_X10_load 2 d st = some (some (.int (a_load S d).1), st') ∧ CS L st' (a_load S d).2 ∧ onC st st' := by
  rcases isD_cases d with hd | ⟨k, hd, rfl⟩
  · rw [a_load_no hd]
    exact ⟨st, by rw [e_X10_load_0, rc_ok (sh2 h), cD_no hd, ri_ok, if_pos rfl], h, onC_rfl⟩
  have hwl := hwf.2.2.2.2.1
  obtain ⟨c, st1, h1, h2, h3, h4, hc, -⟩ := take_ok h
  have hso := sp_at h2
  generalize hspo : sR st1 2 14 = o at hso
  have hol := dO_lt hso
  obtain ⟨z1, z2, z3⟩ := dO_sh h2.1 hso
  have h20 : (sH st1)[20]? = some (0, 3) := Fx_sh h2.1 rfl
  have O1 := MO_of h2.1 hso
  obtain ⟨s2, u2, v2⟩ := rmach_ok h2.1 O1 h3 (by omega) (by omega) hwl
  have hW2 : ∀ q, onR (o + 5) q → (scr q ∧ q ≠ 2) ∨ (o ≤ q ∧ q ≤ o + 11) := fun q hq => by unfold onR at hq; unfold scr; omega
  have C2 : CS L s2 (setW S []) := CS_sp h2 hspo u2 hW2
  have head : f_X10_load 2 (nI k) st = ab_ri (f_X3_read 20 c o st1) fun x8 s7 => if x8 = 0 then some (some (.int (-7 : Int32)), s7) else Option.bind (ab_gR s7 2 10 3) fun x9 => Option.bind (ab_gR s7 2 10 14) fun x10 => ab_rv (f_X8_build x9 x10 s7) fun s11 => Option.bind (ab_gR s11 2 10 4) fun x12 => Option.bind (ab_gR s11 2 10 14) fun x13 => Option.bind (ab_gR s11 x13 0 1) fun x14 => Option.bind (ab_gR s11 2 10 8) fun x15 => ab_rv (f_X3_write x12 x14 x15 s11) fun s16 => Option.bind (ab_gR s16 2 10 8) fun x17 => ab_ri (f_X6_sameAs x17 c s16) fun x19 s18 => if x19 = 0 then some (some (.int (-7 : Int32)), s18) else ab_rv (f_X10_putSpareAt 2 (nI k) s18) fun s20 => Option.bind (ab_gR s20 2 10 0) fun x21 => Option.bind (ab_rR s20 x21 (nI k)) fun x22 => Option.bind (ab_gR s20 x22 0 0) fun x23 => Option.bind (ab_gI s20 x23 7 3) fun x24 => some (some (.int x24), s20) := by
    rw [e_X10_load_0, rc_ok (sh2 h), cD_ok hd, ri_ok, if_neg (by decide), h1, rr_ok, gR_ok (sh2 h2), Option.bind_some, Fx_rf h2.1 (v := 20) (by decide), gR_ok (sh2 h2), Option.bind_some, hspo]
  have hread : f_X3_read 20 c o st1 = ab_ri (f_X3_readMachine 20 c (o + 5) st1) fun x3 s2 => if x3 = 0 then some (some (.int (0 : Int32)), s2) else Option.bind (ab_gR s2 o 0 1) fun x4 => Option.bind (ab_gR s2 o 0 0) fun x5 => ab_ri (f_X3_listTerms 20 x4 x5 s2) fun x7 s6 => if x7 = 0 then some (some (.int (0 : Int32)), s6) else some (some (.int (1 : Int32)), s6) := by
    rw [e_X3_read_0, rc_ok h20, gR_ok z1, Option.bind_some, z3]
    simp only [z_0, z_1]
  rcases v2 with ⟨M, m1, m2, m3⟩ | ⟨m1, m2⟩
  rotate_left
  · have hno : ¬ ∃ D, isPk (sW S) D := by
      rintro ⟨D, hD, hw⟩
      rw [hw, rdM_mach (Nat.le_refl _) hD] at m1
      cases m1
    rw [a_load_none hd hno]
    refine ⟨s2, ?_, C2, onC_trans h4 (onC_up u2 (fun q hq => by have := hW2 q hq; unfold onR at hq; omega))⟩
    rw [head, hread, m2, ri_ok, if_pos rfl, ri_ok, if_pos rfl]
  obtain ⟨n1, n2⟩ := rdM_ok m1
  have F2 := C2.1
  have hsp2 : sR s2 2 14 = o := by rw [u2.2.1]; exact hspo
  have T2 := sp_clear F2 hso
  have q1 : (sH s2)[o + 1]? = some (0, 7) := T2.1
  have hcl : f_X7_clear (o + 1) s2 = some (none, uI s2 (o + 1) 3 0) := by rw [e_X7_clear_0, rc_ok q1, pI_ok q1, Option.bind_some]
  obtain ⟨s3, u3, v3⟩ := list_ok F2 (MO_of F2 hso) m3 n1 (by omega : 65 < o + 1 ∧ o + 1 + 3 < o + 5) hcl T2
  have hW3 : ∀ q, onL (o + 1) q → (scr q ∧ q ≠ 2) ∨ (o ≤ q ∧ q ≤ o + 11) := fun q hq => by unfold onL at hq; unfold scr; omega
  have C3 : CS L s3 (setW S []) := CS_sp C2 hsp2 u3 hW3
  have oc3 : onC st s3 := onC_trans h4 (onC_trans (onC_up u2 (fun q hq => by unfold onR at hq; omega)) (onC_up u3 (fun q hq => by unfold onL at hq; omega)))
  obtain ⟨y1, y2, y3⟩ := dO_sh F2 hso
  have hrd : ∀ b, f_X3_listTerms 20 (o + 5) (o + 1) s2 = some (some (.int b), s3) → (b = 0 ∨ b = 1) → f_X3_read 20 c o st1 = some (some (.int b), s3) := by
    intro b hb hb01
    rw [hread, m2, ri_ok, if_neg (by decide), gR_ok y1, Option.bind_some, gR_ok y1, Option.bind_some, y2, y3, hb, ri_ok]
    rcases hb01 with q | q
    · rw [if_pos q, q]
    · rw [if_neg (by rw [q]; decide), q]
  have hMw : ∀ D, isPk (sW S) D → M = mzr (mach D) := by
    rintro D ⟨hD, hw⟩
    rw [hw, rdM_mach (Nat.le_refl _) hD] at m1
    exact (Option.some.inj m1).symm
  rcases v3 with ⟨l1, l2⟩ | ⟨l1, l2⟩
  rotate_left
  · have hno : ¬ ∃ D, isPk (sW S) D := by
      rintro ⟨D, hD⟩
      exact l2 (by rw [hMw D hD]; exact GOOD_mach hD.1)
    rw [a_load_none hd hno]
    refine ⟨s3, ?_, C3, oc3⟩
    rw [head, hrd 0 l1 (Or.inl rfl), ri_ok, if_pos rfl]
  change isTm s3 (o + 1) (ldL M) at l2
  have hsrt : srt (ldL M) := lt_srt n2
  have hokD : okD (ldL M) := ⟨hsrt, l2.2.2.2.2.2.2.2.2.1, fun x hx => ⟨tm_len l2 x hx, tm_256 l2 x hx, tm_out l2 x hx⟩⟩
  have hsp3 : sR s3 2 14 = o := by rw [u3.2.1]; exact hsp2
  obtain ⟨s4, b1, b2, b3⟩ := build_ok C3.1 hso l2 hsrt
  have C4 : CS L s4 (setW S []) := CS_sp C3 hsp3 b2 (fun q hq => by unfold scr; omega)
  have hsp4 : sR s4 2 14 = o := by rw [b2.2.1]; exact hsp3
  obtain ⟨w9, hw9⟩ := C4.2.2.2.2.2.2.2.2
  obtain ⟨s5, e1, e2, e3⟩ := write_cls C4.1 (MO_of C4.1 hso) b3 (by omega) hw9
  change isSg s5 59 4000 (pack (ldL M)) at e2
  have C5 : CS L s5 (setW S []) := CS_59 C4 e3 e2
  have hsp5 : sR s5 2 14 = o := by rw [e3.2.1]; exact hsp4
  have W5 : isSg s5 c 4000 (sW S) := by
    have w2 := isSg_up h3 u2 (by unfold onR; omega) (by unfold onR; omega)
    have w3 := isSg_up w2 u3 (by unfold onL; omega) (by unfold onL; omega)
    have w4 := isSg_up w3 b2 (by omega) (by omega)
    exact isSg_up w4 e3 (by omega) (by omega)
  have oc5 : onC st s5 := onC_trans oc3 (onC_trans (onC_up b2 (fun q hq => by omega)) (onC_up e3 (fun q hq => by omega)))
  obtain ⟨x1, x2, x3⟩ := dO_sh C4.1 hso
  rw [head, hrd 1 l1 (Or.inr rfl), ri_ok, if_neg (by decide), gR_ok (sh2 C3), Option.bind_some, Fx_rf C3.1 (v := 6) (by decide), gR_ok (sh2 C3), Option.bind_some, hsp3, b1, rv_ok, gR_ok (sh2 C4), Option.bind_some, Fx_rf C4.1 (v := 20) (by decide), gR_ok (sh2 C4), Option.bind_some, hsp4, gR_ok x1, Option.bind_some, x3, gR_ok (sh2 C4), Option.bind_some, Fx_rf C4.1 (v := 59) (by decide), e1, rv_ok, gR_ok (sh2 C5), Option.bind_some, Fx_rf C5.1 (v := 59) (by decide), sameAs_ok e2 W5 hwl, ri_ok]
  by_cases hsame : pack (ldL M) = sW S
  · rw [if_pos hsame, if_neg (by decide), a_load_n hd ⟨hokD, hsame.symm⟩]
    obtain ⟨s6, f1, f2, f3⟩ := spare_ok C5 hd hsp5 (isTm_up (isTm_up l2 b2 (by omega) (by omega) (by omega) (by omega)) e3 (by omega) (by omega) (by omega) (by omega)) (isMc_G.mpr (mcG_up (isMc_G.mp b3) e3 (fun q _ _ => by omega)))
    obtain ⟨o', ho', g1, g2, g3, g4, g5⟩ := dic_at f2 hd
    have eD : sD (setAge (setDic (setW S []) k (ldL M) false) k) k = ldL M := up1_s
    rw [eD] at g5
    refine ⟨s6, ?_, f2, onC_trans oc5 f3⟩
    rw [f1, rv_ok, gR_ok (sh2 f2), Option.bind_some, rf2_0 f2, g1, Option.bind_some, gR_ok g2, Option.bind_some, g3, gI_ok g5.1.1, Option.bind_some, g5.1.2.2.2.2.2.2.2.1]
  · have hno : ¬ ∃ D, isPk (sW S) D := by
      rintro ⟨D, hD⟩
      have e := hMw D hD
      apply hsame
      rw [e, ldL_mz hD.1]
      exact hD.2.symm
    rw [if_neg hsame, if_pos rfl, a_load_none hd hno]
    exact ⟨s5, rfl, C5, oc5⟩
end CLOAD
