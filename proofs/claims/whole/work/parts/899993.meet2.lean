/-! MEET: class and model -/
def setF (S : Sg) (v : Int32) : Sg := (sW S, sD S, sO S, sA S, sK S, sM S, v, sP S)
noncomputable def kP (m : Nat) (w : List Nat) : List Nat → Bool := if 2 ≤ m then fun x => decide (dis w x w.length x.length ≤ m - 2) else lgB (wild w)
noncomputable def a_mk (S : Sg) (k m : Nat) : Int32 × Sg := if sO S k = false then (if (sW S).length ≤ (if 2 ≤ m then 12 else 24) then (if m = 1 then (match patL (sW S) with
    | .inl e => (-7, setF (setW S []) (nI e))
    | .inr l => (nI (mt (lgB l) (sD S k) (sD S k).length).length, setM (setF (setW S []) (-1)) (mt (lgB l) (sD S k) (sD S k).length)))
    else (nI (mt (kP m (sW S)) (sD S k) (sD S k).length).length, setM (setW S []) (mt (kP m (sW S)) (sD S k) (sD S k).length))) else (-6, setW S [])) else (-4, setW S [])
noncomputable def a_meet (S : Sg) (d kd : Int32) : Int32 × Sg := withD d (-2, S) fun k => if 0 ≤ kd.toInt ∧ kd.toInt ≤ 4 then a_mk S k kd.toNatClampNeg else (-2, S)
section MEET2
variable {L : Nat} {st : ab_S} {S : Sg}
theorem n04 (n : Int32) : ¬ (0 ≤ n.toInt ∧ n.toInt ≤ 4) ∨ ∃ m, m ≤ 4 ∧ n = nI m := by
  by_cases h : 0 ≤ n.toInt ∧ n.toInt ≤ 4
  · right
    rcases n_cases n with hn | ⟨m, hm, rfl⟩
    · have := Int32.lt_iff_toInt_lt.mp hn
      have h0 : (0 : Int32).toInt = 0 := rfl
      omega
    · rw [nI_toInt hm] at h
      exact ⟨m, by omega, rfl⟩
  · exact Or.inl h
theorem n04y {m : Nat} (h : m ≤ 4) : (0 ≤ (nI m).toInt ∧ (nI m).toInt ≤ 4) ∧ (nI m).toNatClampNeg = m := by
  have e : (nI m).toInt = m := nI_toInt (by omega)
  refine ⟨by omega, ?_⟩
  show (nI m).toInt.toNat = m
  rw [e]; rfl
theorem PI_out {st' : ab_S} {W : Nat → Prop} {own : Nat → Nat} {n d : Nat} {CL SL : Nat → Lg} {V : Option Lg} (h : PI st own n d CL SL V) (hu : upto W st st') (hW : ∀ q, 25 ≤ q → q ≤ 41 → ¬ W q) : PI st' own n d CL SL V := by
  obtain ⟨c1, c2, c3, c4, c5, c6, c7, c8, c9, c10, c11⟩ := h
  have e : ∀ q, 25 ≤ q → q ≤ 41 → sI st' q = sI st q := fun q a b => (hu.2.2 q (hW q a b)).1
  have hF : Fs st' = Fs st := by funext i j; unfold Fs; rw [e 27 (by omega) (by omega)]
  have hT : Ts st' = Ts st := by funext i j; unfold Ts; rw [e 26 (by omega) (by omega)]
  have hp : ∀ o P l, 25 ≤ o → o ≤ 41 → isPrt st o P l → isPrt st' o P l := by
    intro o P l h1 h2 h3
    unfold isPrt at h3 ⊢
    rw [e o h1 h2, hF, hT]
    exact h3
  refine ⟨FX_up c1 hu, c2, c3, by rw [e 25 (by omega) (by omega)]; exact c4, by rw [e 25 (by omega) (by omega)]; exact c5, by rw [e 25 (by omega) (by omega)]; exact c6, by rw [hF]; exact c7, by rw [hT]; exact c8, fun j hj => ⟨hp _ _ _ (by omega) (by omega) (c9 j hj).1, hp _ _ _ (by omega) (by omega) (c9 j hj).2⟩, fun l hl => hp _ _ _ (by omega) (by omega) (c10 l hl), c11⟩
theorem CS_F (h : CS L st S) {v : Int32} : CS L (uI st 2 11 v) (setF S v) := by
  have hu : upto (fun q => q = 2) st (uI st 2 11 v) := upto_uI rfl
  obtain ⟨hF, h2, h3, h4, h5, h6, h7, h8, w, h9⟩ := h
  refine ⟨Fx_up hF hu, ccol_up h2 hu (fun q _ _ => by omega), cdic_up h3 hu (fun q _ _ => by omega), fun d hd => by rw [(hu.2.2 4 (by omega)).1]; exact h4 d hd, cwk_up h5 hu (fun q _ _ => by omega), ⟨by rw [I_uI, if_neg (by omega)]; exact h6.1, fun k t hk => by rw [(hu.2.2 61 (by omega)).1]; exact h6.2 k t hk⟩, by rw [I_uI, if_pos ⟨rfl, rfl⟩]; rfl, isSg_up h8 hu (by omega) (by omega), w, isSg_up h9 hu (by omega) (by omega)⟩
theorem MS_F (h : MS L st S) {v : Int32} : MS L (uI st 130 10 v) (setF S v) := by
  have hu : upto (fun q => q = 130) st (uI st 130 10 v) := upto_uI rfl
  obtain ⟨hF, g2, g3, g4, g5, g6, g7, g8⟩ := h
  have e : ∀ q, 131 ≤ q → q ≤ 143 → sI (uI st 130 10 v) q = sI st q := fun q a b => (hu.2.2 q (by omega)).1
  refine ⟨Fx_up hF hu, ⟨by rw [I_uI, if_neg (by omega)]; exact g2.1, mRow_up g2.2 hu (by omega)⟩, fun d hd => ⟨isMd_up (g3 d hd).1 hu (by omega) (by omega) (by omega) (by omega), by rw [e 136 (by omega) (by omega)]; exact (g3 d hd).2⟩, fun d hd => by rw [e 137 (by omega) (by omega)]; exact g4 d hd, fun k hk => by rw [e 140 (by omega) (by omega), e 141 (by omega) (by omega), e 142 (by omega) (by omega), e 143 (by omega) (by omega)]; exact g5 k hk, ⟨by rw [I_uI, if_neg (by omega)]; exact g6.1, fun k t hk => by rw [e 138 (by omega) (by omega)]; exact g6.2 k t hk⟩, by rw [I_uI, if_pos ⟨rfl, rfl⟩]; rfl, ⟨by rw [I_uI, if_neg (by omega)]; exact g8.1, fun k s hk => by rw [e 139 (by omega) (by omega)]; exact g8.2 k s hk⟩⟩
theorem CS_42 {st' : ab_S} (h : CS L st S) (hH : sH st' = sH st) (hF : Fx L st') (e : ∀ o, o ≠ 42 → eqA st st' o) : CS L st' S := by
  obtain ⟨-, h2, h3, h4, h5, h6, h7, h8, h9⟩ := h
  refine ⟨hF, ?_, ?_, ?_, ?_, ?_, ?_, ?_, ?_⟩
  · obtain ⟨c, u, hcu, g1, g2, g3, w', g4⟩ := h2
    exact ⟨c, u, hcu, by rw [(e 2 (by decide)).2.2]; exact g1, by rw [(e 2 (by decide)).2.2]; exact g2, isSg_eq g3 hH (e _ (by omega)) (e _ (by omega)), w', isSg_eq g4 hH (e _ (by omega)) (e _ (by omega))⟩
  · obtain ⟨p, p1, p2, p3, p4, p5⟩ := h3
    refine ⟨p, p1, p2, fun d hd => by rw [(e 3 (by decide)).2.2]; exact p3 d hd, by rw [(e 2 (by decide)).2.2]; exact p4, fun d hd => ?_⟩
    have := dO_lt (p1 d (by omega))
    exact dicC_eq (p5 d hd) hH (fun q _ hq => e q (by omega))
  · intro d hd; rw [(e 4 (by decide)).1]; exact h4 d hd
  · intro k hk; rw [(e (126 + k) (by omega)).1]; exact h5 k hk
  · rw [(e 2 (by decide)).1, (e 61 (by decide)).1]; exact h6
  · rw [(e 2 (by decide)).1]; exact h7
  · exact isSg_eq h8 hH (e _ (by decide)) (e _ (by decide))
  · obtain ⟨w, hw⟩ := h9
    exact ⟨w, isSg_eq hw hH (e _ (by decide)) (e _ (by decide))⟩
theorem meet116 (h : CS L st S) {k : Nat} (hd : k < 4) {m : Nat} (hm : m ≤ 4) : ∃ o, o ∈ dO ∧ isTm st (o + 1) (sD S k) ∧ L_X10_meet_116 2 (nI k) (nI m) st = ab_ri (f_X10_keepAccepted 2 (o + 1) (if m < 2 then 0 else 1) st) fun x2 s1 => some (some (.int x2), s1) := by
  obtain ⟨o, ho, q1, q2, q3, q4, q5⟩ := dic_at h hd
  refine ⟨o, ho, q5.1, ?_⟩
  rw [e_X10_meet_116, gR_ok (sh2 h), Option.bind_some, rf2_0 h, q1, Option.bind_some, gR_ok q2, Option.bind_some, q3, nl 2]
  by_cases q : m < 2
  · rw [if_pos (c := nI m < nI 2) (by rw [c_lt (by omega) (by omega)]; exact q), if_pos q, e_X10_meet_136]
  · rw [if_neg (c := nI m < nI 2) (by rw [c_lt (by omega) (by omega)]; exact q), if_neg q, e_X10_meet_136]
theorem keepW {l : Lg} {own : Nat → Nat} {n k m : Nat} (h : CS L st S) (hd : k < 4) (hm : m < 2) (hP : PI st own n 0 (fun _ => l) (fun _ => epsL) none) : ∃ st', L_X10_meet_116 2 (nI k) (nI m) st = some (some (.int (nI (mt (lgB l) (sD S k) (sD S k).length).length)), st') ∧ CS L st' (setM S (mt (lgB l) (sD S k) (sD S k).length)) ∧ onC st st' := by
  obtain ⟨o, ho, hT, e⟩ := meet116 h hd (m := m) (by omega)
  have hol := dO_lt ho
  rw [if_pos hm] at e
  obtain ⟨st', a1, a2, a3⟩ := keep_ok (L := L) (nr := 0) (P := lgB l) (INV := fun s => PI s own n 0 (fun _ => l) (fun _ => epsL) none) (o := o + 1) (by omega) (fun s s' hi hu => PI_out hi hu (fun q _ _ => by omega)) (fun s t x hi hF hT hx => by
    have hD := hT.2.2.2.2.2.2.2.2.1
    have hxl := (List.getElem?_eq_some_iff.mp hx).1
    obtain ⟨c1, c2, c3, c4, c5, c6, c7, c8, c9, c10, c11⟩ := hi
    have acc := accepts_ok c1 c2 c4 (fun i j hij => (c7 i j hij).2) (c9 0 (Nat.le_refl _)).1 (fun i hi => hi.1) hT hx
    refine ⟨s, ?_, upto_rfl, c1, c2, c3, c4, c5, c6, c7, c8, c9, c10, c11⟩
    rw [e_X10_keepAccepted_7, gI_ok hT.1, Option.bind_some, hT.2.2.2.2.2.2.2.1, if_neg (by rw [c_le (by omega) (by omega)]; omega), if_pos rfl, gR_ok (Fx_sh hF rfl), Option.bind_some, Fx_rf hF (v := 25) (by decide), acc, ri_ok]
    by_cases hb : lgB l x.1 = true
    · rw [if_pos hb, if_pos hb, if_neg (by decide)]
    · rw [if_neg hb, if_neg hb, if_pos rfl]) h hT hP
  exact ⟨st', by rw [e, a1, ri_ok], a2, a3⟩
theorem keepN {w : List Nat} {k m c : Nat} (h : CS L st S) (hd : k < 4) (hm : 2 ≤ m) (hm4 : m ≤ 4) (hc : c = 62 ∨ c = 64) (hw : isSg st c 4000 w) (hwl : w.length ≤ 12) (h1 : sR st 42 1 = c) (h2 : sI st 42 2 = nI (m - 2)) : ∃ st', L_X10_meet_116 2 (nI k) (nI m) st = some (some (.int (nI (mt (kP m w) (sD S k) (sD S k).length).length)), st') ∧ CS L st' (setM S (mt (kP m w) (sD S k) (sD S k).length)) ∧ onC st st' := by
  obtain ⟨o, ho, hT, e⟩ := meet116 h hd hm4
  have hol := dO_lt ho
  rw [if_neg (by omega)] at e
  obtain ⟨st', a1, a2, a3⟩ := keep_ok (L := L) (nr := 1) (P := kP m w) (INV := fun s => sR s 42 1 = c ∧ isSg s c 4000 w ∧ sI s 42 2 = nI (m - 2)) (o := o + 1) (by omega) (fun s s' hi hu => ⟨by rw [hu.2.1]; exact hi.1, isSg_up hi.2.1 hu (by omega) (by omega), by rw [(hu.2.2 42 (by omega)).1]; exact hi.2.2⟩) (fun s t x hi hF hT hx => by
    have hD := hT.2.2.2.2.2.2.2.2.1
    have hxl := (List.getElem?_eq_some_iff.mp hx).1
    obtain ⟨s', b1, b2⟩ := nearAcc_ok hF hi.1 hc (by omega) hi.2.1 hT hx hwl hi.2.2 (by omega)
    refine ⟨s', ?_, upto_mono b2 (fun q hq => by omega), by rw [b2.2.1]; exact hi.1, isSg_up hi.2.1 b2 (by omega) (by omega), by rw [(b2.2.2 42 (by omega)).1]; exact hi.2.2⟩
    rw [e_X10_keepAccepted_7, gI_ok hT.1, Option.bind_some, hT.2.2.2.2.2.2.2.1, if_neg (by rw [c_le (by omega) (by omega)]; omega), if_neg (by decide), gR_ok (Fx_sh hF rfl), Option.bind_some, Fx_rf hF (v := 42) (by decide), b1, ri_ok]
    have ek : (kP m w x.1 = true) ↔ dis w x.1 w.length x.1.length ≤ m - 2 := by
      unfold kP
      rw [if_pos hm]
      exact decide_eq_true_iff
    by_cases hb : dis w x.1 w.length x.1.length ≤ m - 2
    · rw [if_pos hb, if_pos (ek.mpr hb), if_neg (by decide)]
    · rw [if_neg hb, if_neg (fun z => hb (ek.mp z)), if_pos rfl]) h hT ⟨h1, hw, h2⟩
  exact ⟨st', by rw [e, a1, ri_ok], a2, a3⟩
theorem C_meet (h : CS L st S) (d kd : Int32) : ∃ st', f_X10_meet 2 d kd st = some (some (.int (a_meet S d kd).1), st') ∧ CS L st' (a_meet S d kd).2 ∧ onC st st' := by
  unfold a_meet
  rcases isD_cases d with hd | ⟨k, hd, rfl⟩
  · rw [withD_no hd]
    exact ⟨st, by rw [e_X10_meet_0, rc_ok (sh2 h), cD_no hd, ri_ok, if_pos rfl], h, onC_rfl⟩
  rw [withD_n hd]
  rw [e_X10_meet_0, rc_ok (sh2 h), cD_ok hd, ri_ok, if_neg (by decide)]
  rcases n04 kd with hk | ⟨m, hm, rfl⟩
  · rw [if_neg hk]
    refine ⟨st, ?_, h, onC_rfl⟩
    have h0 : (0 : Int32).toInt = 0 := rfl
    have h5 : (5 : Int32).toInt = 5 := rfl
    by_cases q : kd < 0
    · rw [if_pos q]
    · rw [if_neg q, if_neg (fun z => by
        have := Int32.lt_iff_toInt_lt.mp z
        have q' : ¬ kd.toInt < (0 : Int32).toInt := fun y => q (Int32.lt_iff_toInt_lt.mpr y)
        omega)]
  obtain ⟨k1, k2⟩ := n04y hm
  rw [if_pos k1, k2, if_neg (nI_pos (by omega)), if_pos (c := nI m < 5) (by show nI m < nI 5; rw [c_lt (by omega) (by omega)]; omega)]
  obtain ⟨c, s1, h1, h2, h3, h4, hc, -⟩ := take_ok h
  obtain ⟨o, ho, q1, q2, q3, q4, q5⟩ := dic_at h2 hd
  change dicC s1 o (sD S k) (sO S k) at q5
  have hol := dO_lt ho
  have hwl := h3.2.2.2.2.2.2.2
  rw [h1, rr_ok, gR_ok (sh2 h2), Option.bind_some, rf2_0 h2, q1, Option.bind_some, gI_ok q2, Option.bind_some, q5.2.1]
  unfold a_mk
  by_cases hb : sO S k = false
  rotate_left
  · rw [bi1 hb, if_neg hb]
    exact ⟨s1, rfl, h2, h4⟩
  rw [bi0 hb, if_pos hb, gI_ok h3.1, Option.bind_some, h3.2.2.2.1]
  have e55 : (if (2 : Int32) ≤ nI m then L_X10_meet_55 2 (nI k) (nI m) c (nI (sW S).length) 12 s1 else L_X10_meet_55 2 (nI k) (nI m) c (nI (sW S).length) 24 s1) = L_X10_meet_55 2 (nI k) (nI m) c (nI (sW S).length) (nI (if 2 ≤ m then 12 else 24)) s1 := by
    by_cases q : 2 ≤ m
    · rw [if_pos (show (2 : Int32) ≤ nI m from by show nI 2 ≤ nI m; rw [c_le (by omega) (by omega)]; exact q), if_pos q]; rfl
    · rw [if_neg (show ¬ (2 : Int32) ≤ nI m from by show ¬ nI 2 ≤ nI m; rw [c_le (by omega) (by omega)]; exact q), if_neg q]; rfl
  rw [e55, e_X10_meet_55]
  have hlim : (if 2 ≤ m then 12 else 24) ≤ 24 := by split <;> omega
  by_cases hlen : (sW S).length ≤ (if 2 ≤ m then 12 else 24)
  rotate_left
  · rw [if_neg hlen, if_neg (c := nI (sW S).length ≤ nI (if 2 ≤ m then 12 else 24)) (by rw [c_le (by omega) (by omega)]; exact hlen)]
    exact ⟨s1, rfl, h2, h4⟩
  rw [if_pos hlen, if_pos (c := nI (sW S).length ≤ nI (if 2 ≤ m then 12 else 24)) (by rw [c_le (by omega) (by omega)]; exact hlen)]
  have X1 : FX s1 := ⟨L, h2.1⟩
  have up25 : ∀ {s s' : ab_S}, CS L s (setW S []) → upto on25 s s' → CS L s' (setW S []) := fun hC hu => CS_up hC hu (fun q hq => by have hq' : 25 ≤ q ∧ q ≤ 41 := hq; unfold scr; omega) (by rw [(hu.2.2 2 (by show ¬ (25 ≤ 2 ∧ _); omega)).1]) (by rw [(hu.2.2 2 (by show ¬ (25 ≤ 2 ∧ _); omega)).1])
  have on25' : ∀ {s s' : ab_S}, upto on25 s s' → onC s s' := fun hu => onC_up hu (fun q hq => by have hq' : 25 ≤ q ∧ q ≤ 41 := hq; omega)
  by_cases hm1 : m = 1
  · rw [if_pos hm1, if_pos (show nI m = 1 from by rw [hm1]; rfl), gR_ok (sh2 h2), Option.bind_some, Fx_rf h2.1 (v := 25) (by decide)]
    obtain ⟨s2, u2, a⟩ := readPat_ok X1 h3 (by omega) (by omega)
    have C2 := up25 h2 u2
    rcases a with ⟨e, a1, a2, a3⟩ | ⟨l, own, n, a1, a2, a3⟩
    · rw [a1, a3, ri_ok, pI_ok (sh2 C2), Option.bind_some, gI_ok (sh2 (CS_F C2)), Option.bind_some, I_uI, if_pos (c := 2 = 2 ∧ 11 = 11) ⟨rfl, rfl⟩, if_neg (c := nI e = -1) (by rw [c_m1e (by omega)]; exact id)]
      exact ⟨_, rfl, CS_F C2, onC_trans h4 (onC_trans (on25' u2) (onC_up (upto_uI (W := fun q => q = 2) rfl) (fun q hq => by omega)))⟩
    · rw [a1, a2, ri_ok, pI_ok (sh2 C2), Option.bind_some, gI_ok (sh2 (CS_F C2)), Option.bind_some, I_uI, if_pos (c := 2 = 2 ∧ 11 = 11) ⟨rfl, rfl⟩, if_pos (c := (-1 : Int32) = -1) rfl]
      have P2 : PI (uI s2 2 11 (-1)) own n 0 (fun _ => l) (fun _ => epsL) none := PI_out a3 (upto_uI (W := fun q => q = 2) rfl) (fun q _ _ => by omega)
      obtain ⟨s3, b1, b2, b3⟩ := keepW (CS_F C2 (v := -1)) hd (m := m) (by omega) P2
      exact ⟨s3, b1, b2, onC_trans h4 (onC_trans (on25' u2) (onC_trans (onC_up (upto_uI (W := fun q => q = 2) rfl) (fun q hq => by omega)) b3))⟩
  rw [if_neg hm1, if_neg (show ¬ nI m = 1 from by show ¬ nI m = nI 1; rw [c_eq (by omega) (by omega)]; exact hm1)]
  by_cases h2m : 2 ≤ m
  · have h12 : (sW S).length ≤ 12 := by rw [if_pos h2m] at hlen; exact hlen
    have em : nI m - (2 : Int32) = nI (m - 2) := by rw [show (2 : Int32) = nI 2 from rfl, a_sub (by omega)]
    have s42 : (sH s1)[42]? = some (0, 2) := Fx_sh h2.1 rfl
    rw [if_pos (show (2 : Int32) ≤ nI m from by show nI 2 ≤ nI m; rw [c_le (by omega) (by omega)]; exact h2m), gR_ok (sh2 h2), Option.bind_some, Fx_rf h2.1 (v := 42) (by decide), em, e_X2_read_0, rc_ok s42, pR_ok s42, Option.bind_some, pI_ok (o := 42) (c := 2) (by rw [H_uR]; exact s42), Option.bind_some, rv_ok]
    have hF3 : Fx L (uI (uR s1 42 1 c) 42 2 (nI (m - 2))) := by
      refine ⟨h2.1.1, fun q hq => ?_⟩
      show sR (uR s1 42 1 c) q.1 q.2.1 = q.2.2
      rw [R_uR, if_neg (fun z => by
        have : ∀ q ∈ fxr, ¬ (q.1 = 42 ∧ q.2.1 = 1) := by decide +kernel
        exact this q hq z)]
      exact h2.1.2 q hq
    have eq3 : ∀ o, o ≠ 42 → eqA s1 (uI (uR s1 42 1 c) 42 2 (nI (m - 2))) o := by
      intro o ho
      have t1 := uR_oth (st := s1) (o := 42) (k := 1) (v := c) o ho
      have t2 := uI_oth (st := uR s1 42 1 c) (o := 42) (k := 2) (v := nI (m - 2)) o ho
      exact ⟨t2.1.trans t1.1, t1.2.1, t1.2.2⟩
    have C3 : CS L (uI (uR s1 42 1 c) 42 2 (nI (m - 2))) (setW S []) := CS_42 h2 rfl hF3 eq3
    obtain ⟨s3, b1, b2, b3⟩ := keepN C3 hd h2m hm hc (isSg_eq h3 rfl (eq3 _ (by omega)) (eq3 _ (by omega))) h12 (by show sR (uR s1 42 1 c) 42 1 = c; rw [R_uR, if_pos ⟨rfl, rfl⟩]) (by rw [I_uI, if_pos ⟨rfl, rfl⟩])
    exact ⟨s3, b1, b2, onC_trans h4 (onC_trans (show onC s1 (uI (uR s1 42 1 c) 42 2 (nI (m - 2))) from ⟨rfl, fun o ho => eq3 o (by omega)⟩) b3)⟩
  · have h24 : (sW S).length ≤ 24 := by omega
    rw [if_neg (show ¬ (2 : Int32) ≤ nI m from by show ¬ nI 2 ≤ nI m; rw [c_le (by omega) (by omega)]; exact h2m), gR_ok (sh2 h2), Option.bind_some, Fx_rf h2.1 (v := 25) (by decide)]
    obtain ⟨s2, own, n, a1, a2, a3⟩ := readWild_ok X1 h3 (by omega) h24
    rw [a1, rv_ok]
    obtain ⟨s3, b1, b2, b3⟩ := keepW (up25 h2 a3) hd (m := m) (by omega) a2
    have ek : kP m (sW S) = lgB (wild (sW S)) := by unfold kP; rw [if_neg h2m]
    rw [ek]
    exact ⟨s3, b1, b2, onC_trans h4 (onC_trans (on25' a3) b3)⟩
theorem M_meet (h : MS L st S) (d kd : Int32) : ∃ st', f_X11_meet 130 d kd st = some (some (.int (a_meet S d kd).1), st') ∧ MS L st' (a_meet S d kd).2 ∧ onM st st' := by
  unfold a_meet
  rcases isD_cases d with hd | ⟨k, hd, rfl⟩
  · rw [withD_no hd]
    exact ⟨st, by rw [e_X11_meet_0, rc_ok (sh130 h), mD_no hd, ri_ok, if_pos rfl], h, onM_rfl⟩
  rw [withD_n hd]
  have z0 : (0 : Int64).toInt = 0 := rfl
  have z4 : (4 : Int64).toInt = 4 := rfl
  rw [e_X11_meet_0, rc_ok (sh130 h), mD_ok hd, ri_ok, if_neg (by decide), isIn_i, ri_ok, z0, z4]
  rcases n04 kd with hk | ⟨m, hm, rfl⟩
  · rw [if_neg hk, if_neg hk, if_pos rfl]
    exact ⟨st, rfl, h, onM_rfl⟩
  obtain ⟨k1, k2⟩ := n04y hm
  rw [if_pos k1, if_pos k1, k2, if_neg (by decide)]
  obtain ⟨h1, h2, h3, h4⟩ := forgetM_ok h
  have hwl := h3.2
  rw [h1, ri_ok, ← Option.bind_assoc, mOpen2 h2 hd, Option.bind_some]
  change ∃ st', (if b01 (sO S k) = 0 then _ else _) = _ ∧ _
  generalize uI st 130 1 0 = s1 at *
  unfold a_mk
  by_cases hb : sO S k = false
  rotate_left
  · rw [bi1 hb, if_neg hb]
    exact ⟨s1, rfl, h2, h4⟩
  rw [bi0 hb, if_pos hb]
  have e52 : (if (2 : Int32) ≤ nI m then L_X11_meet_52 130 (nI k) (nI m) (nI (sW S).length) (nI (sW S).length) 12 s1 else L_X11_meet_52 130 (nI k) (nI m) (nI (sW S).length) (nI (sW S).length) 24 s1) = L_X11_meet_52 130 (nI k) (nI m) (nI (sW S).length) (nI (sW S).length) (nI (if 2 ≤ m then 12 else 24)) s1 := by
    by_cases q : 2 ≤ m
    · rw [if_pos (show (2 : Int32) ≤ nI m from by show nI 2 ≤ nI m; rw [c_le (by omega) (by omega)]; exact q), if_pos q]; rfl
    · rw [if_neg (show ¬ (2 : Int32) ≤ nI m from by show ¬ nI 2 ≤ nI m; rw [c_le (by omega) (by omega)]; exact q), if_neg q]; rfl
  rw [e52, e_X11_meet_52]
  have hlim : (if 2 ≤ m then 12 else 24) ≤ 24 := by split <;> omega
  by_cases hlen : (sW S).length ≤ (if 2 ≤ m then 12 else 24)
  rotate_left
  · rw [if_neg hlen, if_neg (c := nI (sW S).length ≤ nI (if 2 ≤ m then 12 else 24)) (by rw [c_le (by omega) (by omega)]; exact hlen)]
    exact ⟨s1, rfl, h2, h4⟩
  rw [if_pos hlen, if_pos (c := nI (sW S).length ≤ nI (if 2 ≤ m then 12 else 24)) (by rw [c_le (by omega) (by omega)]; exact hlen)]
  have X1 : FX s1 := ⟨L, h2.1⟩
  have h24 : (sW S).length ≤ 24 := by omega
  -- the head of the loop
  have e95 : ∀ (s : ab_S) t x, Fx L s → isMd s k (sD S k) → (sD S k)[t]? = some x → L_X11_meet_95 130 (nI k) (nI m) (nI (sW S).length) (nI t) s = if nI m = 0 then ab_ri (f_X11_isWild 130 (nI k) (nI t) (nI (sW S).length) s) fun x5 s4 => L_X11_meet_155 130 (nI k) (nI m) (nI (sW S).length) (nI t) x5 s4
      else if nI m = (1 : Int32)
        then ab_ri (f_X11_isPattern 130 (nI k) (nI t) s) fun x7 s6 =>
          L_X11_meet_155 130 (nI k) (nI m) (nI (sW S).length) (nI t) x7 s6
        else ab_ri (f_X11_distance 130 (nI k) (nI t) (nI (sW S).length) s) fun x9 s8 =>
          if (nI m - (2 : Int32)) < x9
          then L_X11_meet_155 130 (nI k) (nI m) (nI (sW S).length) (nI t) (0 : Int32) s8
          else L_X11_meet_155 130 (nI k) (nI m) (nI (sW S).length) (nI t) (1 : Int32) s8 := by
    intro s t x hF hM hx
    have hX : FX s := ⟨L, hF⟩
    have hl := hM.2.1
    have := (List.getElem?_eq_some_iff.mp hx).1
    rw [e_X11_meet_95, n5 hX, Option.bind_some, r135 hX (by omega), Option.bind_some, hM.1, if_neg (by rw [c_le (by omega) (by omega)]; omega)]
  by_cases hm1 : m = 1
  · rw [if_pos hm1, if_pos (show nI m = 1 from by rw [hm1]; rfl)]
    obtain ⟨s2, u2, a⟩ := parseP_ok X1 h3 h24
    have M2 : MS L s2 (setW S []) := MS_up h2 u2.1 (fun q _ _ => by show ¬ (q = 130 ∨ _); omega) (u2.2 1 (by omega)) (u2.2 9 (by omega)) (u2.2 10 (by omega)) (u2.2 12 (by omega))
    have on2 : onM s1 s2 := onM_up u2.1 (fun q hq => by have hq' : q = 130 ∨ (151 ≤ q ∧ q ≤ 158) := hq; omega)
    have X2 : FX s2 := ⟨L, M2.1⟩
    rcases a with ⟨e, a1, a2, a3, a4⟩ | ⟨l, E, N, nS, en, a1, a2, a3, a4⟩
    · have M3 := MS_F M2 (v := nI e)
      have X3 : FX (uI s2 130 10 (nI e)) := ⟨L, M3.1⟩
      rw [a1, a3, rv_ok, im X2, Option.bind_some, a4, pm X2, Option.bind_some, im X3, Option.bind_some, I_uI, if_neg (c := 130 = 130 ∧ 35 = 10) (by omega), a4, if_neg (c := nI e = -1) (by rw [c_m1e (by omega)]; exact id)]
      exact ⟨_, rfl, M3, onM_trans h4 (onM_trans on2 (onM_up (upto_uI (W := fun q => q = 130) rfl) (fun q hq => by omega)))⟩
    · have M3 := MS_F M2 (v := -1)
      have X3 : FX (uI s2 130 10 (-1)) := ⟨L, M3.1⟩
      rw [a1, a2, rv_ok, im X2, Option.bind_some, a3, pm X2, Option.bind_some, im X3, Option.bind_some, I_uI, if_neg (c := 130 = 130 ∧ 35 = 10) (by omega), a3, if_pos (c := (-1 : Int32) = -1) rfl]
      have PEu : ∀ {s s' : ab_S}, PE s (sW S) E N nS l en → upto (fun q => q = 130 ∨ q = 138) s s' → (∀ j, j ≠ 9 → j ≠ 10 → sI s' 130 j = sI s 130 j) → PE s' (sW S) E N nS l en := fun hP hu hj => ⟨MU_up hP.1 hu (by omega) (fun s c _ _ => by rw [(hu.2.2 154 (by omega)).1]) (hj _ (by omega) (by omega)) (hj _ (by omega) (by omega)) (hj _ (by omega) (by omega)) (hj _ (by omega) (by omega)), (hj _ (by omega) (by omega)).trans hP.2.1, hP.2.2⟩
      have P3 : PE (uI s2 130 10 (-1)) (sW S) E N nS l en := PEu a4 (upto_uI (Or.inl rfl)) (fun j _ hj => by rw [I_uI, if_neg (by omega)])
      obtain ⟨s4, b1, b2, b3⟩ := keepM_ok (L := L) (S := setF (setW S []) (-1)) (P := lgB l) (D := sD S k) (d := k) (kd := nI m) (n := nI (sW S).length) (INV := fun s => PE s (sW S) E N nS l en) hd rfl (fun s s' hi hu hj => PEu hi hu (fun j h9 _ => hj j h9)) (fun s t x hi hF hM hx => by
        obtain ⟨s', c1, c2⟩ := isPat_ok hF hi (by omega) hM hx
        refine ⟨s', ?_, upto_mono c2 (fun q hq => by omega), MU_o hi.1 c2, by rw [(c2.2.2 130 (by omega)).1]; exact hi.2.1, hi.2.2⟩
        rw [e95 s t x hF hM hx, if_neg (show ¬ nI m = 0 from by show ¬ nI m = nI 0; rw [c_eq (by omega) (by omega)]; omega), if_pos (show nI m = 1 from by rw [hm1]; rfl), c1, ri_ok]
        rfl) M3 P3
      exact ⟨s4, b1, b2, onM_trans h4 (onM_trans on2 (onM_trans (onM_up (upto_uI (W := fun q => q = 130) rfl) (fun q hq => by omega)) b3))⟩
  rw [if_neg hm1, if_neg (show ¬ nI m = 1 from by show ¬ nI m = nI 1; rw [c_eq (by omega) (by omega)]; exact hm1)]
  obtain ⟨s4, b1, b2, b3⟩ := keepM_ok (L := L) (S := setW S []) (P := kP m (sW S)) (D := sD S k) (d := k) (kd := nI m) (n := nI (sW S).length) (INV := fun s => mRow s (sW S)) hd rfl (fun s s' hi hu hj => mRow_up hi hu (by omega)) (fun s t x hi hF hM hx => by
    rw [e95 s t x hF hM hx]
    by_cases h2m : 2 ≤ m
    · have h12 : (sW S).length ≤ 12 := by rw [if_pos h2m] at hlen; exact hlen
      have em : nI m - (2 : Int32) = nI (m - 2) := by rw [show (2 : Int32) = nI 2 from rfl, a_sub (by omega)]
      obtain ⟨s', c1, c2⟩ := distM_ok hF (by omega) hM hx hi h12
      have hx12 := (mMd hM (by omega) hx).2.2.1
      have hdl : dis (sW S) x.1 (sW S).length x.1.length < 1000 := by
        have := dis_hi (w := sW S) (x := x.1) (Nat.le_refl ((sW S).length + x.1.length))
        omega
      refine ⟨s', ?_, upto_mono c2 (fun q hq => by omega), mRow_up hi c2 (by omega)⟩
      rw [if_neg (show ¬ nI m = 0 from by show ¬ nI m = nI 0; rw [c_eq (by omega) (by omega)]; omega), if_neg (show ¬ nI m = 1 from by show ¬ nI m = nI 1; rw [c_eq (by omega) (by omega)]; omega), c1, ri_ok, em]
      have ek : (kP m (sW S) x.1 = true) ↔ dis (sW S) x.1 (sW S).length x.1.length ≤ m - 2 := by
        unfold kP
        rw [if_pos h2m]
        exact decide_eq_true_iff
      by_cases hb : dis (sW S) x.1 (sW S).length x.1.length ≤ m - 2
      · rw [if_neg (by rw [c_lt (by omega) (by omega)]; omega), if_pos (ek.mpr hb)]
      · rw [if_pos (by rw [c_lt (by omega) (by omega)]; omega), if_neg (fun z => hb (ek.mp z))]
    · obtain ⟨s', c1, c2⟩ := isWild_ok hF (by omega) hM hx hi h24
      refine ⟨s', ?_, upto_mono c2 (fun q hq => by omega), mRow_up hi c2 (by omega)⟩
      rw [if_pos (show nI m = 0 from by rw [show m = 0 from by omega]; rfl), c1, ri_ok]
      have hb3 := (hM.2.2 t x hx).2.2.1
      have hx256 : ∀ s ∈ x.1, s < 256 := fun s hs => by
        obtain ⟨j, hj, e⟩ := List.getElem_of_mem hs
        exact (hb3 j s (by rw [List.getElem?_eq_getElem hj, e])).2
      have hw256 : ∀ s ∈ sW S, s < 256 := fun s hs => by
        obtain ⟨j, hj, e⟩ := List.getElem_of_mem hs
        exact (h3.1 j s (by rw [List.getElem?_eq_getElem hj, e])).2
      have ek : (wm (sW S) x.1 (sW S).length x.1.length = true) ↔ (kP m (sW S) x.1 = true) := by
        rw [wm_wild hx256 hw256 (Nat.le_refl _) (Nat.le_refl _), List.take_length, List.take_length]
        unfold kP
        rw [if_neg h2m, lgB_iff]
        unfold wild orL noL
        exact ⟨Or.inr, fun z => z.resolve_left id⟩
      by_cases hb : kP m (sW S) x.1 = true
      · rw [if_pos hb, ek.mpr hb]; rfl
      · rw [if_neg hb, show wm (sW S) x.1 (sW S).length x.1.length = false from by
          cases hh : wm (sW S) x.1 (sW S).length x.1.length with
          | false => rfl
          | true => exact absurd (ek.mp hh) hb]
        rfl) h2 h3
  exact ⟨s4, b1, b2, onM_trans h4 b3⟩
theorem wf_F (h : wfS S) {v : Int32} : wfS (setF S v) := h
theorem W_meet (h : wfS S) (hl : ∀ k, k < 4 → (sD S k).length ≤ 200) (d kd : Int32) : wfS (a_meet S d kd).2 := by
  unfold a_meet
  rcases isD_cases d with hd | ⟨k, hd, rfl⟩
  · rw [withD_no hd]; exact h
  rw [withD_n hd]
  have := hl k hd
  by_cases h0 : 0 ≤ kd.toInt ∧ kd.toInt ≤ 4
  rotate_left
  · rw [if_neg h0]; exact h
  rw [if_pos h0]
  unfold a_mk
  by_cases h1 : sO S k = false
  rotate_left
  · rw [if_neg h1]; exact wf_W0 h
  rw [if_pos h1]
  by_cases h2 : (sW S).length ≤ (if 2 ≤ kd.toNatClampNeg then 12 else 24)
  rotate_left
  · rw [if_neg h2]; exact wf_W0 h
  rw [if_pos h2]
  by_cases h3 : kd.toNatClampNeg = 1
  · rw [if_pos h3]
    cases patL (sW S) with
    | inl e => exact wf_F (wf_W0 h)
    | inr l => exact wf_M (wf_F (wf_W0 h)) (Nat.le_trans mt_len this) (fun t ht => Nat.lt_of_lt_of_le (mt_lt t ht) this)
  · rw [if_neg h3]
    exact wf_M (wf_W0 h) (Nat.le_trans mt_len this) (fun t ht => Nat.lt_of_lt_of_le (mt_lt t ht) this)
end MEET2
