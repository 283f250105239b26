/-! FRAMES: what stays of CS and MS when objects change -/
def up1 {α : Type} (f : Nat → α) (d : Nat) (v : α) : Nat → α := fun e => if e = d then v else f e
theorem up1_s {α : Type} {f : Nat → α} {d : Nat} {v : α} : up1 f d v d = v := if_pos rfl
theorem up1_o {α : Type} {f : Nat → α} {d e : Nat} {v : α} (h : e ≠ d) : up1 f d v e = f e := if_neg h
section FR
variable {L : Nat} {st st' : ab_S} {S : Sg} {W : Nat → Prop}
theorem ccol_up {w : List Nat} (h : ccol st w) (hu : upto W st st') (hW : ∀ q, 62 ≤ q → q ≤ 65 → ¬ W q) : ccol st' w := by
  obtain ⟨c, u, hcu, g1, g2, g3, w', g4⟩ := h
  exact ⟨c, u, hcu, by rw [hu.2.1]; exact g1, by rw [hu.2.1]; exact g2, isSg_up g3 hu (hW _ (by omega) (by omega)) (hW _ (by omega) (by omega)), w', isSg_up g4 hu (hW _ (by omega) (by omega)) (hW _ (by omega) (by omega))⟩
theorem cdic_up {DD : Nat → Dc} {op : Nat → Bool} (h : cdic st DD op) (hu : upto W st st') (hW : ∀ q, 66 ≤ q → q ≤ 125 → ¬ W q) : cdic st' DD op := by
  obtain ⟨p, p1, p2, p3, p4, p5⟩ := h
  refine ⟨p, p1, p2, fun d hd => by rw [hu.2.1]; exact p3 d hd, by rw [hu.2.1]; exact p4, fun d hd => ?_⟩
  have := dO_lt (p1 d (by omega))
  exact dicC_eq (p5 d hd) hu.1 (fun q _ _ => eqA_up hu (hW q (by omega) (by omega)))
theorem dO_far {a b : Nat} (ha : a ∈ dO) (hb : b ∈ dO) (h : a ≠ b) : a + 11 < b ∨ b + 11 < a := by
  simp [dO] at ha hb
  omega
theorem cdic_upd {DD : Nat → Dc} {op : Nat → Bool} (h : cdic st DD op) {d o : Nat} (hd : d < 4) (ho : sR st 3 d = o) (hu : upto W st st') (hW : ∀ q, 66 ≤ q → q ≤ 125 → W q → o ≤ q ∧ q ≤ o + 11) {D : Dc} {b : Bool} (hn : dicC st' o D b) : cdic st' (up1 DD d D) (up1 op d b) := by
  obtain ⟨p, p1, p2, p3, p4, p5⟩ := h
  refine ⟨p, p1, p2, fun d hd => by rw [hu.2.1]; exact p3 d hd, by rw [hu.2.1]; exact p4, fun e he => ?_⟩
  have hpo : p d = o := (p3 d hd).symm.trans ho
  by_cases hed : e = d
  · subst hed
    rw [up1_s, up1_s, hpo]
    exact hn
  · rw [up1_o hed, up1_o hed]
    have h1 := dO_lt (p1 e (by omega))
    have h2 := dO_far (p1 e (by omega)) (p1 d (by omega)) (fun q => hed (p2 e d (by omega) (by omega) q))
    exact dicC_eq (p5 e he) hu.1 (fun q _ _ => eqA_up hu (fun w => by have := hW q (by omega) (by omega) w; omega))
theorem cwk_up {K : Nat → Int32 × Int32 × Int32 × Int32} (h : cwk st K) (hu : upto W st st') (hW : ∀ q, 126 ≤ q → q ≤ 129 → ¬ W q) : cwk st' K := by
  intro k hk
  rw [(hu.2.2 (126 + k) (hW _ (by omega) (by omega))).1]
  exact h k hk
/-- what the class's other objects may do -/
def scr (q : Nat) : Prop := q = 2 ∨ (6 ≤ q ∧ q ≤ 56) ∨ 130 ≤ q
theorem CS_up (h : CS L st S) (hu : upto W st st') (hW : ∀ q, W q → scr q) (h10 : sI st' 2 10 = sI st 2 10) (h11 : sI st' 2 11 = sI st 2 11) : CS L st' S := by
  obtain ⟨hF, h2, h3, h4, h5, h6, h7, h8, w, h9⟩ := h
  have hn : ∀ q, ¬ scr q → ¬ W q := fun q hq w => hq (hW q w)
  have hs : ∀ q, 57 ≤ q → q ≤ 129 → ¬ W q := fun q h1 h2 => hn q (by unfold scr; omega)
  refine ⟨Fx_up hF hu, ccol_up h2 hu (fun q _ _ => hs q (by omega) (by omega)), cdic_up h3 hu (fun q _ _ => hs q (by omega) (by omega)), fun d hd => by rw [(hu.2.2 4 (hn 4 (by unfold scr; omega))).1]; exact h4 d hd, cwk_up h5 hu (fun q _ _ => hs q (by omega) (by omega)), ⟨by rw [h10]; exact h6.1, fun k t hk => by rw [(hu.2.2 61 (hs 61 (by omega) (by omega))).1]; exact h6.2 k t hk⟩, by rw [h11]; exact h7, isSg_up h8 hu (hs _ (by omega) (by omega)) (hs _ (by omega) (by omega)), w, isSg_up h9 hu (hs _ (by omega) (by omega)) (hs _ (by omega) (by omega))⟩
theorem MS_up (h : MS L st S) (hu : upto W st st') (hW : ∀ q, 131 ≤ q → q ≤ 143 → ¬ W q) (h1 : sI st' 130 1 = sI st 130 1) (h9 : sI st' 130 9 = sI st 130 9) (h10 : sI st' 130 10 = sI st 130 10) (h12 : sI st' 130 12 = sI st 130 12) : MS L st' S := by
  obtain ⟨hF, g2, g3, g4, g5, g6, g7, g8⟩ := h
  have e : ∀ q, 131 ≤ q → q ≤ 143 → sI st' q = sI st q := fun q a b => (hu.2.2 q (hW q a b)).1
  refine ⟨Fx_up hF hu, ⟨by rw [h1]; exact g2.1, mRow_up g2.2 hu (hW _ (by omega) (by omega))⟩, fun d hd => ⟨isMd_up (g3 d hd).1 hu (hW _ (by omega) (by omega)) (hW _ (by omega) (by omega)) (hW _ (by omega) (by omega)) (hW _ (by omega) (by omega)), by rw [e 136 (by omega) (by omega)]; exact (g3 d hd).2⟩, fun d hd => by rw [e 137 (by omega) (by omega)]; exact g4 d hd, fun k hk => by rw [e 140 (by omega) (by omega), e 141 (by omega) (by omega), e 142 (by omega) (by omega), e 143 (by omega) (by omega)]; exact g5 k hk, ⟨by rw [h9]; exact g6.1, fun k t hk => by rw [e 138 (by omega) (by omega)]; exact g6.2 k t hk⟩, by rw [h10]; exact g7, ⟨by rw [h12]; exact g8.1, fun k s hk => by rw [e 139 (by omega) (by omega)]; exact g8.2 k s hk⟩⟩
theorem dic_rf {L : Nat} {st : ab_S} {S : Sg} (h : CS L st S) {d : Nat} (hd : d < 4) : ∃ o, o ∈ dO ∧ sR st 3 d = o ∧ ab_rR st 3 (nI d) = some o ∧ (sH st)[o]? = some (0, 0) ∧ sR st o 0 = o + 1 ∧ sR st o 1 = o + 5 ∧ dicC st o (sD S d) (sO S d) := by
  obtain ⟨o, h1, h2, h3⟩ := dic_at h hd
  refine ⟨o, h1, ?_, h2, h3⟩
  rw [rR_ok (Fx_sh h.1 (o := 3) rfl) (by decide) (by omega) (by omega)] at h2
  exact Option.some.inj h2
def setDic (S : Sg) (d : Nat) (D : Dc) (b : Bool) : Sg := (sW S, up1 (sD S) d D, up1 (sO S) d b, S.2.2.2)
def setAge (S : Sg) (d : Nat) : Sg := (sW S, sD S, sO S, up1 (sA S) d (sA S d + 1), S.2.2.2.2)
theorem srt_nil : srt [] := fun i j x y h => by simp at h
theorem wf_dic (h : wfS S) {d : Nat} {D : Dc} {b : Bool} (hD : srt D) : wfS (setDic S d D b) := by
  obtain ⟨a1, a2, a3⟩ := h
  refine ⟨a1, fun e he => ?_, a3⟩
  show srt (up1 (sD S) d D e)
  by_cases hed : e = d
  · subst hed; rw [up1_s]; exact hD
  · rw [up1_o hed]; exact a2 e he
theorem wf_age (h : wfS S) {d : Nat} : wfS (setAge S d) := h
theorem wf_W (h : wfS S) {w : List Nat} (h1 : w.length ≤ 4000) (h2 : ∀ s ∈ w, s < 256) : wfS (setW S w) := by
  obtain ⟨a1, a2, a3, a4, a5, a6, a7⟩ := h
  exact ⟨a1, a2, a3, a4, h1, h2, a7⟩
theorem wf_W0 (h : wfS S) : wfS (setW S []) := wf_W h (by simp) (by simp)
-- begin
def a_begin (S : Sg) (d : Int32) : Int32 × Sg := withD d (-2, S) fun k => (nI (sD S k).length, setAge (setDic S k [] true) k)
theorem clearT_ok {o : Nat} {D : Dc} (h : isTm st o D) : f_X7_clear o st = some (none, uI st o 3 0) ∧ isTm (uI st o 3 0) o [] := by
  obtain ⟨a1, a2, a3, a4, a5, a6, a7, a8, a9, a10⟩ := h
  refine ⟨by rw [e_X7_clear_0, rc_ok a1, pI_ok a1]; rfl, a1, a2, a3, a4, a5, a6, a7, ?_, by simp, fun t x hx => by simp at hx⟩
  simp [I_uI]; rfl
theorem C_begin (h : CS L st S) (d : Int32) : ∃ st', f_X10_begin 2 d st = some (some (.int (a_begin S d).1), st') ∧ CS L st' (a_begin S d).2 ∧ onC st st' := by
  unfold a_begin
  rcases isD_cases d with hd | ⟨k, hd, rfl⟩
  · rw [withD_no hd]
    exact ⟨st, by rw [e_X10_begin_0, rc_ok (sh2 h), cD_no hd, ri_ok, if_pos rfl], h, onC_rfl⟩
  · rw [withD_n hd]
    dsimp only
    obtain ⟨o, ho, q0, q1, q2, q3, q4, q5⟩ := dic_rf h hd
    have hol := dO_lt ho
    obtain ⟨t1, t2⟩ := clearT_ok q5.1
    let s1 := uI st (o + 1) 3 0
    let s2 := uI s1 o 2 1
    let s3 := uI s2 4 k (sA S k + 1)
    have u1 : upto (fun q => q = o + 1) st s1 := upto_uI rfl
    have u2 : upto (fun q => q = o) s1 s2 := upto_uI rfl
    have u3 : upto (fun q => q = 4) s2 s3 := upto_uI rfl
    have hu : upto (fun q => q = o + 1 ∨ q = o ∨ q = 4) st s3 := upto_trans (upto_mono u1 (fun q hq => Or.inl hq)) (upto_trans (upto_mono u2 (fun q hq => Or.inr (Or.inl hq))) (upto_mono u3 (fun q hq => Or.inr (Or.inr hq))))
    have e4 : sI s2 4 = sI st 4 := by rw [(u2.2.2 4 (by omega)).1, (u1.2.2 4 (by omega)).1]
    refine ⟨s3, ?_, ?_, onC_up hu (fun q hq => by omega)⟩
    · have g1 : (sH s1)[o]? = some (0, 0) := q2
      have g2 : (sH s2)[2]? = some (0, 10) := Fx_sh h.1 (o := 2) rfl
      rw [e_X10_begin_0, rc_ok (sh2 h), cD_ok hd, ri_ok, if_neg (by decide), gR_ok (sh2 h), Option.bind_some, rf2_0 h, q1, Option.bind_some, gR_ok q2, Option.bind_some, q3, gI_ok q5.1.1, Option.bind_some, Option.bind_some, t1, rv_ok, pZ_1 g1, Option.bind_some, gR_ok g2, Option.bind_some]
      have r1 : sR s2 2 1 = 4 := Fx_rf h.1 (v := 4) (by decide)
      have hh4 : (sH s2)[4]? = some (1, 4) := Fx_sh h.1 (o := 4) rfl
      show Option.bind (ab_rI s2 (sR s2 2 1) (nI k)) _ = _
      rw [r1, rI_ok hh4 (by omega) (by omega), Option.bind_some]
      show Option.bind (ab_wI s2 4 (nI k) (sI s2 4 k + 1)) _ = _
      rw [e4, h.2.2.2.1 k hd, wI_ok hh4 (by omega) (by omega), Option.bind_some, q5.1.2.2.2.2.2.2.2.1]
    · obtain ⟨hF, h2, h3, h4, h5, h6, h7, h8, w, h9⟩ := h
      refine ⟨Fx_up hF hu, ccol_up h2 hu (fun q _ _ => by omega), ?_, fun e he => ?_, cwk_up h5 hu (fun q _ _ => by omega), ⟨by rw [(hu.2.2 2 (by omega)).1]; exact h6.1, fun k t hk => by rw [(hu.2.2 61 (by omega)).1]; exact h6.2 k t hk⟩, by rw [(hu.2.2 2 (by omega)).1]; exact h7, isSg_up h8 hu (by omega) (by omega), w, isSg_up h9 hu (by omega) (by omega)⟩
      · refine cdic_upd h3 hd q0 hu (fun q _ _ _ => by omega) ⟨?_, ?_, fun hb => by cases hb⟩
        · exact isTm_up t2 (upto_trans (upto_mono u2 (fun q hq => Or.inl hq)) (upto_mono u3 (fun q hq => Or.inr hq)) : upto (fun q => q = o ∨ q = 4) s1 s3) (by omega) (by omega) (by omega) (by omega)
        · rw [(u3.2.2 o (by omega)).1]
          show sI (uI s1 o 2 1) o 2 = _
          rw [I_uI, if_pos ⟨rfl, rfl⟩]; rfl
      · show sI (uI s2 4 k (sA S k + 1)) 4 e = up1 (sA S) k (sA S k + 1) e
        rw [I_uI, e4]
        by_cases hek : e = k
        · subst hek; rw [if_pos ⟨rfl, rfl⟩, up1_s]
        · rw [if_neg (fun z => hek z.2), up1_o hek]; exact h4 e he
theorem M_begin (h : MS L st S) (d : Int32) : ∃ st', f_X11_begin 130 d st = some (some (.int (a_begin S d).1), st') ∧ MS L st' (a_begin S d).2 ∧ onM st st' := by
  unfold a_begin
  rcases isD_cases d with hd | ⟨k, hd, rfl⟩
  · rw [withD_no hd]
    exact ⟨st, by rw [e_X11_begin_0, rc_ok (sh130 h), mD_no hd, ri_ok, if_pos rfl], h, onM_rfl⟩
  · rw [withD_n hd]
    dsimp only
    let s1 := uI st 135 k 0
    let s2 := uI s1 136 k 1
    let s3 := uI s2 137 k (sA S k + 1)
    have u1 : upto (fun q => q = 135) st s1 := upto_uI rfl
    have u2 : upto (fun q => q = 136) s1 s2 := upto_uI rfl
    have u3 : upto (fun q => q = 137) s2 s3 := upto_uI rfl
    have hu : upto (fun q => q = 135 ∨ q = 136 ∨ q = 137) st s3 := upto_trans (upto_mono u1 (fun q hq => Or.inl hq)) (upto_trans (upto_mono u2 (fun q hq => Or.inr (Or.inl hq))) (upto_mono u3 (fun q hq => Or.inr (Or.inr hq))))
    have e7 : sI s2 137 = sI st 137 := by rw [(u2.2.2 137 (by omega)).1, (u1.2.2 137 (by omega)).1]
    refine ⟨s3, ?_, ?_, onM_up hu (fun q hq => by omega)⟩
    · have g1 : (sH s1)[130]? = some (0, 11) := Fx_sh h.1 (o := 130) rfl
      have g2 : (sH s2)[130]? = some (0, 11) := Fx_sh h.1 (o := 130) rfl
      have i5 : (sH st)[135]? = some (1, 6) := Fx_sh h.1 rfl
      have i6 : (sH s1)[136]? = some (4, 4) := Fx_sh h.1 (o := 136) rfl
      have i7 : (sH s2)[137]? = some (1, 4) := Fx_sh h.1 (o := 137) rfl
      have r5 : sR st 130 5 = 135 := Fx_rf h.1 (by decide)
      have r6 : sR s1 130 6 = 136 := Fx_rf h.1 (by decide)
      have r7 : sR s2 130 7 = 137 := Fx_rf h.1 (by decide)
      rw [e_X11_begin_0, rc_ok (sh130 h), mD_ok hd, ri_ok, if_neg (by decide), gR_ok (sh130 h), Option.bind_some, r5, rI_ok i5 (by omega) (by omega), Option.bind_some, Option.bind_some, wI_ok i5 (by omega) (by omega), Option.bind_some, gR_ok g1, Option.bind_some, r6, wZ_ok i6 (by omega) (by omega), Option.bind_some, show (1 : Int32) &&& 1 = 1 from rfl, gR_ok g2, Option.bind_some, r7, rI_ok i7 (by omega) (by omega), Option.bind_some, wI_ok i7 (by omega) (by omega), Option.bind_some]
      show some (some (Value.int (sI st 135 k)), uI s2 137 k (sI s2 137 k + 1)) = _
      rw [e7, h.2.2.2.1 k hd, (h.2.2.1 k hd).1.1]
    · obtain ⟨hF, g2, g3, g4, g5, g6, g7, g8⟩ := h
      have e : ∀ q, ¬ (q = 135 ∨ q = 136 ∨ q = 137) → sI s3 q = sI st q := fun q a => (hu.2.2 q a).1
      refine ⟨Fx_up hF hu, ⟨by rw [e 130 (by omega)]; exact g2.1, mRow_up g2.2 hu (by omega)⟩, fun d hd => ?_, fun d hd => ?_, fun k hk => by rw [e 140 (by omega), e 141 (by omega), e 142 (by omega), e 143 (by omega)]; exact g5 k hk, ⟨by rw [e 130 (by omega)]; exact g6.1, fun k t hk => by rw [e 138 (by omega)]; exact g6.2 k t hk⟩, by rw [e 130 (by omega)]; exact g7, ⟨by rw [e 130 (by omega)]; exact g8.1, fun k s hk => by rw [e 139 (by omega)]; exact g8.2 k s hk⟩⟩
      · have e5 : sI s3 135 d = if d = k then 0 else sI st 135 d := by
          rw [(u3.2.2 135 (by omega)).1, (u2.2.2 135 (by omega)).1]
          show sI (uI st 135 k 0) 135 d = _
          rw [I_uI]; simp
        have e6 : sI s3 136 d = if d = k then 1 else sI st 136 d := by
          rw [(u3.2.2 136 (by omega)).1]
          show sI (uI s1 136 k 1) 136 d = _
          rw [I_uI, (u1.2.2 136 (by omega)).1]; simp
        show isMd s3 d (up1 (sD S) k [] d) ∧ sI s3 136 d = b01 (up1 (sO S) k true d)
        by_cases hdk : d = k
        · subst hdk
          rw [up1_s, up1_s, e6, if_pos rfl]
          exact ⟨⟨by rw [e5, if_pos rfl]; rfl, by simp, fun t x hx => by simp at hx⟩, rfl⟩
        · rw [up1_o hdk, up1_o hdk, e6, if_neg hdk]
          refine ⟨⟨by rw [e5, if_neg hdk]; exact (g3 d hd).1.1, (g3 d hd).1.2.1, fun t x hx => ?_⟩, (g3 d hd).2⟩
          have := (g3 d hd).1.2.2 t x hx
          unfold mdAt at this ⊢
          rw [e 132 (by omega), e 133 (by omega), (hu.2.2 134 (by omega)).2]
          exact this
      · show sI (uI s2 137 k (sA S k + 1)) 137 d = up1 (sA S) k (sA S k + 1) d
        rw [I_uI, e7]
        by_cases hek : d = k
        · subst hek; rw [if_pos ⟨rfl, rfl⟩, up1_s]
        · rw [if_neg (fun z => hek z.2), up1_o hek]; exact g4 d hd
theorem W_begin (h : wfS S) (d : Int32) : wfS (a_begin S d).2 := by
  unfold a_begin
  rcases isD_cases d with hd | ⟨k, hd, rfl⟩
  · rw [withD_no hd]; exact h
  · rw [withD_n hd]; exact wf_age (wf_dic h srt_nil)
end FR
