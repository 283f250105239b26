/-! SOUNDNESS: walks, labels, the limit, a method's contract -/
section SD
variable {p : Program} {l : Launch} {e : Env} {R : Room} {s : State} {m : MethodId} {args : Array Value} {below : List Frame} {meth : Method} {c : Code} {Q : State → Prop}
variable {D : va_G} {aK : Nat → ClassId} {b N0 L : Nat} {xs : Nat → Int32} {nL : Nat} {cc : ByteArray} {own : String} {st0 : ab_S} {r : ab_R}
theorem go_sub {pc : Nat} {ls ls' : ab_L} {stk : List Value} {st : ab_S} (hs : ∀ q ∈ ls', q ∈ ls) (h : Go p l e R s m args below meth c Q D aK b N0 L xs nL st0 pc ls' stk st) : Go p l e R s m args below meth c Q D aK b N0 L xs nL st0 pc ls stk st := by
  intro H locs lsA hr hS hl
  refine h H locs lsA hr hS ⟨hl.1, hl.2.1, fun q hq => hl.2.2 q ?_⟩
  obtain ⟨w, hw, rfl⟩ := List.mem_map.mp hq
  exact List.mem_map.mpr ⟨w, hs w hw, rfl⟩
theorem pick_mem {ls : ab_L} : ∀ {sl : List Nat} {vs : List Value}, ab_pick ls sl = some vs → sl.length = vs.length ∧ ∀ q ∈ sl.zip vs, q ∈ ls
  | [], vs, h => by cases h; exact ⟨rfl, fun q hq => by simp at hq⟩
  | i :: sl, vs, h => by
    unfold ab_pick at h
    split at h
    · next v hv =>
      split at h
      · next ws hws =>
        cases h
        obtain ⟨h1, h2⟩ := pick_mem hws
        refine ⟨by simp [h1], fun q hq => ?_⟩
        rw [List.zip_cons_cons] at hq
        rcases List.mem_cons.mp hq with rfl | hq
        · exact ab_look_mem hv
        · exact h2 q hq
      · cases h
    · cases h
/-- what is said of a label -/
def SndL (p : Program) (l : Launch) (e : Env) (R : Room) (s : State) (m : MethodId) (args : Array Value) (below : List Frame) (meth : Method) (c : Code) (Q : State → Prop) (D : va_G) (aK : Nat → ClassId) (b N0 L : Nat) (xs : Nat → Int32) (nL : Nat) (st0 : ab_S) (r : ab_R) (M : ab_M) (pc : Nat) (vs stk : List Value) (st : ab_S) : Prop :=
  ∃ sl, ab_look (mL M) pc = some sl ∧ sl.length = vs.length ∧ Snd p l e R s m args below meth c Q D aK b N0 L xs nL st0 r pc (sl.zip vs) stk st
theorem snd_walk {M : ab_M} {init : Bool} (X : Cx p s m args c cc own nL D aK b N0 L xs) (hN : nL = mN M) (hin : init = true → meth.name = "<init>") (hM : mok l cc own init R.frames R.locals M) (hR : (sH r.2).length - (sH st0).length ≤ R.cells ∧ nsl (sH r.2) - nsl (sH st0) ≤ R.slots) (hret : Rets p l e R s m args below meth c Q D aK b N0 L xs cc (mR M) st0 r)
    {Lf : ab_F} (hL : ∀ pc vs stk st, Lf pc vs stk st = some r → SndL p l e R s m args below meth c Q D aK b N0 L xs nL st0 r M pc vs stk st) : ∀ (f pc : Nat) (ls : ab_L) (stk : List Value) (st : ab_S), ab_walk M Lf f pc ls stk st = some r → Snd p l e R s m args below meth c Q D aK b N0 L xs nL st0 r pc ls stk st
  | 0, _, _, _, _, h => by cases h
  | f + 1, pc, ls, stk, st, h => by
    unfold ab_walk at h
    split at h
    · next ins n x t hl =>
      obtain ⟨h1, h2, h3⟩ := hM.1 _ (ab_look_mem hl)
      refine snd_exec X hN hin hM hR hret (K := ab_jmp M Lf (ab_walk M Lf f)) (fun pc2 ls2 stk2 st2 h4 => ?_) h1 h2 h3 h
      unfold ab_jmp at h4
      split at h4
      · next sl hsl =>
        split at h4
        · next vs hvs =>
          obtain ⟨sl', g1, g2, g3, g4⟩ := hL _ _ _ _ h4
          cases hsl.symm.trans g1
          exact ⟨g3, fun he => go_sub (pick_mem hvs).2 (g4 he)⟩
        · cases h4
      · exact snd_walk X hN hin hM hR hret hL f pc2 ls2 stk2 st2 h4
    · cases h
theorem snd_from {M : ab_M} {init : Bool} (X : Cx p s m args c cc own nL D aK b N0 L xs) (hN : nL = mN M) (hin : init = true → meth.name = "<init>") (hM : mok l cc own init R.frames R.locals M) (hR : (sH r.2).length - (sH st0).length ≤ R.cells ∧ nsl (sH r.2) - nsl (sH st0) ≤ R.slots) (hret : Rets p l e R s m args below meth c Q D aK b N0 L xs cc (mR M) st0 r)
    {Lf : ab_F} (hL : ∀ pc vs stk st, Lf pc vs stk st = some r → SndL p l e R s m args below meth c Q D aK b N0 L xs nL st0 r M pc vs stk st) {pc : Nat} {vs stk : List Value} {st : ab_S} (h : ab_from M Lf pc vs stk st = some r) : SndL p l e R s m args below meth c Q D aK b N0 L xs nL st0 r M pc vs stk st := by
  unfold ab_from at h
  split at h
  · next sl hsl =>
    split at h
    · next hq => exact ⟨sl, hsl, Nat.eq_of_beq_eq_true hq, snd_walk X hN hin hM hR hret hL _ _ _ _ _ h⟩
    · cases h
  · cases h
theorem snd_run {M : ab_M} {init : Bool} (X : Cx p s m args c cc own nL D aK b N0 L xs) (hN : nL = mN M) (hin : init = true → meth.name = "<init>") (hM : mok l cc own init R.frames R.locals M) (hR : (sH r.2).length - (sH st0).length ≤ R.cells ∧ nsl (sH r.2) - nsl (sH st0) ≤ R.slots) (hret : Rets p l e R s m args below meth c Q D aK b N0 L xs cc (mR M) st0 r) : ∀ (f pc : Nat) (vs stk : List Value) (st : ab_S), ab_run M f pc vs stk st = some r → SndL p l e R s m args below meth c Q D aK b N0 L xs nL st0 r M pc vs stk st
  | 0, _, _, _, _, h => by cases h
  | f + 1, pc, vs, stk, st, h => snd_from X hN hin hM hR hret (snd_run X hN hin hM hR hret f) h
end SD
/-! cells only come -/
def pe (st : ab_S) (G : ab_K → Option ab_R) : Prop := ∀ K r, (∀ pc ls stk st', K pc ls stk st' = some r → ext st' r.2) → G K = some r → ext st r.2
theorem pe_one {st st' : ab_S} {pc : Nat} {ls : ab_L} {stk : List Value} (h : ext st st') : pe st (fun K => K pc ls stk st') := fun _ _ hK hr => ext_trans h (hK _ _ _ _ hr)
theorem pe_none {st : ab_S} : pe st (fun _ => none) := fun _ _ _ h => by cases h
theorem pe_ite {st : ab_S} {c : Prop} [Decidable c] {A B : ab_K → Option ab_R} (ha : pe st A) (hb : pe st B) : pe st (fun K => if c then A K else B K) := by
  by_cases h : c
  · simpa [h] using ha
  · simpa [h] using hb
theorem pe_bind {st : ab_S} {α : Type} {o : Option α} {A : ab_K → α → Option ab_R} (h : ∀ x, o = some x → pe st (fun K => A K x)) : pe st (fun K => o.bind (A K)) := by
  cases o with
  | none => exact pe_none
  | some x => exact h x rfl
theorem pe_i {st : ab_S} {stk : List Value} {A : ab_K → Int32 → List Value → Option ab_R} (h : ∀ x r, pe st (fun K => A K x r)) : pe st (fun K => tk_i stk (A K)) := by
  unfold tk_i; split <;> first | exact h _ _ | exact pe_none
theorem pe_l {st : ab_S} {stk : List Value} {A : ab_K → Int64 → List Value → Option ab_R} (h : ∀ x r, pe st (fun K => A K x r)) : pe st (fun K => tk_l stk (A K)) := by
  unfold tk_l; split <;> first | exact h _ _ | exact pe_none
theorem pe_r {st : ab_S} {stk : List Value} {A : ab_K → Nat → List Value → Option ab_R} (h : ∀ x r, pe st (fun K => A K x r)) : pe st (fun K => tk_r stk (A K)) := by
  unfold tk_r; split <;> first | exact h _ _ | exact pe_none
theorem pe_ii {st : ab_S} {stk : List Value} {A : ab_K → Int32 → Int32 → List Value → Option ab_R} (h : ∀ x y r, pe st (fun K => A K x y r)) : pe st (fun K => tk_ii stk (A K)) := by
  unfold tk_ii; split <;> first | exact h _ _ _ | exact pe_none
theorem pe_ll {st : ab_S} {stk : List Value} {A : ab_K → Int64 → Int64 → List Value → Option ab_R} (h : ∀ x y r, pe st (fun K => A K x y r)) : pe st (fun K => tk_ll stk (A K)) := by
  unfold tk_ll; split <;> first | exact h _ _ _ | exact pe_none
theorem pe_li {st : ab_S} {stk : List Value} {A : ab_K → Int64 → Int32 → List Value → Option ab_R} (h : ∀ x y r, pe st (fun K => A K x y r)) : pe st (fun K => tk_li stk (A K)) := by
  unfold tk_li; split <;> first | exact h _ _ _ | exact pe_none
theorem pe_ri {st : ab_S} {stk : List Value} {A : ab_K → Nat → Int32 → List Value → Option ab_R} (h : ∀ x y r, pe st (fun K => A K x y r)) : pe st (fun K => tk_ri stk (A K)) := by
  unfold tk_ri; split <;> first | exact h _ _ _ | exact pe_none
theorem pe_rl {st : ab_S} {stk : List Value} {A : ab_K → Nat → Int64 → List Value → Option ab_R} (h : ∀ x y r, pe st (fun K => A K x y r)) : pe st (fun K => tk_rl stk (A K)) := by
  unfold tk_rl; split <;> first | exact h _ _ _ | exact pe_none
theorem pe_rr {st : ab_S} {stk : List Value} {A : ab_K → Nat → Nat → List Value → Option ab_R} (h : ∀ x y r, pe st (fun K => A K x y r)) : pe st (fun K => tk_rr stk (A K)) := by
  unfold tk_rr; split <;> first | exact h _ _ _ | exact pe_none
theorem pe_rii {st : ab_S} {stk : List Value} {A : ab_K → Nat → Int32 → Int32 → List Value → Option ab_R} (h : ∀ x y z r, pe st (fun K => A K x y z r)) : pe st (fun K => tk_rii stk (A K)) := by
  unfold tk_rii; split <;> first | exact h _ _ _ _ | exact pe_none
theorem pe_ril {st : ab_S} {stk : List Value} {A : ab_K → Nat → Int32 → Int64 → List Value → Option ab_R} (h : ∀ x y z r, pe st (fun K => A K x y z r)) : pe st (fun K => tk_ril stk (A K)) := by
  unfold tk_ril; split <;> first | exact h _ _ _ _ | exact pe_none
theorem pe_rir {st : ab_S} {stk : List Value} {A : ab_K → Nat → Int32 → Nat → List Value → Option ab_R} (h : ∀ x y z r, pe st (fun K => A K x y z r)) : pe st (fun K => tk_rir stk (A K)) := by
  unfold tk_rir; split <;> first | exact h _ _ _ _ | exact pe_none
theorem pe_di {st : ab_S} {ls : ab_L} {i : Nat} {A : ab_K → Int32 → Option ab_R} (h : ∀ x, pe st (fun K => A K x)) : pe st (fun K => ld_i ls i (A K)) := by
  unfold ld_i; split <;> first | exact h _ | exact pe_none
theorem pe_dl {st : ab_S} {ls : ab_L} {i : Nat} {A : ab_K → Int64 → Option ab_R} (h : ∀ x, pe st (fun K => A K x)) : pe st (fun K => ld_l ls i (A K)) := by
  unfold ld_l; split <;> first | exact h _ | exact pe_none
theorem pe_dr {st : ab_S} {ls : ab_L} {i : Nat} {A : ab_K → Nat → Option ab_R} (h : ∀ x, pe st (fun K => A K x)) : pe st (fun K => ld_r ls i (A K)) := by
  unfold ld_r; split <;> first | exact h _ | exact pe_none
theorem pe_lt {st : ab_S} {i n : Nat} {A : ab_K → Option ab_R} (h : pe st A) : pe st (fun K => ab_lt i n (A K)) := by
  unfold ab_lt; split <;> first | exact h | exact pe_none
theorem pe_sw {st : ab_S} {x : Int32} {A : ab_K → Nat → Option ab_R} {d : Nat} (h : ∀ t, pe st (fun K => A K t)) : ∀ cs, pe st (fun K => ab_sw x (A K) d cs)
  | [] => h d
  | q :: r => pe_ite (c := x = q.1) (h q.2) (pe_sw h r)
theorem pe_getf {st : ab_S} {F : Option (Nat × Nat × Nat)} {o : Nat} {A : ab_K → Value → Option ab_R} (h : ∀ x, pe st (fun K => A K x)) : pe st (fun K => ab_getf F o st (A K)) := by
  unfold ab_getf; split <;> first | exact pe_bind (fun x _ => h _) | exact pe_none
theorem pI_sH {st t : ab_S} {o c k : Nat} {v : Int32} (h : ab_pI st o c k v = some t) : ext st t := by
  unfold ab_pI at h; split at h
  · cases h; exact ext_eq rfl
  · cases h
theorem pZ_sH {st t : ab_S} {o c k : Nat} {v : Int32} (h : ab_pZ st o c k v = some t) : ext st t := by
  unfold ab_pZ at h; split at h
  · cases h; exact ext_eq rfl
  · cases h
theorem pJ_sH {st t : ab_S} {o c k : Nat} {v : Int64} (h : ab_pJ st o c k v = some t) : ext st t := by
  unfold ab_pJ at h; split at h
  · cases h; exact ext_eq rfl
  · cases h
theorem pR_sH {st t : ab_S} {o c k v : Nat} (h : ab_pR st o c k v = some t) : ext st t := by
  unfold ab_pR at h; split at h
  · cases h; exact ext_eq rfl
  · cases h
theorem mo_sH {st t : ab_S} {q : Nat × Nat} (h : ab_mo st q = some t) : ext st t := by
  unfold ab_mo at h; split at h
  · cases h
  · cases h; exact ext_mk
theorem rows_ext {st : ab_S} {a k : Nat} : ∀ n, ext st (ab_rows st a k n)
  | 0 => ext_rfl
  | n + 1 => ext_trans (rows_ext n) (ext_trans (ext_mk (h := (1, k))) (ext_eq rfl))
theorem mm_sH {st t : ab_S} {a b : Int32} (h : ab_mm st a b = some t) : ext st t := by
  unfold ab_mm at h; split at h
  · cases h
  · cases h; exact ext_trans ext_mk (rows_ext _)
theorem pe_putf {st : ab_S} {F : Option (Nat × Nat × Nat)} {stk : List Value} {A : ab_K → List Value → ab_S → Option ab_R} (h : ∀ r t, ext st t → pe st (fun K => A K r t)) : pe st (fun K => ab_putf F stk st (A K)) := by
  unfold ab_putf
  split
  · exact pe_ri (fun o v r => pe_bind (fun t ht => h r t (pI_sH ht)))
  · exact pe_ri (fun o v r => pe_bind (fun t ht => h r t (pZ_sH ht)))
  · exact pe_rl (fun o v r => pe_bind (fun t ht => h r t (pJ_sH ht)))
  · exact pe_rr (fun o v r => pe_bind (fun t ht => h r t (pR_sH ht)))
  · exact pe_none
theorem pe_newn {st : ab_S} {n : Int32} {kd : Nat} {A : ab_K → Nat → ab_S → Option ab_R} (h : ∀ o t, ext st t → pe st (fun K => A K o t)) : pe st (fun K => ab_newn st n kd (A K)) := by
  unfold ab_newn; split <;> first | exact pe_bind (fun t ht => h _ t (mo_sH ht)) | exact pe_none
def ab_ext (g : ab_G) : Prop := ∀ as st k r, g as st k = some r → ∃ rs st', k rs st' = some r ∧ ext st st'
theorem pe_call {st : ab_S} {C : Option ab_C} {kd : Nat} {stk : List Value} {A : ab_K → List Value → List Value → ab_S → Option ab_R} (hC : ∀ q, C = some q → ab_ext q.2.2) (h : ∀ rs r t, pe t (fun K => A K rs r t)) : pe st (fun K => ab_call C kd stk st (A K)) := by
  unfold ab_call
  split
  · next kd' n f =>
    split
    · intro K r hK hr
      obtain ⟨rs, st', h2, h3⟩ := hC _ rfl _ _ _ _ hr
      exact ext_trans h3 (h rs (stk.drop n) st' K r hK h2)
    · exact pe_none
  · exact pe_none
def ab_extM (M : ab_M) : Prop := ∀ q ∈ mG M, ab_ext q.2.2.2
theorem mok_ext {l : Launch} {cc : ByteArray} {own : String} {init : Bool} {fr lo : Nat} {M : ab_M} (h : mok l cc own init fr lo M) : ab_extM M := by
  intro q hq as st k r hr
  rcases h.2.2 q hq with hG | ⟨hg, -⟩ | ⟨-, -, -, hm⟩
  · obtain ⟨y, bytes, maxL, ret, fr', lo', ci, -, -, -, -, -, -, hspec⟩ := hG
    obtain ⟨-, -, rs, st', hk, -, hext, -⟩ := hspec _ _ _ _ hr
    exact ⟨rs, st', hk, hext⟩
  · rw [hg] at hr
    unfold g_obj at hr
    split at hr
    · split at hr
      · cases hr
      · exact ⟨_, _, hr, ext_rfl⟩
    · cases hr
  · rcases hm with ⟨hg, -⟩ | ⟨hg, -⟩ | ⟨hg, -⟩ | ⟨hg, -⟩ <;> rw [hg] at hr
    · unfold g_max at hr
      split at hr
      · exact ⟨_, _, hr, ext_rfl⟩
      · cases hr
    · unfold g_min at hr
      split at hr
      · exact ⟨_, _, hr, ext_rfl⟩
      · cases hr
    · unfold g_abs at hr
      split at hr
      · exact ⟨_, _, hr, ext_rfl⟩
      · cases hr
    · unfold g_minl at hr
      split at hr
      · exact ⟨_, _, hr, ext_rfl⟩
      · cases hr
set_option maxHeartbeats 4000000 in
theorem pe_exec {M : ab_M} (hM : ab_extM M) {pc : Nat} {ls : ab_L} {stk : List Value} {st : ab_S} {ins : Instr} {n : Nat} {x : Value} {t : Nat} : pe st (fun K => ab_exec M K pc ls stk st ins n x t) := by
  have hC : ∀ i q, ab_look (mG M) i = some q → ab_ext q.2.2 := fun i q h => hM _ (ab_look_mem h)
  unfold ab_exec
  split <;> first
    | exact pe_one ext_rfl
    | exact pe_none
    | exact pe_di (fun _ => pe_one ext_rfl)
    | exact pe_dl (fun _ => pe_one ext_rfl)
    | exact pe_dr (fun _ => pe_one ext_rfl)
    | exact pe_lt (pe_i (fun _ _ => pe_one ext_rfl))
    | exact pe_lt (pe_l (fun _ _ => pe_one ext_rfl))
    | exact pe_lt (pe_r (fun _ _ => pe_one ext_rfl))
    | exact pe_i (fun _ _ => pe_one ext_rfl)
    | exact pe_l (fun _ _ => pe_one ext_rfl)
    | exact pe_r (fun _ _ => pe_one ext_rfl)
    | exact pe_ii (fun _ _ _ => pe_one ext_rfl)
    | exact pe_ll (fun _ _ _ => pe_one ext_rfl)
    | exact pe_li (fun _ _ _ => pe_one ext_rfl)
    | exact pe_ri (fun _ _ _ => pe_one ext_rfl)
    | exact pe_ii (fun _ _ _ => pe_ite (pe_one ext_rfl) (pe_one ext_rfl))
    | exact pe_ii (fun _ _ _ => pe_bind (fun _ h => pe_one (mm_sH h)))
    | exact pe_i (fun _ _ => pe_ite (pe_one ext_rfl) (pe_one ext_rfl))
    | exact pe_r (fun _ _ => pe_ite (pe_one ext_rfl) (pe_one ext_rfl))
    | exact pe_r (fun _ _ => pe_getf (fun _ => pe_one ext_rfl))
    | exact pe_putf (fun _ _ h => pe_one h)
    | exact pe_ri (fun _ _ _ => pe_bind (fun _ _ => pe_one ext_rfl))
    | exact pe_rii (fun _ _ _ _ => pe_bind (fun _ h => pe_one (ext_eq (wI_sH h))))
    | exact pe_rii (fun _ _ _ _ => pe_bind (fun _ h => pe_one (ext_eq (wB_sH h))))
    | exact pe_ril (fun _ _ _ _ => pe_bind (fun _ h => pe_one (ext_eq (wJ_sH h))))
    | exact pe_rir (fun _ _ _ _ => pe_bind (fun _ h => pe_one (ext_eq (wR_sH h))))
    | exact pe_r (fun _ _ => pe_bind (fun _ _ => pe_one ext_rfl))
    | exact pe_i (fun _ _ => pe_newn (fun _ _ h => pe_one h))
    | exact pe_call (fun q h => hC _ q h) (fun _ _ _ => pe_one ext_rfl)
    | (split <;> first | exact pe_none | exact pe_bind (fun _ h => pe_one (mo_sH h)) | exact pe_one ext_rfl | exact pe_i (fun _ _ => pe_sw (fun _ => pe_one ext_rfl) _) | exact pe_i (fun _ _ => pe_newn (fun _ _ h => pe_one h)))
    | exact pe_lt (pe_di (fun _ => by split <;> first | exact pe_one ext_rfl | exact pe_none))
    | (intro K r _ h; obtain ⟨v, -, rfl, -⟩ := ab_ret_e h; exact ext_rfl)
    | (intro K r _ h; obtain ⟨v, -, rfl, -⟩ := ab_retl_e h; exact ext_rfl)
    | (intro K r _ h; obtain ⟨v, -, rfl, -⟩ := ab_retr_e h; exact ext_rfl)
    | (intro K r _ h; obtain ⟨-, rfl, -⟩ := ab_retv_e h; exact ext_rfl)
theorem walk_ext {M : ab_M} (hM : ab_extM M) {Lf : ab_F} {r : ab_R} (hL : ∀ pc vs stk st, Lf pc vs stk st = some r → ext st r.2) : ∀ (f pc : Nat) (ls : ab_L) (stk : List Value) (st : ab_S), ab_walk M Lf f pc ls stk st = some r → ext st r.2
  | 0, _, _, _, _, h => by cases h
  | f + 1, pc, ls, stk, st, h => by
    unfold ab_walk at h
    split at h
    · refine pe_exec hM _ _ (fun pc2 ls2 stk2 st2 h4 => ?_) h
      unfold ab_jmp at h4
      split at h4
      · split at h4
        · exact hL _ _ _ _ h4
        · cases h4
      · exact walk_ext hM hL f _ _ _ _ h4
    · cases h
theorem run_ext {M : ab_M} (hM : ab_extM M) {r : ab_R} : ∀ (f pc : Nat) (vs stk : List Value) (st : ab_S), ab_run M f pc vs stk st = some r → ext st r.2
  | 0, _, _, _, _, h => by cases h
  | f + 1, pc, vs, stk, st, h => by
    have h : ab_from M (ab_run M f) pc vs stk st = some r := h
    unfold ab_from at h
    split at h
    · split at h
      · exact walk_ext hM (run_ext hM f) _ _ _ _ _ h
      · cases h
    · cases h
def ab_slots : Nat → List Value → List Nat
  | _, [] => []
  | i, v :: vs => i :: ab_slots (if v.category = 2 then i + 2 else i + 1) vs
theorem slots_args (b N0 : Nat) : ∀ (as : List Value) (i : Nat), lv_args i (as.map (cv b N0)) = ((ab_slots i as).zip as).map (fun q => (q.1, cv b N0 q.2))
  | [], _ => rfl
  | v :: vs, i => by
    simp only [List.map_cons, lv_args, ab_slots, List.zip_cons_cons, cv_cat, slots_args b N0 vs]
theorem sl_len (b N0 : Nat) : ∀ (as : List Value), (lg_sl (as.map (cv b N0))).length = ab_sum as
  | [] => rfl
  | v :: vs => by
    have h := sl_len b N0 vs
    have e : lg_sl ((v :: vs).map (cv b N0)) = (if (cv b N0 v).category = 2 then [.val (cv b N0 v), .second] else [.val (cv b N0 v)]) ++ lg_sl (vs.map (cv b N0)) := by
      unfold lg_sl
      rw [List.map_cons, List.flatMap_cons]
    rw [e, List.length_append, h, cv_cat]
    show _ = v.category + ab_sum vs
    rcases lv_cat v with hc | hc
    · rw [if_neg (by omega), hc]; rfl
    · rw [if_pos hc, hc]; rfl
def retok (kd : Nat) (ret : Option FieldType) : Prop := (kd = 0 ∧ ret = none) ∨ (kd = 1 ∧ ret = some .int) ∨ (kd = 2 ∧ ret = some .boolean) ∨ (kd = 3 ∧ ret = some .long) ∨ (kd = 4 ∧ ∃ C, ret = some (.object C))
/-- a method's contract out of its answer -/
theorem ct_of {l : Launch} {M : ab_M} {y : MethodName} {cc : ByteArray} {maxL : Nat} {ret : Option FieldType} {init : Bool} {fr lo : Nat} (hone : ab_oneM M) (hok : mok l cc y.cls init fr lo M) (hN : maxL = mN M) (hy : plainName y.cls = true) (hin : init = true → y.name = "<init>") (hrt : retok (mR M) ret)
    {as : List Value} {st st' : ab_S} {rs : List Value} {v : Option Value} (hv : v = rs.head?) (hrl : rs.length ≤ 1) (hlab : ab_look (mL M) 0 = some (ab_slots 0 as)) (hsum : ab_sum as ≤ maxL) (h : ab_lim M 0 as [] st = some (v, st')) : ext st st' ∧ ct l y cc maxL ret fr lo as st rs st' := by
  obtain ⟨f, hf⟩ := (lm_iff hone).mp h
  have hext : ext st st' := run_ext (mok_ext hok) f 0 as [] st hf
  refine ⟨hext, ?_⟩
  intro D aK b N0 L xs
  refine Met.ofW (cc := cc) (maxL := maxL) (ret := ret) hy rfl ?_
  intro p e s m args below meth c s₁ B hml hP
  obtain ⟨rfl, hrp, hrk⟩ := hP
  have hx := B.exec
  have hb := B.bytes
  have hr := B.returns
  have hts := atoms_spec (ws := .code y cc maxL ret :: ab_ws) B.pre
  have hown : s.vm.findClass y.cls = some m.cls := findClass_of_methodNamed B.named
  have hlocks := B.notSynchronized
  have X : Cx p s m (as.map (cv b N0)).toArray c cc y.cls maxL D aK b N0 L xs := ⟨hx, hb, hml, hown, fun w hw => hts w (List.mem_cons_of_mem _ hw), hrk⟩
  have hin2 : init = true → meth.name = "<init>" := fun h => (name_of_methodNamed B.named B.method).1.trans (hin h)
  have hret : Rets p l e (headSpec (.code y cc maxL ret :: ab_ws) { frames := fr, cells := (sH st').length - (sH st).length, slots := nsl (sH st') - nsl (sH st), locals := lo }).room s m (as.map (cv b N0)).toArray below meth c (MQ below (ct_Q D aK b N0 L xs rs st') (as.map (cv b N0)).toArray s ((sH st').length - (sH st).length) (nsl (sH st') - nsl (sH st)) (fun q => N0 ≤ q)) D aK b N0 L xs cc (mR M) st (v, st') := by
    intro pc H locs lsA hrtn hrp' hS'
    have hq : ∀ (w : Option Value), w = v.map (cv b N0) → ∀ t : State, t.heap = H → s.WarmedH t.vm → ct_Q D aK b N0 L xs rs st' (as.map (cv b N0)).toArray s (.returned w) t := by
      intro w hw t ht _
      refine ⟨?_, by rw [ht]; exact hrp', hS'.F ht⟩
      rw [hw, hv]
      cases rs <;> rfl
    rcases hrtn with ⟨h1, h2, h3⟩ | ⟨x, h1, h2, h3⟩ | ⟨x, h1, h2, h3⟩ | ⟨x, h1, h2, h3⟩
    · have h1 : v = none := h1
      subst h1
      have hr2 : meth.sig.returnType = none := by rw [hr]; rcases hrt with h | h | h | h | h <;> first | exact h.2 | (have := h.1; omega)
      exact W.vret hx hb hr2 (hq none rfl) hS'.2.2 h3
    · have h1 : v = some (.int x) := h1
      subst h1
      rcases h2 with h2 | ⟨h2, hz⟩
      · have hr2 : meth.sig.returnType = some .int := by rw [hr]; rcases hrt with h | h | h | h | h <;> first | exact h.2 | (have := h.1; omega)
        exact W.iret hx hb hr2 (hq (some (.int x)) rfl) hS'.2.2 h3
      · have hr2 : meth.sig.returnType = some .boolean := by rw [hr]; rcases hrt with h | h | h | h | h <;> first | exact h.2 | (have := h.1; omega)
        exact W.zret hx hb hr2 (by rcases hz with rfl | rfl <;> decide) (hq (some (.int x)) rfl) hS'.2.2 h3
    · have h1 : v = some (.long x) := h1
      subst h1
      have hr2 : meth.sig.returnType = some .long := by rw [hr]; rcases hrt with h | h | h | h | h <;> first | exact h.2 | (have := h.1; omega)
      exact W.lret hx hb hr2 (hq (some (.long x)) rfl) hS'.2.2 h3
    · have h1 : v = some (.ref x) := h1
      subst h1
      obtain ⟨C, hC⟩ : ∃ C, ret = some (.object C) := by rcases hrt with h | h | h | h | h <;> first | exact h.2 | (have := h.1; omega)
      exact W.aret hx hb (hr.trans hC) (Or.inl ⟨C, rfl⟩) (va_rf_or _) (hq (some (cv b N0 (.ref x))) rfl) hS'.2.2 h3
  obtain ⟨sl, g1, g2, -, g4⟩ := snd_run X hN hin2 hok ⟨Nat.le_refl _, Nat.le_refl _⟩ hret f 0 as [] st hf
  cases hlab.symm.trans g1
  have hl := lv_entry (as.map (cv b N0)) (n := maxL) (by rw [sl_len]; exact hsum)
  rw [lg_entry_eq]
  have := g4 ext_rfl s.heap [] _ hrp va_S.rf (by rw [← slots_args]; exact hl)
  rw [Nat.sub_self, Nat.sub_self] at this
  exact this
/-! checks by program, and callees -/
def ab_okC (cc : ByteArray) (own : String) (init : Bool) (M : ab_M) : Bool := (mC M).all (fun q => decide (decode cc q.1 = .ok (q.2.1, q.2.2.1)) && (ab_chk q.1 q.2.1 q.2.2.1 q.2.2.2.1 q.2.2.2.2 && ab_chk2 own init M q.1 q.2.1 q.2.2.2.1))
theorem okC_e {cc : ByteArray} {own : String} {init : Bool} {M : ab_M} (h : ab_okC cc own init M = true) : ∀ q ∈ mC M, decode cc q.1 = .ok (q.2.1, q.2.2.1) ∧ ab_chk q.1 q.2.1 q.2.2.1 q.2.2.2.1 q.2.2.2.2 = true ∧ ab_chk2 own init M q.1 q.2.1 q.2.2.2.1 = true := by
  intro q hq
  have h1 := List.all_eq_true.mp h q hq
  simp only [Bool.and_eq_true, decide_eq_true_eq] at h1
  exact h1
def ab_okF (own : String) (M : ab_M) : Bool := (mF M).all (fun q => fok own q.1 q.2.1 q.2.2.1 q.2.2.2)
theorem okF_e {own : String} {M : ab_M} (h : ab_okF own M = true) : ∀ q ∈ mF M, fok own q.1 q.2.1 q.2.2.1 q.2.2.2 = true := fun q hq => List.all_eq_true.mp h q hq
/-- of a callee alone -/
def ab_okY (y : MethodName) (bytes : ByteArray) (maxL : Nat) (ret : Option FieldType) (kd n ci : Nat) : Bool := decide (Cond.code y bytes maxL ret ∈ ab_ws) && (decide (Cond.initialized y.cls ∈ ab_ws) && (decide (y.cls ≠ "java/lang/invoke/MethodHandle") && (decide (y.cls ≠ "java/lang/invoke/VarHandle") && (decide ((parseMethodDescriptor y.desc).map (fun d => d.parameters.length) = some (if kd = 0 then n else n - 1)) &&
  (match kd with
  | 0 => decide (Cond.static y ∈ ab_ws)
  | 1 => decide (Cond.instanceMethod y ∈ ab_ws) && (decide (Cond.selects y.cls y y ∈ ab_ws) && decide ((ab_cl[ci]?).map (fun q => q.1) = some y.cls))
  | 2 => decide (y.name = "<init>") && (decide (ret = none) && decide (Cond.instanceMethod y ∈ ab_ws))
  | _ => false)))))
def ab_okK (own : String) (i kd : Nat) (y : MethodName) : Bool := decide (Cond.methodLink own i y ∈ ab_ws) || (decide (kd = 2) && decide (Cond.methodLinkNest own i y "TermMachine" ∈ ab_nw))
/-- what a callee does -/
def ab_spec (l : Launch) (y : MethodName) (bytes : ByteArray) (maxL : Nat) (ret : Option FieldType) (fr lo kd n ci : Nat) (g : ab_G) : Prop := ∀ as st k r, g as st k = some r → as.length = n ∧ (kd ≠ 0 → ∃ o as', as = .ref o :: as' ∧ (sH st)[o]? = some (0, ci)) ∧ ∃ rs st', k rs st' = some r ∧ rs.length ≤ 1 ∧ ext st st' ∧ ct l y bytes maxL ret fr lo as st rs st'
theorem cee_of {l : Launch} {y : MethodName} {bytes : ByteArray} {maxL : Nat} {ret : Option FieldType} {fr lo fr' lo' kd n ci i : Nat} {own : String} {g : ab_G} (hy : ab_okY y bytes maxL ret kd n ci = true) (hk : ab_okK own i kd y = true) (hs : ab_spec l y bytes maxL ret fr' lo' kd n ci g) (hr : (Nat.ble (fr' + 1) fr && Nat.ble (8 + (maxL + 11) + lo') lo) = true) : cee l fr lo own i kd n g := by
  unfold ab_okY at hy
  unfold ab_okK at hk
  simp only [Bool.and_eq_true, Bool.or_eq_true, decide_eq_true_eq] at hy hk hr
  obtain ⟨h1, h2, h3, h4, h5, h6⟩ := hy
  refine ⟨y, bytes, maxL, ret, fr', lo', ci, h1, h2, ⟨h3, h4, h5⟩, Nat.le_of_ble_eq_true hr.1, Nat.le_of_ble_eq_true hr.2, ?_, hs⟩
  match kd, h6 with
  | 0, h6 =>
    have h6 : decide (Cond.static y ∈ ab_ws) = true := h6
    rcases hk with hk | ⟨hk, hk2⟩
    · exact Or.inl ⟨rfl, hk, of_decide_eq_true h6⟩
    · cases hk
  | 1, h6 =>
    have h6 : (decide (Cond.instanceMethod y ∈ ab_ws) && (decide (Cond.selects y.cls y y ∈ ab_ws) && decide ((ab_cl[ci]?).map (fun q => q.1) = some y.cls))) = true := h6
    simp only [Bool.and_eq_true, decide_eq_true_eq] at h6
    obtain ⟨q, hq, hq2⟩ := Option.map_eq_some_iff.mp h6.2.2
    rcases hk with hk | ⟨hk, hk2⟩
    · exact Or.inr (Or.inl ⟨rfl, hk, h6.1, h6.2.1, q, hq, hq2⟩)
    · cases hk
  | 2, h6 =>
    have h6 : (decide (y.name = "<init>") && (decide (ret = none) && decide (Cond.instanceMethod y ∈ ab_ws))) = true := h6
    simp only [Bool.and_eq_true, decide_eq_true_eq] at h6
    exact Or.inr (Or.inr ⟨rfl, hk.imp id (fun q => q.2), h6.1, h6.2.1, h6.2.2⟩)
  | n + 3, h6 => cases h6
theorem rv_e {r0 : Option ab_R} {k : ab_S → Option ab_R} {r : ab_R} (h : ab_rv r0 k = some r) : ∃ t, r0 = some (none, t) ∧ k t = some r := by
  obtain ⟨⟨v, t⟩, h1, h2⟩ := Option.bind_eq_some_iff.mp h
  cases v with
  | none => exact ⟨t, h1, h2⟩
  | some v => cases h2
theorem ri_e {r0 : Option ab_R} {k : Int32 → ab_S → Option ab_R} {r : ab_R} (h : ab_ri r0 k = some r) : ∃ x t, r0 = some (some (.int x), t) ∧ k x t = some r := by
  obtain ⟨⟨v, t⟩, h1, h2⟩ := Option.bind_eq_some_iff.mp h
  cases v with
  | none => cases h2
  | some v => cases v <;> first | exact ⟨_, t, h1, h2⟩ | cases h2
theorem rl_e {r0 : Option ab_R} {k : Int64 → ab_S → Option ab_R} {r : ab_R} (h : ab_rl r0 k = some r) : ∃ x t, r0 = some (some (.long x), t) ∧ k x t = some r := by
  obtain ⟨⟨v, t⟩, h1, h2⟩ := Option.bind_eq_some_iff.mp h
  cases v with
  | none => cases h2
  | some v => cases v <;> first | exact ⟨_, t, h1, h2⟩ | cases h2
theorem rr_e {r0 : Option ab_R} {k : Nat → ab_S → Option ab_R} {r : ab_R} (h : ab_rr r0 k = some r) : ∃ x t, r0 = some (some (.ref x), t) ∧ k x t = some r := by
  obtain ⟨⟨v, t⟩, h1, h2⟩ := Option.bind_eq_some_iff.mp h
  cases v with
  | none => cases h2
  | some v => cases v <;> first | exact ⟨_, t, h1, h2⟩ | cases h2
theorem rc_e {st : ab_S} {o c : Nat} {r0 : Option ab_R} {r : ab_R} (h : ab_rc st o c r0 = some r) : (sH st)[o]? = some (0, c) ∧ r0 = some r := by
  unfold ab_rc at h
  split at h
  · next hs => exact ⟨hs, h⟩
  · cases h
