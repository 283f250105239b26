/-! ONE INSTRUCTION: soundness -/
def ab_chk2 (own : String) (init : Bool) (M : ab_M) (pc : Nat) (ins : Instr) (x : Value) : Bool := match ins with
  | .ldc i => match x with
    | .int v => decide (Cond.constant own i v ∈ ab_ws)
    | _ => false
  | .ldc2_w i => match x with
    | .long v => decide (Cond.constantLong own i v ∈ ab_ws)
    | _ => false
  | .putfield i => match ab_look (mF M) i with
    | some (ci, k, _) => pok own init i ci k
    | none => true
  | .new i => match ab_look (mK M) i with
    | some ci => kok own i ci
    | none => true
  | .anewarray i => match ab_look (mK M) i with
    | some ci => akok own i ci
    | none => true
  | .tableswitch d lo hi offs => match ab_look (mS M) pc with
    | some (cs, dd) => tchk pc cs offs.toList lo && (decide (hi + 1 = lo + (offs.size : Int)) && decide ((pc : Int) + d = (dd : Int)))
    | none => true
  | .lookupswitch d ps => match ab_look (mS M) pc with
    | some (cs, dd) => lchk pc cs ps.toList && ((ps.toList.zip (ps.toList.drop 1)).all (fun (a, next) => a.1 < next.1) && decide ((pc : Int) + d = (dd : Int)))
    | none => true
  | .multianewarray i d => decide (d = 2) && decide (Cond.classLink own i "[[I" ∈ ab_ws)
  | _ => true
/-- a method's tables are right -/
def mok (l : Launch) (cc : ByteArray) (own : String) (init : Bool) (fr lo : Nat) (M : ab_M) : Prop :=
  (∀ q ∈ mC M, decode cc q.1 = .ok (q.2.1, q.2.2.1) ∧ ab_chk q.1 q.2.1 q.2.2.1 q.2.2.2.1 q.2.2.2.2 = true ∧ ab_chk2 own init M q.1 q.2.1 q.2.2.2.1 = true) ∧ (∀ q ∈ mF M, fok own q.1 q.2.1 q.2.2.1 q.2.2.2 = true) ∧ ∀ q ∈ mG M, cee l fr lo own q.1 q.2.1 q.2.2.1 q.2.2.2 ∨ objok fr lo own q.1 q.2.1 q.2.2.1 q.2.2.2 ∨ matok fr lo own q.1 q.2.1 q.2.2.1 q.2.2.2
/-- which return gives which answer -/
def rtn (cc : ByteArray) (kd pc : Nat) (v : Option Value) : Prop := (v = none ∧ kd = 0 ∧ decode cc pc = .ok (.return_, 1)) ∨ (∃ x, v = some (.int x) ∧ (kd = 1 ∨ (kd = 2 ∧ (x = 0 ∨ x = 1))) ∧ decode cc pc = .ok (.ireturn, 1)) ∨ (∃ x, v = some (.long x) ∧ kd = 3 ∧ decode cc pc = .ok (.lreturn, 1)) ∨ ∃ x, v = some (.ref x) ∧ kd = 4 ∧ decode cc pc = .ok (.areturn, 1)
section EX
variable {p : Program} {l : Launch} {e : Env} {R : Room} {s : State} {m : MethodId} {args : Array Value} {below : List Frame} {meth : Method} {c : Code} {Q : State → Prop}
variable {D : va_G} {aK : Nat → ClassId} {b N0 L : Nat} {xs : Nat → Int32} {nL : Nat} {cc : ByteArray} {own : String} {st0 : ab_S} {r : ab_R}
/-- what is said of a place: the rest ends with r, and the machine does so -/
def Snd (p : Program) (l : Launch) (e : Env) (R : Room) (s : State) (m : MethodId) (args : Array Value) (below : List Frame) (meth : Method) (c : Code) (Q : State → Prop) (D : va_G) (aK : Nat → ClassId) (b N0 L : Nat) (xs : Nat → Int32) (nL : Nat) (st0 : ab_S) (r : ab_R) (pc : Nat) (ls : ab_L) (stk : List Value) (st : ab_S) : Prop :=
  ext st r.2 ∧ (ext st0 st → Go p l e R s m args below meth c Q D aK b N0 L xs nL st0 pc ls stk st)
/-- the answer's end -/
def Rets (p : Program) (l : Launch) (e : Env) (R : Room) (s : State) (m : MethodId) (args : Array Value) (below : List Frame) (meth : Method) (c : Code) (Q : State → Prop) (D : va_G) (aK : Nat → ClassId) (b N0 L : Nat) (xs : Nat → Int32) (cc : ByteArray) (kd : Nat) (st0 : ab_S) (r : ab_R) : Prop :=
  ∀ (pc : Nat) (H : Heap) (locs : List Loc) (lsA : Array Slot), rtn cc kd pc r.1 → rp D aK b N0 L xs r.2 H → va_S (fun q => N0 ≤ q) s.heap H locs → W p l e R s m args below meth c H locs ((sH r.2).length - (sH st0).length) (nsl (sH r.2) - nsl (sH st0)) Q (F0 m pc lsA (r.1.toList.map (cv b N0)))
theorem bind_e {α : Type} {o : Option α} {f : α → Option ab_R} (h : o.bind f = some r) : ∃ x, o = some x ∧ f x = some r := Option.bind_eq_some_iff.mp h
theorem ab_ret_e {kd : Nat} {stk : List Value} {st : ab_S} {r : ab_R} (h : ab_ret kd stk st = some r) : ∃ v, stk = [.int v] ∧ r = (some (.int v), st) ∧ (kd = 1 ∨ (kd = 2 ∧ (v = 0 ∨ v = 1))) := by
  unfold ab_ret at h
  split at h
  · cases h; exact ⟨_, rfl, rfl, Or.inl rfl⟩
  · unfold ab_z at h
    split at h
    · next hz => cases h; exact ⟨_, rfl, rfl, Or.inr ⟨rfl, hz⟩⟩
    · cases h
  · cases h
theorem ab_retl_e {kd : Nat} {stk : List Value} {st : ab_S} {r : ab_R} (h : ab_retl kd stk st = some r) : ∃ v, stk = [.long v] ∧ r = (some (.long v), st) ∧ kd = 3 := by
  unfold ab_retl at h
  split at h
  · cases h; exact ⟨_, rfl, rfl, rfl⟩
  · cases h
theorem ab_retr_e {kd : Nat} {stk : List Value} {st : ab_S} {r : ab_R} (h : ab_retr kd stk st = some r) : ∃ v, stk = [.ref v] ∧ r = (some (.ref v), st) ∧ kd = 4 := by
  unfold ab_retr at h
  split at h
  · cases h; exact ⟨_, rfl, rfl, rfl⟩
  · cases h
theorem ab_retv_e {kd : Nat} {stk : List Value} {st : ab_S} {r : ab_R} (h : ab_retv kd stk st = some r) : stk = [] ∧ r = (none, st) ∧ kd = 0 := by
  unfold ab_retv at h
  split at h
  · cases h; exact ⟨rfl, rfl, rfl⟩
  · cases h
theorem wI_sH {st st' : ab_S} {a : Nat} {i v : Int32} (h : ab_wI st a i v = some st') : sH st' = sH st := by
  unfold ab_wI at h
  obtain ⟨k, -, hk⟩ := Option.map_eq_some_iff.mp h
  rw [← hk]; rfl
theorem wB_sH {st st' : ab_S} {a : Nat} {i v : Int32} (h : ab_wB st a i v = some st') : sH st' = sH st := by
  unfold ab_wB at h
  obtain ⟨k, -, hk⟩ := Option.map_eq_some_iff.mp h
  rw [← hk]; rfl
theorem wJ_sH {st st' : ab_S} {a : Nat} {i : Int32} {v : Int64} (h : ab_wJ st a i v = some st') : sH st' = sH st := by
  unfold ab_wJ at h
  obtain ⟨k, -, hk⟩ := Option.map_eq_some_iff.mp h
  rw [← hk]; rfl
theorem wR_sH {st st' : ab_S} {a v : Nat} {i : Int32} (h : ab_wR st a i v = some st') : sH st' = sH st := by
  unfold ab_wR at h
  obtain ⟨k, -, hk⟩ := Option.bind_eq_some_iff.mp h
  split at hk
  · cases hk; rfl
  · cases hk
theorem snd_call {M : ab_M} (X : Cx p s m args c cc own nL D aK b N0 L xs) (hMG : ∀ q ∈ mG M, cee l R.frames R.locals own q.1 q.2.1 q.2.2.1 q.2.2.2 ∨ objok R.frames R.locals own q.1 q.2.1 q.2.2.1 q.2.2.2 ∨ matok R.frames R.locals own q.1 q.2.1 q.2.2.1 q.2.2.2) (hR : (sH r.2).length - (sH st0).length ≤ R.cells ∧ nsl (sH r.2) - nsl (sH st0) ≤ R.slots)
    {K : ab_K} (hK : ∀ pc ls stk st, K pc ls stk st = some r → Snd p l e R s m args below meth c Q D aK b N0 L xs nL st0 r pc ls stk st) {pc : Nat} {ls : ab_L} {stk : List Value} {st : ab_S} {ins : Instr} {i kd : Nat}
    (hd : decode cc pc = .ok (ins, 3)) (h : ab_call (ab_look (mG M) i) kd stk st (fun rs r st' => K (pc + 3) ls (rs ++ r) st') = some r) (hop : (kd = 0 ∧ ins = .invokestatic i) ∨ (kd = 1 ∧ ins = .invokevirtual i) ∨ (kd = 2 ∧ ins = .invokespecial i)) : Snd p l e R s m args below meth c Q D aK b N0 L xs nL st0 r pc ls stk st := by
  unfold ab_call at h
  cases hlk : ab_look (mG M) i with
  | none => rw [hlk] at h; cases h
  | some w =>
    obtain ⟨kd', n, g⟩ := w
    rw [hlk] at h
    have hG := hMG _ (ab_look_mem hlk)
    try dsimp only at h
    split at h
    · next hk1 hk2 hk3 =>
      have hkd : kd = kd' := Nat.eq_of_beq_eq_true hk1
      subst hkd
      have hle : n ≤ stk.length := Nat.le_of_ble_eq_true hk2
      have hsum : ab_sum (stk.drop n) ≤ 8 := Nat.le_of_ble_eq_true hk3
      rcases hG with hG | ⟨hg, hk, hn, hw, hf, hlo⟩ | ⟨hk, hf, hlo, hm⟩
      · have hopd : (kd = 0 → decode cc pc = .ok (.invokestatic i, 3)) ∧ (kd = 1 → decode cc pc = .ok (.invokevirtual i, 3)) ∧ (kd = 2 → decode cc pc = .ok (.invokespecial i, 3)) := by
          rcases hop with ⟨rfl, rfl⟩ | ⟨rfl, rfl⟩ | ⟨rfl, rfl⟩
          · exact ⟨fun _ => hd, fun h => (by cases h), fun h => (by cases h)⟩
          · exact ⟨fun h => (by cases h), fun _ => hd, fun h => (by cases h)⟩
          · exact ⟨fun h => (by cases h), fun h => (by cases h), fun _ => hd⟩
        have hE : ext st r.2 := by
          obtain ⟨y, bytes, maxL, ret, fr', lo', ci, -, -, -, -, -, -, hspec⟩ := hG
          obtain ⟨-, -, rs, st', hk, -, hext, -⟩ := hspec _ _ _ _ h
          exact ext_trans hext (hK _ _ _ _ hk).1
        refine ⟨hE, fun he H locs lsA hr hS hl => ?_⟩
        obtain ⟨rs, st', hk, hext, hgo⟩ := ab_invoke (l := l) (e := e) (R := R) (below := below) (meth := meth) (Q := Q) (lsA := lsA) (H := H) (locs := locs) (cells := (sH st).length - (sH st0).length) (slots := nsl (sH st) - nsl (sH st0)) X hG hl.1 hopd hle hsum h
        obtain ⟨h1, h2⟩ := hK _ _ _ _ hk
        have e1 := ext_len h1
        have e2 := ext_ns h1
        have e3 := ext_len he
        have e4 := ext_ns he
        have e5 := ext_len hext
        have e6 := ext_ns hext
        refine hgo hr hS ⟨by omega, by omega⟩ (fun H1 locs1 hr1 hS1 => ?_)
        have := h2 (ext_trans he hext) H1 locs1 lsA hr1 hS1 hl
        rw [show (sH st').length - (sH st0).length = (sH st).length - (sH st0).length + ((sH st').length - (sH st).length) by omega, show nsl (sH st') - nsl (sH st0) = nsl (sH st) - nsl (sH st0) + (nsl (sH st') - nsl (sH st)) by omega] at this
        exact this
      · have hg : g = g_obj := hg
        have hk : kd = 2 := hk
        have hn : n = 1 := hn
        subst hg; subst hk; subst hn
        have hins : ins = .invokespecial i := by
          rcases hop with ⟨h, -⟩ | ⟨h, -⟩ | ⟨-, h⟩
          · cases h
          · cases h
          · exact h
        subst hins
        match stk, h, hsum with
        | v :: q, h0, hsum =>
          have h : g_obj [v] st (fun rs st' => K (pc + 3) ls (rs ++ q) st') = some r := h0
          clear h0
          unfold g_obj at h
          split at h
          · next o e1 =>
            cases e1
            split at h
            · cases h
            · next ho =>
              obtain ⟨h1, h2⟩ := hK _ _ _ _ h
              refine ⟨h1, fun he H locs lsA hr hS hl => ?_⟩
              obtain ⟨hx, hb, hml, hown, hts, hrk⟩ := X
              obtain ⟨a, ha⟩ : ∃ a, cv b N0 (.ref o) = .ref a := by
                match o, ho with
                | 0, ho => exact absurd rfl ho
                | 1, _ => exact ⟨b, rfl⟩
                | o + 2, _ => exact ⟨N0 + o, rfl⟩
              have hroom := lv_room (m := m) (pc := pc) (ls := lsA) (rest := (Value.ref o :: q).map (cv b N0)) (st := q.map (cv b N0)) (by rw [ab_sum_le]; exact hsum)
              refine W.objInit (a := a) (rest := q.map (cv b N0)) hx hb hown (hts _ hw) (hts _ obj_w.1) (hts _ obj_w.2) rfl (hl.1.trans hml.symm) (by show cv b N0 (.ref o) :: q.map (cv b N0) = _; rw [ha]) hd hf (by omega) ?_
              exact h2 he H locs lsA hr hS hl
          · cases h
      · have hk : kd = 0 := hk
        subst hk
        have hins : ins = .invokestatic i := by
          rcases hop with ⟨-, h⟩ | ⟨h, -⟩ | ⟨h, -⟩
          · exact h
          · cases h
          · cases h
        subst hins
        obtain ⟨hx, hb, hml, hown, hts, hrk⟩ := X
        rcases hm with ⟨hg, hn, hw⟩ | ⟨hg, hn, hw⟩ | ⟨hg, hn, hw⟩ | ⟨hg, hn, hw⟩
        · have hg : g = g_max := hg
          have hn : n = 2 := hn
          subst hg; subst hn
          match stk, h, hsum, hle with
          | v0 :: u0 :: q, h0, hsum, _ =>
            replace h : g_max [u0, v0] st (fun rs st' => K (pc + 3) ls (rs ++ q) st') = some r := h0
            clear h0
            unfold g_max at h
            split at h
            · next e1 =>
              cases e1
              obtain ⟨h1, h2⟩ := hK _ _ _ _ h
              refine ⟨h1, fun he H locs lsA hr hS hl => ?_⟩
              have e1 := ext_len h1
              have e2 := ext_ns h1
              have hs8 : ((q.map (cv b N0)).map fun v => v.category).sum ≤ 8 := by rw [ab_sum_le]; exact hsum
              exact va_mmax hx hb (hml.trans hl.1.symm) hown (hts _ hw) (hts _ mat_max.1) (hts _ mat_i) (hts _ mat_max.2) hf (by omega) (by omega) (by omega) hd (h2 he H locs lsA hr hS hl)
            · cases h
        · have hg : g = g_min := hg
          have hn : n = 2 := hn
          subst hg; subst hn
          match stk, h, hsum, hle with
          | v0 :: u0 :: q, h0, hsum, _ =>
            replace h : g_min [u0, v0] st (fun rs st' => K (pc + 3) ls (rs ++ q) st') = some r := h0
            clear h0
            unfold g_min at h
            split at h
            · next e1 =>
              cases e1
              obtain ⟨h1, h2⟩ := hK _ _ _ _ h
              refine ⟨h1, fun he H locs lsA hr hS hl => ?_⟩
              have e1 := ext_len h1
              have e2 := ext_ns h1
              have hs8 : ((q.map (cv b N0)).map fun v => v.category).sum ≤ 8 := by rw [ab_sum_le]; exact hsum
              exact va_mmin hx hb (hml.trans hl.1.symm) hown (hts _ hw) (hts _ mat_min.1) (hts _ mat_i) (hts _ mat_min.2) hf (by omega) (by omega) (by omega) hd (h2 he H locs lsA hr hS hl)
            · cases h
        · have hg : g = g_abs := hg
          have hn : n = 1 := hn
          subst hg; subst hn
          match stk, h, hsum, hle with
          | u0 :: q, h0, hsum, _ =>
            replace h : g_abs [u0] st (fun rs st' => K (pc + 3) ls (rs ++ q) st') = some r := h0
            clear h0
            unfold g_abs at h
            split at h
            · next e1 =>
              cases e1
              obtain ⟨h1, h2⟩ := hK _ _ _ _ h
              refine ⟨h1, fun he H locs lsA hr hS hl => ?_⟩
              have e1 := ext_len h1
              have e2 := ext_ns h1
              have hs8 : ((q.map (cv b N0)).map fun v => v.category).sum ≤ 8 := by rw [ab_sum_le]; exact hsum
              exact va_mabs hx hb (hml.trans hl.1.symm) hown (hts _ hw) (hts _ mat_abs.1) (hts _ mat_i) (hts _ mat_abs.2) hf (by omega) (by omega) (by omega) hd (h2 he H locs lsA hr hS hl)
            · cases h
        · have hg : g = g_minl := hg
          have hn : n = 2 := hn
          subst hg; subst hn
          match stk, h, hsum, hle with
          | v0 :: u0 :: q, h0, hsum, _ =>
            replace h : g_minl [u0, v0] st (fun rs st' => K (pc + 3) ls (rs ++ q) st') = some r := h0
            clear h0
            unfold g_minl at h
            split at h
            · next e1 =>
              cases e1
              obtain ⟨h1, h2⟩ := hK _ _ _ _ h
              refine ⟨h1, fun he H locs lsA hr hS hl => ?_⟩
              have e1 := ext_len h1
              have e2 := ext_ns h1
              have hs8 : ((q.map (cv b N0)).map fun v => v.category).sum ≤ 8 := by rw [ab_sum_le]; exact hsum
              exact va_mmin_long hx hb (hml.trans hl.1.symm) hown (hts _ hw) (hts _ mat_minl.1) (hts _ mat_i) (hts _ mat_minl.2) hf (by omega) (by omega) (by omega) hd (h2 he H locs lsA hr hS hl)
            · cases h
    · cases h
set_option maxHeartbeats 4000000 in
theorem snd_exec {M : ab_M} {init : Bool} (X : Cx p s m args c cc own nL D aK b N0 L xs) (hN : nL = mN M) (hin : init = true → meth.name = "<init>") (hM : mok l cc own init R.frames R.locals M) (hR : (sH r.2).length - (sH st0).length ≤ R.cells ∧ nsl (sH r.2) - nsl (sH st0) ≤ R.slots) (hret : Rets p l e R s m args below meth c Q D aK b N0 L xs cc (mR M) st0 r)
    {K : ab_K} (hK : ∀ pc ls stk st, K pc ls stk st = some r → Snd p l e R s m args below meth c Q D aK b N0 L xs nL st0 r pc ls stk st) {pc : Nat} {ls : ab_L} {stk : List Value} {st : ab_S} {ins : Instr} {n : Nat} {x : Value} {t : Nat}
    (hd : decode cc pc = .ok (ins, n)) (hc : ab_chk pc ins n x t = true) (hc2 : ab_chk2 own init M pc ins x = true) (h : ab_exec M K pc ls stk st ins n x t = some r) : Snd p l e R s m args below meth c Q D aK b N0 L xs nL st0 r pc ls stk st := by
  obtain ⟨hx, hb, hml, hown, hts, hrk⟩ := id X
  obtain ⟨hMC, hMF, hMG⟩ := hM
  cases ins with
  | iconst i =>
    replace hc : (n == 1 && x == .int (Int32.ofInt i)) = true := hc
    simp only [Bool.and_eq_true, beq_iff_eq] at hc
    obtain ⟨rfl, rfl⟩ := hc
    obtain ⟨h1, h2⟩ := hK _ _ _ _ h
    exact ⟨h1, fun he H locs lsA hr hS hl => lv_iconst hx hb hd rfl (h2 he H locs lsA hr hS hl)⟩
  | bipush i =>
    replace hc : (n == 2 && x == .int (Int8.ofInt i).toInt32) = true := hc
    simp only [Bool.and_eq_true, beq_iff_eq] at hc
    obtain ⟨rfl, rfl⟩ := hc
    obtain ⟨h1, h2⟩ := hK _ _ _ _ h
    exact ⟨h1, fun he H locs lsA hr hS hl => lv_bipush hx hb hd rfl (h2 he H locs lsA hr hS hl)⟩
  | sipush i =>
    replace hc : (n == 3 && x == .int (Int16.ofInt i).toInt32) = true := hc
    simp only [Bool.and_eq_true, beq_iff_eq] at hc
    obtain ⟨rfl, rfl⟩ := hc
    obtain ⟨h1, h2⟩ := hK _ _ _ _ h
    exact ⟨h1, fun he H locs lsA hr hS hl => lv_sipush hx hb hd rfl (h2 he H locs lsA hr hS hl)⟩
  | lconst i =>
    replace hc : (n == 1 && x == .long (Int64.ofNat i.val)) = true := hc
    simp only [Bool.and_eq_true, beq_iff_eq] at hc
    obtain ⟨rfl, rfl⟩ := hc
    obtain ⟨h1, h2⟩ := hK _ _ _ _ h
    exact ⟨h1, fun he H locs lsA hr hS hl => lv_lconst hx hb hd rfl (h2 he H locs lsA hr hS hl)⟩
  | ldc i =>
    replace hc : (n == 2) = true := hc
    simp only [beq_iff_eq] at hc
    subst hc
    cases x with
    | int v =>
      replace hc2 : decide (Cond.constant own i v ∈ ab_ws) = true := hc2
      obtain ⟨h1, h2⟩ := hK _ _ _ _ h
      exact ⟨h1, fun he H locs lsA hr hS hl => lv_ldc hx hb hown (hts _ (of_decide_eq_true hc2)) hd (h2 he H locs lsA hr hS hl)⟩
    | _ => cases hc2
  | ldc2_w i =>
    replace hc : (n == 3) = true := hc
    simp only [beq_iff_eq] at hc
    subst hc
    cases x with
    | long v =>
      replace hc2 : decide (Cond.constantLong own i v ∈ ab_ws) = true := hc2
      obtain ⟨h1, h2⟩ := hK _ _ _ _ h
      exact ⟨h1, fun he H locs lsA hr hS hl => lv_ldc2 hx hb hown (hts _ (of_decide_eq_true hc2)) hd (h2 he H locs lsA hr hS hl)⟩
    | _ => cases hc2
  | iload i =>
    replace hc : (n == 2 && t == i) = true := hc
    simp only [Bool.and_eq_true, beq_iff_eq] at hc
    obtain ⟨rfl, rfl⟩ := hc
    have hh := ld_i_e h
    clear h
    obtain ⟨v, hv, h⟩ := hh
    obtain ⟨h1, h2⟩ := hK _ _ _ _ h
    exact ⟨h1, fun he H locs lsA hr hS hl => lv_iload hx hb hd (lv_map hl hv) (h2 he H locs lsA hr hS hl)⟩
  | iload_n i =>
    replace hc : (n == 1 && t == i.val) = true := hc
    simp only [Bool.and_eq_true, beq_iff_eq] at hc
    obtain ⟨rfl, rfl⟩ := hc
    have hh := ld_i_e h
    clear h
    obtain ⟨v, hv, h⟩ := hh
    obtain ⟨h1, h2⟩ := hK _ _ _ _ h
    exact ⟨h1, fun he H locs lsA hr hS hl => lv_iload_n hx hb hd rfl (lv_map hl hv) (h2 he H locs lsA hr hS hl)⟩
  | lload i =>
    replace hc : (n == 2 && t == i) = true := hc
    simp only [Bool.and_eq_true, beq_iff_eq] at hc
    obtain ⟨rfl, rfl⟩ := hc
    have hh := ld_l_e h
    clear h
    obtain ⟨v, hv, h⟩ := hh
    obtain ⟨h1, h2⟩ := hK _ _ _ _ h
    exact ⟨h1, fun he H locs lsA hr hS hl => lv_lload hx hb hd (lv_map hl hv) (h2 he H locs lsA hr hS hl)⟩
  | lload_n i =>
    replace hc : (n == 1 && t == i.val) = true := hc
    simp only [Bool.and_eq_true, beq_iff_eq] at hc
    obtain ⟨rfl, rfl⟩ := hc
    have hh := ld_l_e h
    clear h
    obtain ⟨v, hv, h⟩ := hh
    obtain ⟨h1, h2⟩ := hK _ _ _ _ h
    exact ⟨h1, fun he H locs lsA hr hS hl => lv_lload_n hx hb hd rfl (lv_map hl hv) (h2 he H locs lsA hr hS hl)⟩
  | aload i =>
    replace hc : (n == 2 && t == i) = true := hc
    simp only [Bool.and_eq_true, beq_iff_eq] at hc
    obtain ⟨rfl, rfl⟩ := hc
    have hh := ld_r_e h
    clear h
    obtain ⟨v, hv, h⟩ := hh
    obtain ⟨h1, h2⟩ := hK _ _ _ _ h
    exact ⟨h1, fun he H locs lsA hr hS hl => ab_aload (r := ad b N0 v) hx hb (lv_map hl hv) (Or.inl ⟨rfl, hd⟩) (h2 he H locs lsA hr hS hl)⟩
  | aload_n i =>
    replace hc : (n == 1 && t == i.val) = true := hc
    simp only [Bool.and_eq_true, beq_iff_eq] at hc
    obtain ⟨rfl, rfl⟩ := hc
    have hh := ld_r_e h
    clear h
    obtain ⟨v, hv, h⟩ := hh
    obtain ⟨h1, h2⟩ := hK _ _ _ _ h
    exact ⟨h1, fun he H locs lsA hr hS hl => ab_aload (r := ad b N0 v) hx hb (lv_map hl hv) (Or.inr ⟨rfl, i, rfl, hd⟩) (h2 he H locs lsA hr hS hl)⟩
  | istore i =>
    replace hc : (n == 2 && t == i) = true := hc
    simp only [Bool.and_eq_true, beq_iff_eq] at hc
    obtain ⟨rfl, rfl⟩ := hc
    have hh := ab_lt_e h
    clear h
    obtain ⟨hlt, h⟩ := hh
    have hh := tk_i_e h
    clear h
    obtain ⟨v, q, rfl, h⟩ := hh
    obtain ⟨h1, h2⟩ := hK _ _ _ _ h
    exact ⟨h1, fun he H locs lsA hr hS hl => lv_istore hx hb hd hl (by omega) (st1_map (v := .int v)) (fun lsB hlB => h2 he H locs lsB hr hS hlB)⟩
  | istore_n i =>
    replace hc : (n == 1 && t == i.val) = true := hc
    simp only [Bool.and_eq_true, beq_iff_eq] at hc
    obtain ⟨rfl, rfl⟩ := hc
    have hh := ab_lt_e h
    clear h
    obtain ⟨hlt, h⟩ := hh
    have hh := tk_i_e h
    clear h
    obtain ⟨v, q, rfl, h⟩ := hh
    obtain ⟨h1, h2⟩ := hK _ _ _ _ h
    exact ⟨h1, fun he H locs lsA hr hS hl => lv_istore_n hx hb hd rfl hl (by omega) (st1_map (v := .int v)) (fun lsB hlB => h2 he H locs lsB hr hS hlB)⟩
  | lstore i =>
    replace hc : (n == 2 && t == i) = true := hc
    simp only [Bool.and_eq_true, beq_iff_eq] at hc
    obtain ⟨rfl, rfl⟩ := hc
    have hh := ab_lt_e h
    clear h
    obtain ⟨hlt, h⟩ := hh
    have hh := tk_l_e h
    clear h
    obtain ⟨v, q, rfl, h⟩ := hh
    obtain ⟨h1, h2⟩ := hK _ _ _ _ h
    exact ⟨h1, fun he H locs lsA hr hS hl => lv_lstore hx hb hd hl (by omega) (st2_map (v := .long v)) (fun lsB hlB => h2 he H locs lsB hr hS hlB)⟩
  | lstore_n i =>
    replace hc : (n == 1 && t == i.val) = true := hc
    simp only [Bool.and_eq_true, beq_iff_eq] at hc
    obtain ⟨rfl, rfl⟩ := hc
    have hh := ab_lt_e h
    clear h
    obtain ⟨hlt, h⟩ := hh
    have hh := tk_l_e h
    clear h
    obtain ⟨v, q, rfl, h⟩ := hh
    obtain ⟨h1, h2⟩ := hK _ _ _ _ h
    exact ⟨h1, fun he H locs lsA hr hS hl => lv_lstore_n hx hb hd rfl hl (by omega) (st2_map (v := .long v)) (fun lsB hlB => h2 he H locs lsB hr hS hlB)⟩
  | astore i =>
    replace hc : (n == 2 && t == i) = true := hc
    simp only [Bool.and_eq_true, beq_iff_eq] at hc
    obtain ⟨rfl, rfl⟩ := hc
    have hh := ab_lt_e h
    clear h
    obtain ⟨hlt, h⟩ := hh
    have hh := tk_r_e h
    clear h
    obtain ⟨v, q, rfl, h⟩ := hh
    obtain ⟨h1, h2⟩ := hK _ _ _ _ h
    exact ⟨h1, fun he H locs lsA hr hS hl => ab_astore (r := ad b N0 v) hx hb hl (by omega) (st1_map (v := .ref v)) (Or.inl ⟨rfl, hd⟩) (fun lsB hlB => h2 he H locs lsB hr hS hlB)⟩
  | astore_n i =>
    replace hc : (n == 1 && t == i.val) = true := hc
    simp only [Bool.and_eq_true, beq_iff_eq] at hc
    obtain ⟨rfl, rfl⟩ := hc
    have hh := ab_lt_e h
    clear h
    obtain ⟨hlt, h⟩ := hh
    have hh := tk_r_e h
    clear h
    obtain ⟨v, q, rfl, h⟩ := hh
    obtain ⟨h1, h2⟩ := hK _ _ _ _ h
    exact ⟨h1, fun he H locs lsA hr hS hl => ab_astore (r := ad b N0 v) hx hb hl (by omega) (st1_map (v := .ref v)) (Or.inr ⟨rfl, i, rfl, hd⟩) (fun lsB hlB => h2 he H locs lsB hr hS hlB)⟩
  | iinc i d =>
    replace hc : (n == 3 && (t == i && x == .int (Int32.ofInt d))) = true := hc
    simp only [Bool.and_eq_true, beq_iff_eq] at hc
    obtain ⟨rfl, rfl, rfl⟩ := hc
    have hh := ab_lt_e h
    clear h
    obtain ⟨hlt, h⟩ := hh
    have hh := ld_i_e h
    clear h
    obtain ⟨v, hv, h⟩ := hh
    obtain ⟨h1, h2⟩ := hK _ _ _ _ h
    refine ⟨h1, fun he H locs lsA hr hS hl => ?_⟩
    obtain ⟨k, hk⟩ := List.mem_iff_getElem?.mp (List.mem_map.mpr ⟨(t, .int v), ab_look_mem hv, rfl⟩ : (t, cv b N0 (.int v)) ∈ ls.map (fun q => (q.1, cv b N0 q.2)))
    exact lv_iinc (k := k) hx hb hd hl hk rfl (by omega) (st1_map (v := .int (v + Int32.ofInt d))) (fun lsB hlB => h2 he H locs lsB hr hS hlB)
  | iadd =>
    replace hc : (n == 1) = true := hc
    simp only [beq_iff_eq] at hc
    subst hc
    have hh := tk_ii_e h
    clear h
    obtain ⟨u, v, q, rfl, h⟩ := hh
    obtain ⟨h1, h2⟩ := hK _ _ _ _ h
    exact ⟨h1, fun he H locs lsA hr hS hl => lv_iadd hx hb hd (h2 he H locs lsA hr hS hl)⟩
  | isub =>
    replace hc : (n == 1) = true := hc
    simp only [beq_iff_eq] at hc
    subst hc
    have hh := tk_ii_e h
    clear h
    obtain ⟨u, v, q, rfl, h⟩ := hh
    obtain ⟨h1, h2⟩ := hK _ _ _ _ h
    exact ⟨h1, fun he H locs lsA hr hS hl => lv_isub hx hb hd (h2 he H locs lsA hr hS hl)⟩
  | imul =>
    replace hc : (n == 1) = true := hc
    simp only [beq_iff_eq] at hc
    subst hc
    have hh := tk_ii_e h
    clear h
    obtain ⟨u, v, q, rfl, h⟩ := hh
    obtain ⟨h1, h2⟩ := hK _ _ _ _ h
    exact ⟨h1, fun he H locs lsA hr hS hl => lv_imul hx hb hd (h2 he H locs lsA hr hS hl)⟩
  | iand =>
    replace hc : (n == 1) = true := hc
    simp only [beq_iff_eq] at hc
    subst hc
    have hh := tk_ii_e h
    clear h
    obtain ⟨u, v, q, rfl, h⟩ := hh
    obtain ⟨h1, h2⟩ := hK _ _ _ _ h
    exact ⟨h1, fun he H locs lsA hr hS hl => lv_iand hx hb hd (h2 he H locs lsA hr hS hl)⟩
  | ior =>
    replace hc : (n == 1) = true := hc
    simp only [beq_iff_eq] at hc
    subst hc
    have hh := tk_ii_e h
    clear h
    obtain ⟨u, v, q, rfl, h⟩ := hh
    obtain ⟨h1, h2⟩ := hK _ _ _ _ h
    exact ⟨h1, fun he H locs lsA hr hS hl => lv_ior hx hb hd (h2 he H locs lsA hr hS hl)⟩
  | ishl =>
    replace hc : (n == 1) = true := hc
    simp only [beq_iff_eq] at hc
    subst hc
    have hh := tk_ii_e h
    clear h
    obtain ⟨u, v, q, rfl, h⟩ := hh
    obtain ⟨h1, h2⟩ := hK _ _ _ _ h
    exact ⟨h1, fun he H locs lsA hr hS hl => lv_ishl hx hb hd (h2 he H locs lsA hr hS hl)⟩
  | iushr =>
    replace hc : (n == 1) = true := hc
    simp only [beq_iff_eq] at hc
    subst hc
    have hh := tk_ii_e h
    clear h
    obtain ⟨u, v, q, rfl, h⟩ := hh
    obtain ⟨h1, h2⟩ := hK _ _ _ _ h
    exact ⟨h1, fun he H locs lsA hr hS hl => lv_iushr hx hb hd rfl (h2 he H locs lsA hr hS hl)⟩
  | ineg =>
    replace hc : (n == 1) = true := hc
    simp only [beq_iff_eq] at hc
    subst hc
    have hh := tk_i_e h
    clear h
    obtain ⟨u, q, rfl, h⟩ := hh
    obtain ⟨h1, h2⟩ := hK _ _ _ _ h
    exact ⟨h1, fun he H locs lsA hr hS hl => lv_ineg hx hb hd (h2 he H locs lsA hr hS hl)⟩
  | ladd =>
    replace hc : (n == 1) = true := hc
    simp only [beq_iff_eq] at hc
    subst hc
    have hh := tk_ll_e h
    clear h
    obtain ⟨u, v, q, rfl, h⟩ := hh
    obtain ⟨h1, h2⟩ := hK _ _ _ _ h
    exact ⟨h1, fun he H locs lsA hr hS hl => lv_ladd hx hb hd (h2 he H locs lsA hr hS hl)⟩
  | lsub =>
    replace hc : (n == 1) = true := hc
    simp only [beq_iff_eq] at hc
    subst hc
    have hh := tk_ll_e h
    clear h
    obtain ⟨u, v, q, rfl, h⟩ := hh
    obtain ⟨h1, h2⟩ := hK _ _ _ _ h
    exact ⟨h1, fun he H locs lsA hr hS hl => lv_lsub hx hb hd (h2 he H locs lsA hr hS hl)⟩
  | lmul =>
    replace hc : (n == 1) = true := hc
    simp only [beq_iff_eq] at hc
    subst hc
    have hh := tk_ll_e h
    clear h
    obtain ⟨u, v, q, rfl, h⟩ := hh
    obtain ⟨h1, h2⟩ := hK _ _ _ _ h
    exact ⟨h1, fun he H locs lsA hr hS hl => lv_lmul hx hb hd (h2 he H locs lsA hr hS hl)⟩
  | land =>
    replace hc : (n == 1) = true := hc
    simp only [beq_iff_eq] at hc
    subst hc
    have hh := tk_ll_e h
    clear h
    obtain ⟨u, v, q, rfl, h⟩ := hh
    obtain ⟨h1, h2⟩ := hK _ _ _ _ h
    exact ⟨h1, fun he H locs lsA hr hS hl => lv_land hx hb hd (h2 he H locs lsA hr hS hl)⟩
  | lor =>
    replace hc : (n == 1) = true := hc
    simp only [beq_iff_eq] at hc
    subst hc
    have hh := tk_ll_e h
    clear h
    obtain ⟨u, v, q, rfl, h⟩ := hh
    obtain ⟨h1, h2⟩ := hK _ _ _ _ h
    exact ⟨h1, fun he H locs lsA hr hS hl => lv_lor hx hb hd (h2 he H locs lsA hr hS hl)⟩
  | lxor =>
    replace hc : (n == 1) = true := hc
    simp only [beq_iff_eq] at hc
    subst hc
    have hh := tk_ll_e h
    clear h
    obtain ⟨u, v, q, rfl, h⟩ := hh
    obtain ⟨h1, h2⟩ := hK _ _ _ _ h
    exact ⟨h1, fun he H locs lsA hr hS hl => lv_lxor hx hb hd (h2 he H locs lsA hr hS hl)⟩
  | lcmp =>
    replace hc : (n == 1) = true := hc
    simp only [beq_iff_eq] at hc
    subst hc
    have hh := tk_ll_e h
    clear h
    obtain ⟨u, v, q, rfl, h⟩ := hh
    obtain ⟨h1, h2⟩ := hK _ _ _ _ h
    exact ⟨h1, fun he H locs lsA hr hS hl => W.lcmp hx hb hd (h2 he H locs lsA hr hS hl)⟩
  | lshl =>
    replace hc : (n == 1) = true := hc
    simp only [beq_iff_eq] at hc
    subst hc
    have hh := tk_li_e h
    clear h
    obtain ⟨u, v, q, rfl, h⟩ := hh
    obtain ⟨h1, h2⟩ := hK _ _ _ _ h
    exact ⟨h1, fun he H locs lsA hr hS hl => lv_lshl hx hb hd rfl (h2 he H locs lsA hr hS hl)⟩
  | lshr =>
    replace hc : (n == 1) = true := hc
    simp only [beq_iff_eq] at hc
    subst hc
    have hh := tk_li_e h
    clear h
    obtain ⟨u, v, q, rfl, h⟩ := hh
    obtain ⟨h1, h2⟩ := hK _ _ _ _ h
    exact ⟨h1, fun he H locs lsA hr hS hl => lv_lshr hx hb hd rfl (h2 he H locs lsA hr hS hl)⟩
  | lushr =>
    replace hc : (n == 1) = true := hc
    simp only [beq_iff_eq] at hc
    subst hc
    have hh := tk_li_e h
    clear h
    obtain ⟨u, v, q, rfl, h⟩ := hh
    obtain ⟨h1, h2⟩ := hK _ _ _ _ h
    exact ⟨h1, fun he H locs lsA hr hS hl => lv_lushr hx hb hd rfl (h2 he H locs lsA hr hS hl)⟩
  | i2l =>
    replace hc : (n == 1) = true := hc
    simp only [beq_iff_eq] at hc
    subst hc
    have hh := tk_i_e h
    clear h
    obtain ⟨u, q, rfl, h⟩ := hh
    obtain ⟨h1, h2⟩ := hK _ _ _ _ h
    exact ⟨h1, fun he H locs lsA hr hS hl => lv_i2l hx hb hd rfl (h2 he H locs lsA hr hS hl)⟩
  | l2i =>
    replace hc : (n == 1) = true := hc
    simp only [beq_iff_eq] at hc
    subst hc
    have hh := tk_l_e h
    clear h
    obtain ⟨u, q, rfl, h⟩ := hh
    obtain ⟨h1, h2⟩ := hK _ _ _ _ h
    exact ⟨h1, fun he H locs lsA hr hS hl => lv_l2i hx hb hd rfl (h2 he H locs lsA hr hS hl)⟩
  | i2b =>
    replace hc : (n == 1) = true := hc
    simp only [beq_iff_eq] at hc
    subst hc
    have hh := tk_i_e h
    clear h
    obtain ⟨u, q, rfl, h⟩ := hh
    obtain ⟨h1, h2⟩ := hK _ _ _ _ h
    exact ⟨h1, fun he H locs lsA hr hS hl => lv_i2b hx hb hd rfl (h2 he H locs lsA hr hS hl)⟩
  | dup =>
    replace hc : (n == 1) = true := hc
    simp only [beq_iff_eq] at hc
    subst hc
    have hh := tk_r_e h
    clear h
    obtain ⟨u, q, rfl, h⟩ := hh
    obtain ⟨h1, h2⟩ := hK _ _ _ _ h
    exact ⟨h1, fun he H locs lsA hr hS hl => lv_dup hx hb hd (va_rf_cat _) (h2 he H locs lsA hr hS hl)⟩
  | dup2 =>
    replace hc : (n == 1) = true := hc
    simp only [beq_iff_eq] at hc
    subst hc
    have hh := tk_ri_e h
    clear h
    obtain ⟨u, v, q, rfl, h⟩ := hh
    obtain ⟨h1, h2⟩ := hK _ _ _ _ h
    exact ⟨h1, fun he H locs lsA hr hS hl => lv_dup2_11 hx hb hd rfl (va_rf_cat _) (h2 he H locs lsA hr hS hl)⟩
  | pop =>
    replace hc : (n == 1) = true := hc
    simp only [beq_iff_eq] at hc
    subst hc
    have hh := tk_i_e h
    clear h
    obtain ⟨u, q, rfl, h⟩ := hh
    obtain ⟨h1, h2⟩ := hK _ _ _ _ h
    exact ⟨h1, fun he H locs lsA hr hS hl => lv_pop hx hb hd rfl (h2 he H locs lsA hr hS hl)⟩
  | goto d =>
    replace hc : (n == 3 && decide ((pc : Int) + d = (t : Int))) = true := hc
    simp only [Bool.and_eq_true, beq_iff_eq, decide_eq_true_eq] at hc
    obtain ⟨rfl, ht⟩ := hc
    obtain ⟨h1, h2⟩ := hK _ _ _ _ h
    exact ⟨h1, fun he H locs lsA hr hS hl => lv_goto hx hb hd ht (h2 he H locs lsA hr hS hl)⟩
  | if_icmp cd d =>
    replace hc : (n == 3 && decide ((pc : Int) + d = (t : Int))) = true := hc
    simp only [Bool.and_eq_true, beq_iff_eq, decide_eq_true_eq] at hc
    obtain ⟨rfl, ht⟩ := hc
    cases cd with
    | eq =>
      have hh := tk_ii_e h
      clear h
      obtain ⟨u, v, q, rfl, h⟩ := hh
      have h' := h
      try dsimp only at h'
      split at h'
      · next hcd =>
        obtain ⟨h1, h2⟩ := hK _ _ _ _ h'
        exact ⟨h1, fun he H locs lsA hr hS hl => lv_icmp_eq hx hb hd ht (fun _ => h2 he H locs lsA hr hS hl) (fun q => absurd hcd q)⟩
      · next hcd =>
        obtain ⟨h1, h2⟩ := hK _ _ _ _ h'
        exact ⟨h1, fun he H locs lsA hr hS hl => lv_icmp_eq hx hb hd ht (fun q => absurd q hcd) (fun _ => h2 he H locs lsA hr hS hl)⟩
    | ne =>
      have hh := tk_ii_e h
      clear h
      obtain ⟨u, v, q, rfl, h⟩ := hh
      have h' := h
      try dsimp only at h'
      split at h'
      · next hcd =>
        obtain ⟨h1, h2⟩ := hK _ _ _ _ h'
        exact ⟨h1, fun he H locs lsA hr hS hl => lv_icmp_ne hx hb hd ht (fun q => absurd hcd q) (fun _ => h2 he H locs lsA hr hS hl)⟩
      · next hcd =>
        obtain ⟨h1, h2⟩ := hK _ _ _ _ h'
        exact ⟨h1, fun he H locs lsA hr hS hl => lv_icmp_ne hx hb hd ht (fun _ => h2 he H locs lsA hr hS hl) (fun q => absurd q hcd)⟩
    | lt =>
      have hh := tk_ii_e h
      clear h
      obtain ⟨u, v, q, rfl, h⟩ := hh
      have h' := h
      try dsimp only at h'
      split at h'
      · next hcd =>
        obtain ⟨h1, h2⟩ := hK _ _ _ _ h'
        exact ⟨h1, fun he H locs lsA hr hS hl => lv_icmp_lt hx hb hd ht (fun _ => h2 he H locs lsA hr hS hl) (fun q => absurd hcd q)⟩
      · next hcd =>
        obtain ⟨h1, h2⟩ := hK _ _ _ _ h'
        exact ⟨h1, fun he H locs lsA hr hS hl => lv_icmp_lt hx hb hd ht (fun q => absurd q hcd) (fun _ => h2 he H locs lsA hr hS hl)⟩
    | ge =>
      have hh := tk_ii_e h
      clear h
      obtain ⟨u, v, q, rfl, h⟩ := hh
      have h' := h
      try dsimp only at h'
      split at h'
      · next hcd =>
        obtain ⟨h1, h2⟩ := hK _ _ _ _ h'
        exact ⟨h1, fun he H locs lsA hr hS hl => lv_icmp_ge hx hb hd ht (fun _ => h2 he H locs lsA hr hS hl) (fun q => absurd hcd q)⟩
      · next hcd =>
        obtain ⟨h1, h2⟩ := hK _ _ _ _ h'
        exact ⟨h1, fun he H locs lsA hr hS hl => lv_icmp_ge hx hb hd ht (fun q => absurd q hcd) (fun _ => h2 he H locs lsA hr hS hl)⟩
    | gt =>
      have hh := tk_ii_e h
      clear h
      obtain ⟨u, v, q, rfl, h⟩ := hh
      have h' := h
      try dsimp only at h'
      split at h'
      · next hcd =>
        obtain ⟨h1, h2⟩ := hK _ _ _ _ h'
        exact ⟨h1, fun he H locs lsA hr hS hl => lv_icmp_gt hx hb hd ht (fun _ => h2 he H locs lsA hr hS hl) (fun q => absurd hcd q)⟩
      · next hcd =>
        obtain ⟨h1, h2⟩ := hK _ _ _ _ h'
        exact ⟨h1, fun he H locs lsA hr hS hl => lv_icmp_gt hx hb hd ht (fun q => absurd q hcd) (fun _ => h2 he H locs lsA hr hS hl)⟩
    | le =>
      have hh := tk_ii_e h
      clear h
      obtain ⟨u, v, q, rfl, h⟩ := hh
      have h' := h
      try dsimp only at h'
      split at h'
      · next hcd =>
        obtain ⟨h1, h2⟩ := hK _ _ _ _ h'
        exact ⟨h1, fun he H locs lsA hr hS hl => lv_icmp_le hx hb hd ht (fun _ => h2 he H locs lsA hr hS hl) (fun q => absurd hcd q)⟩
      · next hcd =>
        obtain ⟨h1, h2⟩ := hK _ _ _ _ h'
        exact ⟨h1, fun he H locs lsA hr hS hl => lv_icmp_le hx hb hd ht (fun q => absurd q hcd) (fun _ => h2 he H locs lsA hr hS hl)⟩
  | ifCond cd d =>
    replace hc : (n == 3 && decide ((pc : Int) + d = (t : Int))) = true := hc
    simp only [Bool.and_eq_true, beq_iff_eq, decide_eq_true_eq] at hc
    obtain ⟨rfl, ht⟩ := hc
    cases cd with
    | eq =>
      have hh := tk_i_e h
      clear h
      obtain ⟨u, q, rfl, h⟩ := hh
      have h' := h
      try dsimp only at h'
      split at h'
      · next hcd =>
        obtain ⟨h1, h2⟩ := hK _ _ _ _ h'
        exact ⟨h1, fun he H locs lsA hr hS hl => lv_if_eq hx hb hd ht (fun _ => h2 he H locs lsA hr hS hl) (fun q => absurd hcd q)⟩
      · next hcd =>
        obtain ⟨h1, h2⟩ := hK _ _ _ _ h'
        exact ⟨h1, fun he H locs lsA hr hS hl => lv_if_eq hx hb hd ht (fun q => absurd q hcd) (fun _ => h2 he H locs lsA hr hS hl)⟩
    | ne =>
      have hh := tk_i_e h
      clear h
      obtain ⟨u, q, rfl, h⟩ := hh
      have h' := h
      try dsimp only at h'
      split at h'
      · next hcd =>
        obtain ⟨h1, h2⟩ := hK _ _ _ _ h'
        exact ⟨h1, fun he H locs lsA hr hS hl => lv_if_ne hx hb hd ht (fun q => absurd hcd q) (fun _ => h2 he H locs lsA hr hS hl)⟩
      · next hcd =>
        obtain ⟨h1, h2⟩ := hK _ _ _ _ h'
        exact ⟨h1, fun he H locs lsA hr hS hl => lv_if_ne hx hb hd ht (fun _ => h2 he H locs lsA hr hS hl) (fun q => absurd q hcd)⟩
    | lt =>
      have hh := tk_i_e h
      clear h
      obtain ⟨u, q, rfl, h⟩ := hh
      have h' := h
      try dsimp only at h'
      split at h'
      · next hcd =>
        obtain ⟨h1, h2⟩ := hK _ _ _ _ h'
        exact ⟨h1, fun he H locs lsA hr hS hl => lv_if_lt hx hb hd ht (fun _ => h2 he H locs lsA hr hS hl) (fun q => absurd hcd q)⟩
      · next hcd =>
        obtain ⟨h1, h2⟩ := hK _ _ _ _ h'
        exact ⟨h1, fun he H locs lsA hr hS hl => lv_if_lt hx hb hd ht (fun q => absurd q hcd) (fun _ => h2 he H locs lsA hr hS hl)⟩
    | ge =>
      have hh := tk_i_e h
      clear h
      obtain ⟨u, q, rfl, h⟩ := hh
      have h' := h
      try dsimp only at h'
      split at h'
      · next hcd =>
        obtain ⟨h1, h2⟩ := hK _ _ _ _ h'
        exact ⟨h1, fun he H locs lsA hr hS hl => lv_if_ge hx hb hd ht (fun _ => h2 he H locs lsA hr hS hl) (fun q => absurd hcd q)⟩
      · next hcd =>
        obtain ⟨h1, h2⟩ := hK _ _ _ _ h'
        exact ⟨h1, fun he H locs lsA hr hS hl => lv_if_ge hx hb hd ht (fun q => absurd q hcd) (fun _ => h2 he H locs lsA hr hS hl)⟩
    | gt =>
      have hh := tk_i_e h
      clear h
      obtain ⟨u, q, rfl, h⟩ := hh
      have h' := h
      try dsimp only at h'
      split at h'
      · next hcd =>
        obtain ⟨h1, h2⟩ := hK _ _ _ _ h'
        exact ⟨h1, fun he H locs lsA hr hS hl => lv_if_gt hx hb hd ht (fun _ => h2 he H locs lsA hr hS hl) (fun q => absurd hcd q)⟩
      · next hcd =>
        obtain ⟨h1, h2⟩ := hK _ _ _ _ h'
        exact ⟨h1, fun he H locs lsA hr hS hl => lv_if_gt hx hb hd ht (fun q => absurd q hcd) (fun _ => h2 he H locs lsA hr hS hl)⟩
    | le =>
      have hh := tk_i_e h
      clear h
      obtain ⟨u, q, rfl, h⟩ := hh
      have h' := h
      try dsimp only at h'
      split at h'
      · next hcd =>
        obtain ⟨h1, h2⟩ := hK _ _ _ _ h'
        exact ⟨h1, fun he H locs lsA hr hS hl => lv_if_le hx hb hd ht (fun _ => h2 he H locs lsA hr hS hl) (fun q => absurd hcd q)⟩
      · next hcd =>
        obtain ⟨h1, h2⟩ := hK _ _ _ _ h'
        exact ⟨h1, fun he H locs lsA hr hS hl => lv_if_le hx hb hd ht (fun q => absurd q hcd) (fun _ => h2 he H locs lsA hr hS hl)⟩
  | ifnull d =>
    replace hc : (n == 3 && decide ((pc : Int) + d = (t : Int))) = true := hc
    simp only [Bool.and_eq_true, beq_iff_eq, decide_eq_true_eq] at hc
    obtain ⟨rfl, ht⟩ := hc
    have hh := tk_r_e h
    clear h
    obtain ⟨u, q, rfl, h⟩ := hh
    have h' := h
    try dsimp only at h'
    split at h'
    · next hcd =>
      subst hcd
      obtain ⟨h1, h2⟩ := hK _ _ _ _ h'
      exact ⟨h1, fun he H locs lsA hr hS hl => lv_ifnullN hx hb hd ht (h2 he H locs lsA hr hS hl)⟩
    · next hcd =>
      obtain ⟨h1, h2⟩ := hK _ _ _ _ h'
      refine ⟨h1, fun he H locs lsA hr hS hl => ?_⟩
      match u, hcd with
      | 0, hcd => exact absurd rfl hcd
      | 1, _ => exact lv_ifnull hx hb hd (h2 he H locs lsA hr hS hl)
      | u + 2, _ => exact lv_ifnull hx hb hd (h2 he H locs lsA hr hS hl)
  | tableswitch dd lo hi offs =>
    replace h : (match ab_look (mS M) pc with
      | some (cs, d) => tk_i stk (fun a r => ab_sw a (fun t => K t ls r st) d cs)
      | none => none) = some r := h
    replace hc2 : (match ab_look (mS M) pc with
      | some (cs, d) => tchk pc cs offs.toList lo && (decide (hi + 1 = lo + (offs.size : Int)) && decide ((pc : Int) + dd = (d : Int)))
      | none => true) = true := hc2
    cases hlk : ab_look (mS M) pc with
    | none => rw [hlk] at h; cases h
    | some w =>
      obtain ⟨cs, d⟩ := w
      rw [hlk] at h hc2
      simp only [Bool.and_eq_true, decide_eq_true_eq] at hc2
      obtain ⟨ht, hhi, hdd⟩ := hc2
      have hh := tk_i_e h
      clear h
      obtain ⟨v, q, rfl, h⟩ := hh
      have hlen := tchk_len ht
      rcases sw_e h with ⟨j, w, hj, hv, h⟩ | ⟨hne, h⟩
      · obtain ⟨h1, h2⟩ := hK _ _ _ _ h
        obtain ⟨g1, o, g2, g3⟩ := tchk_at ht j w hj
        have hjl : j < cs.length := (List.getElem?_eq_some_iff.mp hj).1
        have hsz : (offs.toList.length : Int) = offs.size := by simp
        rw [← hv] at g1
        refine ⟨h1, fun he H locs lsA hr hS hl => lv_tableIn hx hb hd (by omega) (by omega) (off := o) ?_ g3 (h2 he H locs lsA hr hS hl)⟩
        rw [show (v.toInt - lo).toNat = j by omega, ← Array.getElem?_toList]
        exact g2
      · obtain ⟨h1, h2⟩ := hK _ _ _ _ h
        have hsz : (offs.toList.length : Int) = offs.size := by simp
        refine ⟨h1, fun he H locs lsA hr hS hl => lv_tableOut hx hb hd ?_ hdd (h2 he H locs lsA hr hS hl)⟩
        apply Classical.byContradiction
        intro hno
        have e1 : lo ≤ v.toInt ∧ v.toInt ≤ hi := by omega
        have e2 : (v.toInt - lo).toNat < cs.length := by omega
        obtain ⟨g1, -⟩ := tchk_at ht _ _ (List.getElem?_eq_getElem e2)
        exact hne _ (List.getElem_mem e2) (Int32.toInt_inj.mp (by omega))
  | lookupswitch dd ps =>
    replace h : (match ab_look (mS M) pc with
      | some (cs, d) => tk_i stk (fun a r => ab_sw a (fun t => K t ls r st) d cs)
      | none => none) = some r := h
    replace hc2 : (match ab_look (mS M) pc with
      | some (cs, d) => lchk pc cs ps.toList && ((ps.toList.zip (ps.toList.drop 1)).all (fun (a, next) => a.1 < next.1) && decide ((pc : Int) + dd = (d : Int)))
      | none => true) = true := hc2
    cases hlk : ab_look (mS M) pc with
    | none => rw [hlk] at h; cases h
    | some w =>
      obtain ⟨cs, d⟩ := w
      rw [hlk] at h hc2
      have hc2 := Bool.and_eq_true_iff.mp hc2
      have hc3 := Bool.and_eq_true_iff.mp hc2.2
      have hh := tk_i_e h
      clear h
      obtain ⟨v, q, rfl, h⟩ := hh
      obtain ⟨t', g1, g2⟩ := lchk_e (of_decide_eq_true hc3.2) hc2.1 h
      obtain ⟨h1, h2⟩ := hK _ _ _ _ g2
      exact ⟨h1, fun he H locs lsA hr hS hl => lv_lookup hx hb hd hc3.1 rfl g1 (h2 he H locs lsA hr hS hl)⟩
  | getfield i =>
    replace hc : (n == 3) = true := hc
    simp only [beq_iff_eq] at hc
    subst hc
    have hh := tk_r_e h
    clear h
    obtain ⟨u, q, rfl, h⟩ := hh
    try dsimp only at h
    cases hlk : ab_look (mF M) i with
    | none => rw [hlk] at h; cases h
    | some w =>
      obtain ⟨ci, k, kd⟩ := w
      rw [hlk] at h
      have hf := hMF _ (ab_look_mem hlk)
      unfold ab_getf at h
      split at h
      · next e1 =>
        cases e1
        have hh := bind_e h
        clear h
        obtain ⟨v, hv, h⟩ := hh
        unfold ab_gJ at hv
        split at hv
        · next hsh =>
          cases hv
          obtain ⟨h1, h2⟩ := hK _ _ _ _ h
          exact ⟨h1, fun he H locs lsA hr hS hl => ab_get X hf hr hsh hd (h2 he H locs lsA hr hS hl)⟩
        · cases hv
      · next e1 =>
        cases e1
        have hh := bind_e h
        clear h
        obtain ⟨v, hv, h⟩ := hh
        unfold ab_gR at hv
        split at hv
        · next hsh =>
          cases hv
          obtain ⟨h1, h2⟩ := hK _ _ _ _ h
          exact ⟨h1, fun he H locs lsA hr hS hl => ab_get X hf hr hsh hd (h2 he H locs lsA hr hS hl)⟩
        · cases hv
      · next c' p' kd' hn2 hn3 e1 =>
        cases e1
        have hh := bind_e h
        clear h
        obtain ⟨v, hv, h⟩ := hh
        unfold ab_gI at hv
        split at hv
        · next hsh =>
          cases hv
          obtain ⟨h1, h2⟩ := hK _ _ _ _ h
          refine ⟨h1, fun he H locs lsA hr hS hl => ab_get X hf hr hsh hd ?_⟩
          have e2 : fv b N0 st u k kd = .int (sI st u k) := by
            unfold fv
            split
            · exact (hn2 rfl).elim
            · exact (hn3 rfl).elim
            · rfl
          rw [e2]
          exact h2 he H locs lsA hr hS hl
        · cases hv
      · next e1 => cases e1
  | putfield i =>
    replace hc : (n == 3) = true := hc
    simp only [beq_iff_eq] at hc
    subst hc
    cases hlk : ab_look (mF M) i with
    | none =>
      replace h : ab_putf (ab_look (mF M) i) stk st (fun r st' => K (pc + 3) ls r st') = some r := h
      rw [hlk] at h; cases h
    | some w =>
      obtain ⟨ci, k, kd⟩ := w
      replace h : ab_putf (ab_look (mF M) i) stk st (fun r st' => K (pc + 3) ls r st') = some r := h
      replace hc2 : (match ab_look (mF M) i with
        | some (ci, k, _) => pok own init i ci k
        | none => true) = true := hc2
      rw [hlk] at h hc2
      have hf := hMF _ (ab_look_mem hlk)
      obtain ⟨q0, hq0, hk0, hkd0, -⟩ := fok_e hf
      have hkd := (cl_ok hq0).2.2.2.2 k hk0
      unfold kdok at hkd
      rw [hkd0] at hkd
      unfold ab_putf at h
      split at h
      · next e1 =>
        cases e1
        have hh := tk_ri_e h
        clear h
        obtain ⟨o, v, q, rfl, h⟩ := hh
        have hh := bind_e h
        clear h
        obtain ⟨st', hv, h⟩ := hh
        unfold ab_pI at hv
        split at hv
        · next hsh =>
          cases hv
          obtain ⟨h1, h2⟩ := hK _ _ _ _ h
          have hty : ab_ty ci k = .int := by cases hT : ab_ty ci k <;> first | rfl | (rw [hT] at hkd; cases hkd)
          refine ⟨h1, fun he H locs lsA hr hS hl => ?_⟩
          have e2 : fv b N0 (uI st o k v) o k 0 = .int v := by simp [fv, sI, uI]
          have := ab_put (lsA := lsA) (rest := q.map (cv b N0)) X hin hf hc2 hr hS hsh (st' := uI st o k v) rfl uI_oth (fun j t' hj => by unfold fv; simp [sI, sJ, sR, uI, hj]) (by rw [e2, hty]; rfl) (by rw [e2, hty]; rfl) hd (fun H1 locs1 hr1 hS1 => h2 he H1 locs1 lsA hr1 hS1 hl)
          rw [e2] at this
          exact this
        · cases hv
      · next e1 =>
        cases e1
        have hh := tk_ri_e h
        clear h
        obtain ⟨o, v, q, rfl, h⟩ := hh
        have hh := bind_e h
        clear h
        obtain ⟨st', hv, h⟩ := hh
        unfold ab_pZ at hv
        split at hv
        · next hsh =>
          cases hv
          obtain ⟨hsh, hz⟩ := hsh
          obtain ⟨h1, h2⟩ := hK _ _ _ _ h
          have hty : ab_ty ci k = .boolean := by cases hT : ab_ty ci k <;> first | rfl | (rw [hT] at hkd; cases hkd)
          refine ⟨h1, fun he H locs lsA hr hS hl => ?_⟩
          have e2 : fv b N0 (uI st o k v) o k 1 = .int v := by simp [fv, sI, uI]
          have := ab_put (lsA := lsA) (rest := q.map (cv b N0)) X hin hf hc2 hr hS hsh (st' := uI st o k v) rfl uI_oth (fun j t' hj => by unfold fv; simp [sI, sJ, sR, uI, hj]) (by rw [e2, hty]; rcases hz with rfl | rfl <;> decide) (by rw [e2, hty]; rcases hz with rfl | rfl <;> decide) hd (fun H1 locs1 hr1 hS1 => h2 he H1 locs1 lsA hr1 hS1 hl)
          rw [e2] at this
          exact this
        · cases hv
      · next e1 =>
        cases e1
        have hh := tk_rl_e h
        clear h
        obtain ⟨o, v, q, rfl, h⟩ := hh
        have hh := bind_e h
        clear h
        obtain ⟨st', hv, h⟩ := hh
        unfold ab_pJ at hv
        split at hv
        · next hsh =>
          cases hv
          obtain ⟨h1, h2⟩ := hK _ _ _ _ h
          have hty : ab_ty ci k = .long := by cases hT : ab_ty ci k <;> first | rfl | (rw [hT] at hkd; cases hkd)
          refine ⟨h1, fun he H locs lsA hr hS hl => ?_⟩
          have e2 : fv b N0 (uJ st o k v) o k 2 = .long v := by simp [fv, sJ, uJ]
          have := ab_put (lsA := lsA) (rest := q.map (cv b N0)) X hin hf hc2 hr hS hsh (st' := uJ st o k v) rfl uJ_oth (fun j t' hj => by unfold fv; simp [sI, sJ, sR, uJ, hj]) (by rw [e2, hty]; rfl) (by rw [e2, hty]; rfl) hd (fun H1 locs1 hr1 hS1 => h2 he H1 locs1 lsA hr1 hS1 hl)
          rw [e2] at this
          exact this
        · cases hv
      · next e1 =>
        cases e1
        have hh := tk_rr_e h
        clear h
        obtain ⟨o, v, q, rfl, h⟩ := hh
        have hh := bind_e h
        clear h
        obtain ⟨st', hv, h⟩ := hh
        unfold ab_pR at hv
        split at hv
        · next hsh =>
          cases hv
          obtain ⟨h1, h2⟩ := hK _ _ _ _ h
          refine ⟨h1, fun he H locs lsA hr hS hl => ?_⟩
          have e2 : fv b N0 (uR st o k v) o k 3 = cv b N0 (.ref v) := by simp [fv, sR, uR, cv]
          have hrv : ∀ ro : Option Nat, narrow (ab_ty ci k) (va_rf ro) = va_rf ro ∧ fits (ab_ty ci k) (va_rf ro) = true := by
            intro ro
            cases hT : ab_ty ci k <;> first | (rw [hT] at hkd; cases hkd; done) | (cases ro <;> exact ⟨rfl, rfl⟩)
          have := ab_put (lsA := lsA) (rest := q.map (cv b N0)) X hin hf hc2 hr hS hsh (st' := uR st o k v) rfl uR_oth (fun j t' hj => by unfold fv; simp [sI, sJ, sR, uR, hj]) (by rw [e2]; exact (hrv _).1) (by rw [e2]; exact (hrv _).2) hd (fun H1 locs1 hr1 hS1 => h2 he H1 locs1 lsA hr1 hS1 hl)
          rw [e2] at this
          exact this
        · cases hv
      · cases h
  | iaload =>
    replace hc : (n == 1) = true := hc
    simp only [beq_iff_eq] at hc
    subst hc
    have hh := tk_ri_e h
    clear h
    obtain ⟨a, i, q, rfl, h⟩ := hh
    have hh := bind_e h
    clear h
    obtain ⟨v, hv, h⟩ := hh
    obtain ⟨h1, h2⟩ := hK _ _ _ _ h
    exact ⟨h1, fun he H locs lsA hr hS hl => ab_iald X hr hS hv hd (h2 he H locs lsA hr hS hl)⟩
  | baload =>
    replace hc : (n == 1) = true := hc
    simp only [beq_iff_eq] at hc
    subst hc
    have hh := tk_ri_e h
    clear h
    obtain ⟨a, i, q, rfl, h⟩ := hh
    have hh := bind_e h
    clear h
    obtain ⟨v, hv, h⟩ := hh
    obtain ⟨h1, h2⟩ := hK _ _ _ _ h
    exact ⟨h1, fun he H locs lsA hr hS hl => ab_bald X hr hv hd (h2 he H locs lsA hr hS hl)⟩
  | laload =>
    replace hc : (n == 1) = true := hc
    simp only [beq_iff_eq] at hc
    subst hc
    have hh := tk_ri_e h
    clear h
    obtain ⟨a, i, q, rfl, h⟩ := hh
    have hh := bind_e h
    clear h
    obtain ⟨v, hv, h⟩ := hh
    obtain ⟨h1, h2⟩ := hK _ _ _ _ h
    exact ⟨h1, fun he H locs lsA hr hS hl => ab_lald X hr hv hd (h2 he H locs lsA hr hS hl)⟩
  | aaload =>
    replace hc : (n == 1) = true := hc
    simp only [beq_iff_eq] at hc
    subst hc
    have hh := tk_ri_e h
    clear h
    obtain ⟨a, i, q, rfl, h⟩ := hh
    have hh := bind_e h
    clear h
    obtain ⟨v, hv, h⟩ := hh
    obtain ⟨h1, h2⟩ := hK _ _ _ _ h
    exact ⟨h1, fun he H locs lsA hr hS hl => ab_aald X hr hv hd (h2 he H locs lsA hr hS hl)⟩
  | iastore =>
    replace hc : (n == 1) = true := hc
    simp only [beq_iff_eq] at hc
    subst hc
    have hh := tk_rii_e h
    clear h
    obtain ⟨a, i, v, q, rfl, h⟩ := hh
    have hh := bind_e h
    clear h
    obtain ⟨st', hv, h⟩ := hh
    obtain ⟨h1, h2⟩ := hK _ _ _ _ h
    have hsame : sH st' = sH st := wI_sH hv
    exact ⟨ext_trans (ext_eq hsame) h1, fun he H locs lsA hr hS hl => ab_iast X hr hS hv hd (fun H1 locs1 hr1 hS1 => by
      have := h2 (ext_trans he (ext_eq hsame)) H1 locs1 lsA hr1 hS1 hl
      rw [hsame] at this
      exact this)⟩
  | bastore =>
    replace hc : (n == 1) = true := hc
    simp only [beq_iff_eq] at hc
    subst hc
    have hh := tk_rii_e h
    clear h
    obtain ⟨a, i, v, q, rfl, h⟩ := hh
    have hh := bind_e h
    clear h
    obtain ⟨st', hv, h⟩ := hh
    obtain ⟨h1, h2⟩ := hK _ _ _ _ h
    have hsame : sH st' = sH st := wB_sH hv
    exact ⟨ext_trans (ext_eq hsame) h1, fun he H locs lsA hr hS hl => ab_bast X hr hS hv hd (fun H1 locs1 hr1 hS1 => by
      have := h2 (ext_trans he (ext_eq hsame)) H1 locs1 lsA hr1 hS1 hl
      rw [hsame] at this
      exact this)⟩
  | lastore =>
    replace hc : (n == 1) = true := hc
    simp only [beq_iff_eq] at hc
    subst hc
    have hh := tk_ril_e h
    clear h
    obtain ⟨a, i, v, q, rfl, h⟩ := hh
    have hh := bind_e h
    clear h
    obtain ⟨st', hv, h⟩ := hh
    obtain ⟨h1, h2⟩ := hK _ _ _ _ h
    have hsame : sH st' = sH st := wJ_sH hv
    exact ⟨ext_trans (ext_eq hsame) h1, fun he H locs lsA hr hS hl => ab_last X hr hS hv hd (fun H1 locs1 hr1 hS1 => by
      have := h2 (ext_trans he (ext_eq hsame)) H1 locs1 lsA hr1 hS1 hl
      rw [hsame] at this
      exact this)⟩
  | aastore =>
    replace hc : (n == 1) = true := hc
    simp only [beq_iff_eq] at hc
    subst hc
    have hh := tk_rir_e h
    clear h
    obtain ⟨a, i, v, q, rfl, h⟩ := hh
    have hh := bind_e h
    clear h
    obtain ⟨st', hv, h⟩ := hh
    obtain ⟨h1, h2⟩ := hK _ _ _ _ h
    have hsame : sH st' = sH st := wR_sH hv
    exact ⟨ext_trans (ext_eq hsame) h1, fun he H locs lsA hr hS hl => ab_aast X hr hS hv hd (fun H1 locs1 hr1 hS1 => by
      have := h2 (ext_trans he (ext_eq hsame)) H1 locs1 lsA hr1 hS1 hl
      rw [hsame] at this
      exact this)⟩
  | arraylength =>
    replace hc : (n == 1) = true := hc
    simp only [beq_iff_eq] at hc
    subst hc
    have hh := tk_r_e h
    clear h
    obtain ⟨a, q, rfl, h⟩ := hh
    have hh := bind_e h
    clear h
    obtain ⟨v, hv, h⟩ := hh
    obtain ⟨h1, h2⟩ := hK _ _ _ _ h
    exact ⟨h1, fun he H locs lsA hr hS hl => ab_alen X hr hS hv hd (h2 he H locs lsA hr hS hl)⟩
  | new i =>
    replace hc : (n == 3) = true := hc
    simp only [beq_iff_eq] at hc
    subst hc
    replace h : (match ab_look (mK M) i with
      | some c => ab_newo st c (fun o st' => K (pc + 3) ls (.ref o :: stk) st')
      | none => none) = some r := h
    replace hc2 : (match ab_look (mK M) i with
      | some ci => kok own i ci
      | none => true) = true := hc2
    cases hlk : ab_look (mK M) i with
    | none => rw [hlk] at h; cases h
    | some ci =>
      rw [hlk] at h hc2
      have hh := bind_e h
      clear h
      obtain ⟨st', hv, h⟩ := hh
      unfold ab_mo at hv
      split at hv
      · cases hv
      · cases hv
        obtain ⟨h1, h2⟩ := hK _ _ _ _ h
        have e1 := ext_len h1
        have e2 := ext_ns h1
        rw [len_mk] at e1
        rw [nsl_mk] at e2
        refine ⟨ext_trans ext_mk h1, fun he H locs lsA hr hS hl => ?_⟩
        have e3 := ext_len he
        have e4 := ext_ns he
        refine ab_new X hc2 hr hS (by omega) (by omega) hd (fun H1 hr1 hS1 => ?_)
        have := h2 (ext_trans he ext_mk) H1 locs lsA hr1 hS1 hl
        rw [len_mk, nsl_mk, show (sH st).length + 1 - (sH st0).length = (sH st).length - (sH st0).length + 1 by omega, show nsl (sH st) + ns1 (0, ci) - nsl (sH st0) = nsl (sH st) - nsl (sH st0) + ns1 (0, ci) by omega] at this
        exact this
  | newarray a =>
    replace hc : (n == 2 && decide (a = .int ∨ a = .long ∨ a = .byte ∨ a = .boolean)) = true := hc
    simp only [Bool.and_eq_true, beq_iff_eq, decide_eq_true_eq] at hc
    obtain ⟨rfl, ha⟩ := hc
    have hh := tk_i_e h
    clear h
    obtain ⟨v, q, rfl, h⟩ := hh
    try dsimp only at h
    unfold ab_newn at h
    split at h
    · cases h
    · next hn =>
      have hh := bind_e h
      clear h
      obtain ⟨st', hv, h⟩ := hh
      unfold ab_mo at hv
      split at hv
      · cases hv
      · cases hv
        obtain ⟨h1, h2⟩ := hK _ _ _ _ h
        have e1 := ext_len h1
        have e2 := ext_ns h1
        rw [len_mk] at e1
        rw [nsl_mk] at e2
        have e5 : ns1 (ab_atk a, v.toNatClampNeg) = v.toNatClampNeg := by rcases ha with rfl | rfl | rfl | rfl <;> rfl
        rw [e5] at e2
        refine ⟨ext_trans ext_mk h1, fun he H locs lsA hr hS hl => ?_⟩
        have e3 := ext_len he
        have e4 := ext_ns he
        refine ab_newarr X ha hr hS hn (by omega) (by omega) hd (fun H1 hr1 hS1 => ?_)
        have := h2 (ext_trans he ext_mk) H1 locs lsA hr1 hS1 hl
        rw [len_mk, nsl_mk, e5, show (sH st).length + 1 - (sH st0).length = (sH st).length - (sH st0).length + 1 by omega, show nsl (sH st) + v.toNatClampNeg - nsl (sH st0) = nsl (sH st) - nsl (sH st0) + v.toNatClampNeg by omega] at this
        exact this
  | anewarray i =>
    replace hc : (n == 3) = true := hc
    simp only [beq_iff_eq] at hc
    subst hc
    replace h : (match ab_look (mK M) i with
      | some c => tk_i stk (fun v r => ab_newn st v (8 + c) (fun o st' => K (pc + 3) ls (.ref o :: r) st'))
      | none => none) = some r := h
    replace hc2 : (match ab_look (mK M) i with
      | some ci => akok own i ci
      | none => true) = true := hc2
    cases hlk : ab_look (mK M) i with
    | none => rw [hlk] at h; cases h
    | some ci =>
      rw [hlk] at h hc2
      have hh := tk_i_e h
      clear h
      obtain ⟨v, q, rfl, h⟩ := hh
      try dsimp only at h
      unfold ab_newn at h
      split at h
      · cases h
      · next hn =>
        have hh := bind_e h
        clear h
        obtain ⟨st', hv, h⟩ := hh
        unfold ab_mo at hv
        split at hv
        · cases hv
        · cases hv
          obtain ⟨h1, h2⟩ := hK _ _ _ _ h
          have e1 := ext_len h1
          have e2 := ext_ns h1
          rw [len_mk] at e1
          rw [nsl_mk] at e2
          have e5 : ns1 (8 + ci, v.toNatClampNeg) = v.toNatClampNeg := by
            unfold ns1
            rw [if_neg (by show ¬ 8 + ci = 0; omega)]
          rw [e5] at e2
          refine ⟨ext_trans ext_mk h1, fun he H locs lsA hr hS hl => ?_⟩
          have e3 := ext_len he
          have e4 := ext_ns he
          refine ab_anew X hc2 hr hS hn (by omega) (by omega) hd (fun H1 hr1 hS1 => ?_)
          have := h2 (ext_trans he ext_mk) H1 locs lsA hr1 hS1 hl
          rw [len_mk, nsl_mk, e5, show (sH st).length + 1 - (sH st0).length = (sH st).length - (sH st0).length + 1 by omega, show nsl (sH st) + v.toNatClampNeg - nsl (sH st0) = nsl (sH st) - nsl (sH st0) + v.toNatClampNeg by omega] at this
          exact this
  | multianewarray i d =>
    replace hc : (n == 4) = true := hc
    simp only [beq_iff_eq] at hc
    subst hc
    replace hc2 : (decide (d = 2) && decide (Cond.classLink own i "[[I" ∈ ab_ws)) = true := hc2
    simp only [Bool.and_eq_true, decide_eq_true_eq] at hc2
    obtain ⟨rfl, hw⟩ := hc2
    replace h : tk_ii stk (fun a b r => ab_newm st a b (fun o st' => K (pc + 4) ls (.ref o :: r) st')) = some r := h
    have hh := tk_ii_e h
    clear h
    obtain ⟨v, w, q, rfl, h⟩ := hh
    try dsimp only at h
    unfold ab_newm at h
    have hh := bind_e h
    clear h
    obtain ⟨st', hv, h⟩ := hh
    unfold ab_mm at hv
    split at hv
    · cases hv
    · next hn =>
      cases hv
      obtain ⟨h1, h2⟩ := hK _ _ _ _ h
      have e1 := ext_len h1
      have e2 := ext_ns h1
      have hex : ext st (ab_rows (ab_mk st (5, v.toNatClampNeg)) (sH st).length w.toNatClampNeg v.toNatClampNeg) := ext_trans ext_mk (rows_ex _ _ _ _)
      have e5 : ns1 (5, v.toNatClampNeg) = v.toNatClampNeg := rfl
      have el : (sH (ab_rows (ab_mk st (5, v.toNatClampNeg)) (sH st).length w.toNatClampNeg v.toNatClampNeg)).length = (sH st).length + 1 + v.toNatClampNeg := by rw [rows_len, len_mk]
      have en : nsl (sH (ab_rows (ab_mk st (5, v.toNatClampNeg)) (sH st).length w.toNatClampNeg v.toNatClampNeg)) = nsl (sH st) + v.toNatClampNeg + v.toNatClampNeg * w.toNatClampNeg := by rw [rows_nsl, nsl_mk, e5]
      rw [el] at e1
      rw [en] at e2
      refine ⟨ext_trans hex h1, fun he H locs lsA hr hS hl => ?_⟩
      have e3 := ext_len he
      have e4 := ext_ns he
      refine ab_multi X hw hr hS (fun q => hn (Or.inr (Or.inl q))) (fun q => hn (Or.inr (Or.inr (Or.inl q)))) (Nat.not_lt.mp fun q => hn (Or.inr (Or.inr (Or.inr (Or.inl q))))) (Nat.not_lt.mp fun q => hn (Or.inr (Or.inr (Or.inr (Or.inr q))))) (by omega) (by omega) hd (fun H1 locs1 hr1 hS1 => ?_)
      have := h2 (ext_trans he hex) H1 locs1 lsA hr1 hS1 hl
      rw [el, en, show (sH st).length + 1 + v.toNatClampNeg - (sH st0).length = (sH st).length - (sH st0).length + 1 + v.toNatClampNeg by omega, show nsl (sH st) + v.toNatClampNeg + v.toNatClampNeg * w.toNatClampNeg - nsl (sH st0) = nsl (sH st) - nsl (sH st0) + v.toNatClampNeg + v.toNatClampNeg * w.toNatClampNeg by omega] at this
      exact this
  | invokestatic i =>
    replace hc : (n == 3) = true := hc
    simp only [beq_iff_eq] at hc
    subst hc
    exact snd_call X hMG hR hK hd h (Or.inl ⟨rfl, rfl⟩)
  | invokevirtual i =>
    replace hc : (n == 3) = true := hc
    simp only [beq_iff_eq] at hc
    subst hc
    exact snd_call X hMG hR hK hd h (Or.inr (Or.inl ⟨rfl, rfl⟩))
  | invokespecial i =>
    replace hc : (n == 3) = true := hc
    simp only [beq_iff_eq] at hc
    subst hc
    exact snd_call X hMG hR hK hd h (Or.inr (Or.inr ⟨rfl, rfl⟩))
  | ireturn =>
    replace hc : (n == 1) = true := hc
    simp only [beq_iff_eq] at hc
    subst hc
    replace h : ab_ret (mR M) stk st = some r := h
    have hh := ab_ret_e h
    clear h
    obtain ⟨v, rfl, rfl, hk⟩ := hh
    exact ⟨ext_rfl, fun he H locs lsA hr hS hl => hret pc H locs lsA (Or.inr (Or.inl ⟨_, rfl, hk, hd⟩)) hr hS⟩
  | lreturn =>
    replace hc : (n == 1) = true := hc
    simp only [beq_iff_eq] at hc
    subst hc
    replace h : ab_retl (mR M) stk st = some r := h
    have hh := ab_retl_e h
    clear h
    obtain ⟨v, rfl, rfl, hk⟩ := hh
    exact ⟨ext_rfl, fun he H locs lsA hr hS hl => hret pc H locs lsA (Or.inr (Or.inr (Or.inl ⟨_, rfl, hk, hd⟩))) hr hS⟩
  | areturn =>
    replace hc : (n == 1) = true := hc
    simp only [beq_iff_eq] at hc
    subst hc
    replace h : ab_retr (mR M) stk st = some r := h
    have hh := ab_retr_e h
    clear h
    obtain ⟨v, rfl, rfl, hk⟩ := hh
    exact ⟨ext_rfl, fun he H locs lsA hr hS hl => hret pc H locs lsA (Or.inr (Or.inr (Or.inr ⟨_, rfl, hk, hd⟩))) hr hS⟩
  | return_ =>
    replace hc : (n == 1) = true := hc
    simp only [beq_iff_eq] at hc
    subst hc
    replace h : ab_retv (mR M) stk st = some r := h
    have hh := ab_retv_e h
    clear h
    obtain ⟨rfl, rfl, hk⟩ := hh
    exact ⟨ext_rfl, fun he H locs lsA hr hS hl => hret pc H locs lsA (Or.inl ⟨rfl, hk, hd⟩) hr hS⟩
  | _ => cases h
end EX
