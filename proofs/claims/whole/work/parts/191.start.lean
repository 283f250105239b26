/-! THE CLAIM OUT OF ONE WALK OF THE LAW'S BODY. Your part is whole_start (and what it stands on); all else here is the same for every law, but numbers. -/
def R_law : String := "TermMachineLaw"
def lw_P (b : Addr) (xs : List Int32) (args : Array Value) (s : State) : Prop := args = #[.ref b] ∧ s.IntsAt b xs ∧ xs.length ≤ 2560 ∧ (Jvm.Cond.and given_1 narrow_1).before args s = true
def lw_Q (_ : Array Value) (s : State) (o : Outcome) (t : State) : Prop := o = .returned (some (.int 1)) ∧ Framed s o t [] 600000 7302250
def lw_Z (below : List Frame) (a : Array Value) (s : State) : State → Prop := fun t => ∃ o, t.status = .running ∧ Ended t below o ∧ lw_Q a s o t
/-- the law's own end, with 1 on the stack, nothing written that was there before, its room as the claim has it -/
theorem lw_ret {p : Program} {l : Launch} {e : Env} {s : State} {m : MethodId} {below : List Frame} {meth : Method} {c : Code} {b : Nat} (hx : p.tables.exec = Jvm.exec) (hb : c.code = code) (hr : meth.sig.returnType = ret) (hlocks : meth.locks = false) {pc : Nat} {H : Heap} {ls : Array Slot} (hdg : decode code pc = .ok (.ireturn, 1)) : W p l e room_1 s m #[Value.ref b] below meth c H [] 600000 7302250 (lw_Z below #[Value.ref b] s) (F0 m pc ls [.int 1]) := by
  intro T hT X
  obtain ⟨fs, hret, hrun, hended, hW, hframe⟩ := X.leave (v := some (.int 1)) (hlocks := hlocks) (fun h => by rw [hr] at h; cases h)
  have hmeth' : T.vm.method? m = some meth := X.method'
  refine ⟨T.setFrames fs, ?_, .returned (some (.int 1)), hrun, hended, rfl, ⟨_, rfl⟩, hW, hframe⟩
  jvm_step X.here [X.here.top, hx, hb, hdg, hmeth', hr, ret, narrow_b1]
  (try refine ⟨rfl, ?_⟩); (try refine ⟨rfl, ?_⟩)
  first | (intro acts; rw [hret _ acts rfl rfl rfl]) | rw [hret _ _ rfl rfl rfl]
  exact Steps.refl _
/-- what holds at the law's entry: the machine, the code, the tables' words (any of lw_tbl by 'hts w (by decide +kernel)'), the script of L ints xs at the cell b, what the Statement gives of the start (any of its parts by flat_of_before) -/
def lw_At (p : Program) (s : State) (m : MethodId) (meth : Method) (c : Code) (b L : Nat) (xs : Nat → Int32) : Prop :=
  p.tables.exec = Jvm.exec ∧ c.code = code ∧ meth.sig.returnType = ret ∧ c.maxLocals = 4 ∧ s.vm.findClass R_law = some m.cls ∧ (∀ w ∈ lw_tbl, w.before #[Value.ref b] s = true) ∧ va_X b L xs s s.heap ∧ b < s.heap.size ∧ meth.locks = false ∧ (Jvm.Cond.and given_1 narrow_1).before #[Value.ref b] s = true
theorem mok_mono {l : Launch} {cc : ByteArray} {own : String} {init : Bool} {fr lo fr' lo' : Nat} {M : ab_M} (h : mok l cc own init fr lo M) (h1 : fr ≤ fr') (h2 : lo ≤ lo') : mok l cc own init fr' lo' M := by
  refine ⟨h.1, h.2.1, fun q hq => ?_⟩
  rcases h.2.2 q hq with hc | hc | hc
  · obtain ⟨y, bytes, maxL, ret, fr0, lo0, ci, a1, a2, a3, a4, a5, a6⟩ := hc
    exact Or.inl ⟨y, bytes, maxL, ret, fr0, lo0, ci, a1, a2, a3, Nat.le_trans a4 h1, Nat.le_trans a5 h2, a6⟩
  · obtain ⟨a1, a2, a3, a4, a5, a6⟩ := hc
    exact Or.inr (Or.inl ⟨a1, a2, a3, a4, Nat.le_trans a5 h1, Nat.le_trans a6 h2⟩)
  · obtain ⟨a1, a2, a3, a4⟩ := hc
    exact Or.inr (Or.inr ⟨a1, Nat.le_trans a2 h1, Nat.le_trans a3 h2, a4⟩)
theorem wh_ins : ∀ q ∈ ab_cl.map (fun q : vw_C => (q.1, q.2.2)), Cond.instantiable q.1 q.2 ∈ ab_ws := by decide +kernel
theorem wh_D {s : State} {args : Array Value} (hts : ∀ w ∈ ab_ws, w.before args s = true) : ∃ D : va_G, ∀ (c : Nat) (q : vw_C), ab_cl[c]? = some q → u_Kn s q.1 q.2.1 q.2.2 (D.1 c) (D.2 c) := by
  have h : ∀ c : Nat, ∃ p : ClassId × (Nat → Nat), ∀ q : vw_C, ab_cl[c]? = some q → u_Kn s q.1 q.2.1 q.2.2 p.1 p.2 := by
    intro c
    cases hq : ab_cl[c]? with
    | none => exact ⟨(0, fun _ => 0), fun q h => by cases h⟩
    | some q =>
      have hi := wh_ins (q.1, q.2.2) (List.mem_map.mpr ⟨q, List.mem_of_getElem? hq, rfl⟩)
      obtain ⟨cC, iS, hK⟩ := u_known hts (cl_ok hq).1 (hts _ hi)
      exact ⟨(cC, iS), fun q' h => by cases h; exact hK⟩
  exact ⟨(fun c => (h c).choose.1, fun c => (h c).choose.2), fun c q hq => (h c).choose_spec q hq⟩
theorem wh_arr {s : State} {args : Array Value} {ty : FieldType} (h : (Cond.arrayClass ty).before args s = true) : ∃ cA, ArrOfT s cA ty ∧ s.vm.findClass ("[" ++ ty.toString) = some cA := by
  obtain ⟨c, k, comp, h1, h2, h3⟩ := Cond.arrayClass_spec h
  exact ⟨c, fun N z => ⟨(fun q h => by cases h), k, h2, comp, h3⟩, h1⟩
theorem wh_obj {s : State} {C : String} (h : va_AO C s) : ∃ cA, ArrOfT s cA (.object C) ∧ va_RA s cA (.object C) := by
  obtain ⟨comp, c, k, h1, h2, h3, h4, h5⟩ := Cond.arrayOver_spec h
  exact ⟨c, fun N z => ⟨(fun q h => by cases h), k, h3, comp, h4⟩, k, comp, h3, h4, h1, h5⟩
theorem wh_ao : Cond.arrayOver (.object RX0) ∈ lw_tbl ∧ Cond.arrayOver (.object RX4) ∈ lw_tbl ∧ Cond.arrayOver (.object RX9) ∈ lw_tbl ∧ Cond.arrayOver (.array .int) ∈ lw_tbl := by decide +kernel
theorem wh_ac : Cond.arrayClass .int ∈ lw_tbl ∧ Cond.arrayClass .long ∈ lw_tbl ∧ Cond.arrayClass .byte ∈ lw_tbl ∧ Cond.arrayClass .boolean ∈ lw_tbl := by decide +kernel
theorem wh_nw : ∀ w ∈ ab_nw, w.onTables = true := by decide +kernel
/-- what the tables say at the law's entry -/
theorem wh_rk {p : Program} {s : State} {m : MethodId} {meth : Method} {c : Code} {b L : Nat} {xs : Nat → Int32} (C0 : lw_At p s m meth c b L xs) : ∃ (D : va_G) (aK : Nat → ClassId), rk D aK b s.heap.size L xs s := by
  obtain ⟨-, -, -, -, -, hts, hX, hbl, -, -⟩ := C0
  obtain ⟨D, hD⟩ := wh_D (fun w hw => hts w (ab_ws_in w hw))
  have o0 : va_AO RX0 s := hts _ wh_ao.1
  have o4 : va_AO RX4 s := hts _ wh_ao.2.1
  have o9 : va_AO RX9 s := hts _ wh_ao.2.2.1
  obtain ⟨c1, a1, b1⟩ := wh_arr (hts _ wh_ac.1)
  obtain ⟨c2, a2, b2⟩ := wh_arr (hts _ wh_ac.2.1)
  obtain ⟨c3, a3, b3⟩ := wh_arr (hts _ wh_ac.2.2.1)
  obtain ⟨c4, a4, b4⟩ := wh_arr (hts _ wh_ac.2.2.2)
  obtain ⟨c8, a8, b8⟩ := wh_obj o0
  obtain ⟨c12, a12, b12⟩ := wh_obj o4
  obtain ⟨c17, a17, b17⟩ := wh_obj o9
  obtain ⟨comp, c5, k5, d1, -, d3, d4, d5⟩ := arrayOverA_spec (hts _ wh_ao.2.2.2)
  have hc : comp = c1 := Option.some.inj (d1.symm.trans b1)
  subst hc
  refine ⟨D, fun i => match i with
    | 1 => comp
    | 2 => c2
    | 3 => c3
    | 4 => c4
    | 5 => c5
    | 8 => c8
    | 12 => c12
    | 17 => c17
    | _ => 0, ⟨hD, fun k q hk => ?_⟩, fun w hw => va_Nw.of (wh_nw w hw) (hts w (ab_nw_in w hw)), o0, o4, ⟨o9, k5, d3, d4⟩, hX, hbl, Nat.le_refl _⟩
  match k, hk with
  | 0, hk => cases hk; exact ⟨a1, b1⟩
  | 1, hk => cases hk; exact ⟨a2, b2⟩
  | 2, hk => cases hk; exact ⟨a3, b3⟩
  | 3, hk => cases hk; exact ⟨a4, b4⟩
  | 4, hk => cases hk; exact ⟨fun N z => ⟨(fun q h => by cases h), k5, d3, comp, d4⟩, d5⟩
  | 5, hk => cases hk; exact ⟨a8, b8⟩
  | 6, hk => cases hk; exact ⟨a12, b12⟩
  | 7, hk => cases hk; exact ⟨a17, b17⟩
  | k + 8, hk => cases hk
/-- the law's walk out of the abstract machine's answer -/
theorem wh_gen {p : Program} {e : Env} {s : State} {m : MethodId} {below : List Frame} {meth : Method} {c : Code} (l : Launch) {b L : Nat} {xs : Nat → Int32} (C0 : lw_At p s m meth c b L xs) {M : ab_M} {fr lo : Nat} (hone : ab_oneM M) (hok : mok l code R_law false fr lo M) (hfr : fr ≤ 10) (hlo : lo ≤ 374) (hN : mN M = 4) (hkd : mR M = 1 ∨ mR M = 2) (hlab : ab_look (mL M) 0 = some [0])
    {st0 st' : ab_S} (hH : sH st0 = [(6, 0), (7, L)]) (hI : ∀ j, j < L → sI st0 1 j = xs j) (h : ab_lim M 0 [.ref 1] [] st0 = some (some (.int 1), st')) (hc1 : (sH st').length - (sH st0).length ≤ 600000) (hc2 : nsl (sH st') - nsl (sH st0) ≤ 7302250) :
    W p l e room_1 s m #[Value.ref b] below meth c s.heap [] 0 0 (lw_Z below #[Value.ref b] s) (entryFrame m ([Value.ref b] : List Value).toArray 4) := by
  obtain ⟨D, aK, hrk⟩ := wh_rk C0
  obtain ⟨hx, hb, hr, hml, hown, hts, hX, hbl, hlocks, -⟩ := C0
  obtain ⟨f, hf⟩ := (lm_iff hone).mp h
  have X : Cx p s m #[Value.ref b] c code R_law 4 D aK b s.heap.size L xs := ⟨hx, hb, hml, hown, fun w hw => hts w (ab_ws_in w hw), hrk⟩
  have hrp : rp D aK b s.heap.size L xs st0 s.heap := by
    refine ⟨?_, by rw [hH]; rfl, by rw [hH]; rfl, by rw [hH]; rfl, hI, fun i q hq => ?_⟩
    · intro k q hq
      rw [wsl_q, hH] at hq
      simp at hq
    · rw [hH] at hq
      simp at hq
  have hret : Rets p l e room_1 s m #[Value.ref b] below meth c (lw_Z below #[Value.ref b] s) D aK b s.heap.size L xs code (mR M) st0 (some (.int 1), st') := by
    intro pc H locs lsA hrtn hrp' hS'
    have hdg : decode code pc = .ok (.ireturn, 1) := by
      rcases hrtn with ⟨h1, -, -⟩ | ⟨x, -, -, h3⟩ | ⟨x, h1, -, -⟩ | ⟨x, h1, -, -⟩
      · cases h1
      · exact h3
      · cases h1
      · cases h1
    intro T hT XT
    exact lw_ret hx hb hr hlocks hdg T hT (stand_widen (Stand.dropFresh (locs := []) (J := locs) XT hS'.2.2) hc1 hc2)
  obtain ⟨sl, g1, g2, -, g4⟩ := snd_run X hN.symm (fun h => by cases h) (mok_mono hok hfr hlo) ⟨hc1, hc2⟩ hret f 0 [.ref 1] [] st0 hf
  cases hlab.symm.trans g1
  have hl := lv_entry [Value.ref b] (n := 4) (Nat.le_of_ble_eq_true rfl)
  rw [lg_entry_eq]
  have := g4 ext_rfl s.heap [] _ hrp va_S.rf hl
  rw [Nat.sub_self, Nat.sub_self] at this
  exact this
