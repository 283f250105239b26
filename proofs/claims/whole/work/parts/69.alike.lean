/-! ALIKE: linked lists, what two beginnings have in common -/
/-- a list of places, linked through array a from f on -/
def lnk (st : ab_S) (a : Nat) : Int32 → List Nat → Prop
  | f, [] => f = -1
  | f, k :: l => f = nI k ∧ k < 2401 ∧ lnk st a (sI st a k) l
theorem lnk_eq {st st' : ab_S} {a : Nat} : ∀ {l : List Nat} {f : Int32}, (∀ k ∈ l, sI st' a k = sI st a k) → lnk st a f l → lnk st' a f l
  | [], _, _, h => h
  | k :: l, f, he, h => by
    obtain ⟨h1, h2, h3⟩ := h
    refine ⟨h1, h2, ?_⟩
    rw [he k (List.mem_cons_self ..)]
    exact lnk_eq (fun j hj => he j (List.mem_cons_of_mem _ hj)) h3
theorem lnk_m1 {st : ab_S} {a : Nat} {l : List Nat} {f : Int32} (h : lnk st a f l) : (f = -1) ↔ l = [] := by
  cases l with
  | nil => exact ⟨fun _ => rfl, fun _ => h⟩
  | cons k l =>
    have := h.2.1
    rw [h.1]
    exact ⟨fun q => by rw [c_m1e (by omega)] at q; exact q.elim, fun q => by simp at q⟩
theorem cmp_eq {a b : Int64} : (lg_cmp a b = 0) ↔ a = b := by
  constructor
  · intro h
    have h1 : ¬ a < b := fun q => by have := (lg_cmp_lt _ _).mpr q; rw [h] at this; exact absurd this (by decide)
    have h2 : ¬ b < a := fun q => by have := (lg_cmp_gt _ _).mpr q; rw [h] at this; exact absurd this (by decide)
    rw [Int64.not_lt] at h1 h2
    exact Int64.le_antisymm h2 h1
  · rintro rfl
    have h1 : ¬ lg_cmp a a < 0 := fun q => Int64.lt_irrefl ((lg_cmp_lt _ _).mp q)
    have h2 : ¬ 0 < lg_cmp a a := fun q => Int64.lt_irrefl ((lg_cmp_gt _ _).mp q)
    rw [Int32.not_lt] at h1 h2
    exact Int32.le_antisymm h2 h1
section AL
variable {L : Nat} {st : ab_S}
def lastv (st : ab_S) (v : Nat) : Int64 := if sJ st 11 v = -1 then -1 else sJ st 11 v - sJ st 10 v
def dat (st : ab_S) (v j : Nat) : Int32 × Int32 × Int64 := (sI st 8 j, sI st 14 j, sJ st 10 j - sJ st 10 v)
theorem lastOut_ok (hF : FX st) {v : Nat} (hv : v < 2401) : f_X8_lastOutput 6 (nI v) st = some (some (.long (lastv st v)), st) := by
  rw [e_X8_lastOutput_0, c6 hF, g6_4 hF, Option.bind_some, r11 hF hv, Option.bind_some]
  unfold lastv
  by_cases h : sJ st 11 v = -1
  · rw [if_pos (cmp_eq.mpr h), if_pos h]
  · rw [if_neg (fun q => h (cmp_eq.mp q)), if_neg h, Option.bind_some, r11 hF hv, Option.bind_some, g6_3 hF, Option.bind_some, r10 hF hv, Option.bind_some]
theorem output_ok (hF : FX st) {v j : Nat} (hv : v < 2401) (hj : j < 2401) : f_X8_output 6 (nI v) (nI j) st = some (some (.long (sJ st 10 j - sJ st 10 v)), st) := by
  rw [e_X8_output_0, c6 hF, g6_3 hF, Option.bind_some, r10 hF hj, Option.bind_some, Option.bind_some, r10 hF hv, Option.bind_some]
theorem same49 (hF : FX st) {x y : Nat} (hx : x < 2401) (hy : y < 2401) : ∀ (l1 l2 : List Nat) (f1 f2 : Int32) (s : Nat), lnk st 13 f1 l1 → lnk st 13 f2 l2 → s + l1.length ≤ 256 → L_X8_haveSameRest_49 6 (nI x) (nI y) f1 f2 (nI s) st = some (some (.int (if l1.map (dat st x) = l2.map (dat st y) then 1 else 0)), st)
  | [], l2, f1, f2, s, h1, h2, hs => by
    have hf : f1 = -1 := h1
    have e141 : L_X8_haveSameRest_141 f1 f2 st = some (some (.int (if ([] : List Nat).map (dat st x) = l2.map (dat st y) then 1 else 0)), st) := by
      rw [e_X8_haveSameRest_141, if_pos hf, z_0, z_1]
      have := lnk_m1 h2
      cases l2 with
      | nil => rw [if_pos (this.mpr rfl), if_pos (show List.map (dat st x) [] = List.map (dat st y) [] from rfl)]
      | cons k l => rw [if_neg (fun q => by have := this.mp q; simp at this), if_neg (by simp)]
    rw [e_X8_haveSameRest_49, e141, if_pos hf]
    simp
  | k :: l1, [], f1, f2, s, h1, h2, hs => by
    have hf : f2 = -1 := h2
    have hk := h1.2.1
    have hf1 : ¬ f1 = -1 := by rw [h1.1, c_m1e (by omega)]; exact id
    rw [e_X8_haveSameRest_49, if_neg hf1, if_pos hf, e_X8_haveSameRest_141, if_neg hf1, z_0]
    simp
  | k :: l1, m :: l2, f1, f2, s, h1, h2, hs => by
    obtain ⟨rfl, hk, h1'⟩ := h1
    obtain ⟨rfl, hm, h2'⟩ := h2
    rw [List.length_cons] at hs
    rw [e_X8_haveSameRest_49, nl 256, if_neg (by rw [c_le (by omega) (by omega)]; omega), if_neg (by rw [c_m1e (by omega)]; exact id), if_neg (by rw [c_m1e (by omega)]; exact id), g6_1 hF, Option.bind_some, r8 hF hk, Option.bind_some, Option.bind_some, r8 hF hm, Option.bind_some, z_0]
    have hl : ((k :: l1).map (dat st x) = (m :: l2).map (dat st y)) ↔ (sI st 8 k = sI st 8 m ∧ sI st 14 k = sI st 14 m ∧ sJ st 10 k - sJ st 10 x = sJ st 10 m - sJ st 10 y) ∧ l1.map (dat st x) = l2.map (dat st y) := by
      rw [List.map_cons, List.map_cons, List.cons.injEq]
      unfold dat
      rw [Prod.mk.injEq, Prod.mk.injEq]
    by_cases c1 : sI st 8 k = sI st 8 m
    · rw [if_pos c1, g6_7 hF, Option.bind_some, r14 hF hk, Option.bind_some, Option.bind_some, r14 hF hm, Option.bind_some]
      by_cases c2 : sI st 14 k = sI st 14 m
      · rw [if_pos c2, output_ok hF hx hk, rl_ok, output_ok hF hy hm, rl_ok]
        by_cases c3 : sJ st 10 k - sJ st 10 x = sJ st 10 m - sJ st 10 y
        · rw [if_pos (cmp_eq.mpr c3), g6_6 hF, Option.bind_some, r13 hF hk, Option.bind_some, Option.bind_some, r13 hF hm, Option.bind_some, nI_1, same49 hF hx hy l1 l2 _ _ (s + 1) h1' h2' (by omega)]
          by_cases c4 : l1.map (dat st x) = l2.map (dat st y)
          · rw [if_pos c4, if_pos (hl.mpr ⟨⟨c1, c2, c3⟩, c4⟩)]
          · rw [if_neg c4, if_neg (fun q => c4 (hl.mp q).2)]
        · rw [if_neg (fun q => c3 (cmp_eq.mp q)), if_neg (fun q => c3 (hl.mp q).1.2.2), z_0]
      · rw [if_neg c2, if_neg (fun q => c2 (hl.mp q).1.2.1)]
    · rw [if_neg c1, if_neg (fun q => c1 (hl.mp q).1.1)]
theorem same_ok (hF : FX st) {x y : Nat} (hx : x < 2401) (hy : y < 2401) {l1 l2 : List Nat} (h1 : lnk st 13 (sI st 12 x) l1) (h2 : lnk st 13 (sI st 12 y) l2) (hl : l1.length ≤ 256) : f_X8_haveSameRest 6 (nI x) (nI y) st = some (some (.int (if sI st 9 x = sI st 9 y ∧ lastv st x = lastv st y ∧ l1.map (dat st x) = l2.map (dat st y) then 1 else 0)), st) := by
  rw [e_X8_haveSameRest_0, c6 hF, g6_2 hF, Option.bind_some, r9 hF hx, Option.bind_some, Option.bind_some, r9 hF hy, Option.bind_some, z_0]
  by_cases c1 : sI st 9 x = sI st 9 y
  · rw [if_pos c1, lastOut_ok hF hx, rl_ok, lastOut_ok hF hy, rl_ok]
    by_cases c2 : lastv st x = lastv st y
    · rw [if_pos (cmp_eq.mpr c2), g6_5 hF, Option.bind_some, r12 hF hx, Option.bind_some, Option.bind_some, r12 hF hy, Option.bind_some]
      show L_X8_haveSameRest_49 6 (nI x) (nI y) (sI st 12 x) (sI st 12 y) (nI 0) st = _
      rw [same49 hF hx hy l1 l2 _ _ 0 h1 h2 (by omega)]
      by_cases c3 : l1.map (dat st x) = l2.map (dat st y)
      · rw [if_pos c3, if_pos ⟨c1, c2, c3⟩]
      · rw [if_neg c3, if_neg (fun q => c3 q.2.2)]
    · rw [if_neg (fun q => c2 (cmp_eq.mp q)), if_neg (fun q => c2 q.2.1), z_0]
  · rw [if_neg c1, if_neg (fun q => c1 q.1)]
abbrev KK : Int64 := -7046029254386353131
def mix1 (m : Int64) (d : Int32 × Int32 × Int64) : Int64 := ((((((m + d.1.toInt64) * KK) ^^^ (((m + d.1.toInt64) * KK).toUInt64 >>> ((29 : Int32).toInt64.toUInt64 &&& Int64.toUInt64 63)).toInt64) + d.2.1.toInt64) * KK) ^^^ ((((((m + d.1.toInt64) * KK) ^^^ (((m + d.1.toInt64) * KK).toUInt64 >>> ((29 : Int32).toInt64.toUInt64 &&& Int64.toUInt64 63)).toInt64) + d.2.1.toInt64) * KK).toUInt64 >>> ((29 : Int32).toInt64.toUInt64 &&& Int64.toUInt64 63)).toInt64) + d.2.2
def mixV (m : Int64) (l : List (Int32 × Int32 × Int64)) : Int32 := (((l.foldl mix1 m) * KK).toUInt64 >>> ((40 : Int32).toInt64.toUInt64 &&& Int64.toUInt64 63)).toInt64.toInt32
theorem mix17 (hF : FX st) {x : Nat} (hx : x < 2401) : ∀ (l : List Nat) (f : Int32) (m : Int64) (s : Nat), lnk st 13 f l → s + l.length ≤ 256 → L_X8_mixed_17 6 (nI x) m f (nI s) st = some (some (.int (mixV m (l.map (dat st x)))), st)
  | [], f, m, s, h, hs => by
    have hf : f = -1 := h
    have e96 : L_X8_mixed_96 m st = some (some (.int (mixV m (([] : List Nat).map (dat st x)))), st) := by
      rw [e_X8_mixed_96]; rfl
    rw [e_X8_mixed_17, if_pos hf, e96]
    simp
  | k :: l, f, m, s, h, hs => by
    obtain ⟨rfl, hk, h'⟩ := h
    rw [List.length_cons] at hs
    rw [e_X8_mixed_17, nl 256, if_neg (by rw [c_le (by omega) (by omega)]; omega), if_neg (by rw [c_m1e (by omega)]; exact id), g6_1 hF, Option.bind_some, r8 hF hk, Option.bind_some, g6_7 hF, Option.bind_some, r14 hF hk, Option.bind_some, output_ok hF hx hk, rl_ok, g6_6 hF, Option.bind_some, r13 hF hk, Option.bind_some, nI_1, mix17 hF hx l _ _ (s + 1) h' (by omega)]
    rfl
theorem mixed_ok (hF : FX st) {x : Nat} (hx : x < 2401) {l : List Nat} (h : lnk st 13 (sI st 12 x) l) (hl : l.length ≤ 256) : f_X8_mixed 6 (nI x) st = some (some (.int (mixV (lastv st x) (l.map (dat st x)))), st) := by
  rw [e_X8_mixed_0, c6 hF, lastOut_ok hF hx, rl_ok, g6_5 hF, Option.bind_some, r12 hF hx, Option.bind_some]
  exact mix17 hF hx l _ _ 0 h (by omega)
end AL
theorem sub_len {α : Type} [DecidableEq α] : ∀ {l R : List α}, l.Nodup → (∀ x ∈ l, x ∈ R) → l.length ≤ R.length
  | [], _, _, _ => Nat.zero_le _
  | x :: l, R, hn, hs => by
    have hn' := List.nodup_cons.mp hn
    have hx := hs x (List.mem_cons_self ..)
    have h1 := List.length_erase_of_mem hx
    have h2 := List.length_pos_of_mem hx
    have := sub_len (l := l) (R := R.erase x) hn'.2 (fun y hy => by
      refine (List.mem_erase_of_ne (fun q => ?_)).mpr (hs y (List.mem_cons_of_mem _ hy))
      exact hn'.1 (q ▸ hy))
    rw [List.length_cons]
    omega
