/-! PACKED SIGNS ARE READ: the reading as a function. K pieces of a number at most; sd: whether signs must rise and be 256 at most. -/
def rdn : Nat → List Nat → Option (Nat × List Nat)
  | 0, _ => none
  | _ + 1, [] => none
  | k + 1, c :: r => if c < 128 then some (c, r) else (rdn k r).map fun x => (c % 128 + 128 * x.1, x.2)
def rdA (K : Nat) (sd : Bool) (B : Nat) : Nat → Nat → List Nat → Option (List (Nat × Nat × Nat) × List Nat)
  | 0, _, r => some ([], r)
  | _ + 1, _, [] => none
  | n + 1, bf, c :: r => if sd = true ∧ c < bf then none else (rdn K r).bind fun x => (rdn K x.2).bind fun y => if x.1 < B then (rdA K sd B n (c + 1) y.2).map fun z => ((c, x.1, y.1) :: z.1, z.2) else none
def rdS2 (K : Nat) (sd : Bool) (B : Nat) (v : Option Nat) (r : List Nat) : Option (QX × List Nat) := (rdn K r).bind fun m => if sd = true ∧ 256 < m.1 then none else (rdA K sd B m.1 0 m.2).map fun z => ((v, 0, z.1), z.2)
def rdS (K : Nat) (sd : Bool) (B : Nat) : List Nat → Option (QX × List Nat)
  | [] => none
  | c :: r => if c = 0 then rdS2 K sd B none r else if c = 1 then (rdn K r).bind fun v => rdS2 K sd B (some v.1) v.2 else none
def rdQ (K : Nat) (sd : Bool) (B : Nat) : Nat → List Nat → Option (QS × List Nat)
  | 0, r => some ([], r)
  | n + 1, r => (rdS K sd B r).bind fun x => (rdQ K sd B n x.2).map fun z => (x.1 :: z.1, z.2)
def rdM2 (K : Nat) (sd : Bool) (r : List Nat) : Option MM := (rdn K r).bind fun b => (rdn K b.2).bind fun n => if 1 ≤ n.1 ∧ n.1 ≤ 2401 then (rdQ K sd n.1 n.1 n.2).bind fun z => if z.2 = [] then some (b.1, 0, z.1) else none else none
def rdM (K : Nat) (sd : Bool) : List Nat → Option MM
  | a :: b :: r => if a = 84 ∧ b = 77 then rdM2 K sd r else none
  | _ => none
-- what is written is read
theorem rdn_numK : ∀ {j k v : Nat} {r : List Nat}, v < 128 ^ (j + 1) → j < k → rdn k (numK j v ++ r) = some (v, r)
  | 0, k + 1, v, r, h, _ => by
    show rdn (k + 1) ([v] ++ r) = _
    have : v < 128 := by omega
    show (if v < 128 then _ else _) = _
    rw [if_pos this]; rfl
  | j + 1, k + 1, v, r, h, hk => by
    unfold numK
    by_cases hv : v ≤ 127
    · rw [if_pos hv]
      show (if v < 128 then _ else _) = _
      rw [if_pos (by omega)]; rfl
    · rw [if_neg hv]
      show (if v % 128 + 128 < 128 then _ else _) = _
      rw [if_neg (by omega)]
      have ih := rdn_numK (j := j) (k := k) (v := v / 128) (r := r) (by rw [Nat.pow_succ] at h; exact Nat.div_lt_of_lt_mul (by omega)) (by omega)
      rw [show (numK j (v / 128)).append r = numK j (v / 128) ++ r from rfl, ih]
      show some ((v % 128 + 128) % 128 + 128 * (v / 128), r) = _
      congr 2
      omega
theorem rdn_num {K v : Nat} {r : List Nat} (hK : 6 ≤ K) (h : v ≤ 1000000000000) : rdn K (num v ++ r) = some (v, r) := rdn_numK (by omega) (by omega)
def rsg (l : List (Nat × Nat × Nat)) : Prop := l.Pairwise (fun a b => a.1 < b.1)
theorem rdA_pack {K B : Nat} {sd : Bool} (hK : 6 ≤ K) : ∀ {l : List (Nat × Nat × Nat)} {bf : Nat} {r : List Nat}, (∀ y ∈ l, y.2.1 < B ∧ y.2.1 ≤ 1000000000000 ∧ y.2.2 ≤ 1000000000000) → rsg l → (∀ y ∈ l, bf ≤ y.1) → rdA K sd B l.length bf (arcsP l ++ r) = some (l, r)
  | [], bf, r, _, _, _ => rfl
  | y :: l, bf, r, h, hs, hb => by
    have e : arcsP (y :: l) ++ r = y.1 :: (num y.2.1 ++ (num y.2.2 ++ (arcsP l ++ r))) := by unfold arcsP; simp
    obtain ⟨h1, h2, h3⟩ := h y List.mem_cons_self
    have hby := hb y List.mem_cons_self
    rw [e]
    show (if sd = true ∧ y.1 < bf then _ else _) = _
    rw [if_neg (fun q => by omega), rdn_num hK h2, Option.bind_some, rdn_num hK h3, Option.bind_some, if_pos h1]
    have hs2 := List.pairwise_cons.mp hs
    rw [rdA_pack hK (fun z hz => h z (List.mem_cons_of_mem _ hz)) hs2.2 (fun z hz => hs2.1 z hz)]
    rfl
def okQ (B : Nat) (x : QX) : Prop := bQ x ∧ rsg x.2.2 ∧ x.2.2.length ≤ 256 ∧ ∀ y ∈ x.2.2, y.2.1 < B
def zr (x : QX) : QX := (x.1, 0, x.2.2)
theorem rdS_pack {K B : Nat} {sd : Bool} (hK : 6 ≤ K) {x : QX} {r : List Nat} (h : okQ B x) : rdS K sd B (packS x ++ r) = some (zr x, r) := by
  obtain ⟨⟨b1, b2, b3⟩, h2, h3, h4⟩ := h
  have eA : ∀ v, rdS2 K sd B v (num x.2.2.length ++ (arcsP x.2.2 ++ r)) = some ((v, 0, x.2.2), r) := by
    intro v
    unfold rdS2
    rw [rdn_num hK (by omega), Option.bind_some, if_neg (fun q => by have := q.2; dsimp only at this; omega)]
    dsimp only
    rw [rdA_pack hK (fun y hy => ⟨h4 y hy, by have := (b3 y hy).2.1; omega, (b3 y hy).2.2⟩) h2 (fun _ _ => Nat.zero_le _)]
    rfl
  have hc : x.1 = none ∨ ∃ v, x.1 = some v := by cases x.1 <;> simp
  rcases hc with hx | ⟨v, hx⟩
  · have e : packS x ++ r = 0 :: (num x.2.2.length ++ (arcsP x.2.2 ++ r)) := by unfold packS; rw [hx]; unfold arcsP; simp
    rw [e]
    show rdS2 K sd B none _ = _
    rw [eA]
    unfold zr
    rw [hx]
  · have e : packS x ++ r = 1 :: (num v ++ (num x.2.2.length ++ (arcsP x.2.2 ++ r))) := by unfold packS; rw [hx]; unfold arcsP; simp
    rw [e]
    show ((rdn K _).bind fun v => rdS2 K sd B (some v.1) v.2) = _
    rw [rdn_num hK (b1 v hx), Option.bind_some, eA]
    unfold zr
    rw [hx]
theorem rdQ_pack {K B : Nat} {sd : Bool} (hK : 6 ≤ K) : ∀ {Q : QS} {r : List Nat}, (∀ x ∈ Q, okQ B x) → rdQ K sd B Q.length (Q.flatMap packS ++ r) = some (Q.map zr, r)
  | [], r, _ => rfl
  | x :: Q, r, h => by
    rw [List.flatMap_cons, List.append_assoc]
    show ((rdS K sd B _).bind _) = _
    rw [rdS_pack hK (h x List.mem_cons_self), Option.bind_some]
    show (rdQ K sd B Q.length (Q.flatMap packS ++ r)).map _ = _
    rw [rdQ_pack hK (fun z hz => h z (List.mem_cons_of_mem _ hz))]
    rfl
theorem rdM_pack {K : Nat} {sd : Bool} (hK : 6 ≤ K) {M : MM} (hM : bM M) (h1 : 1 ≤ M.2.2.length) (h : ∀ x ∈ M.2.2, okQ M.2.2.length x) : rdM K sd (packM M) = some (M.1, 0, M.2.2.map zr) := by
  have e : packM M = 84 :: 77 :: (num M.1 ++ (num M.2.2.length ++ (M.2.2.flatMap packS ++ []))) := by unfold packM; simp
  rw [e]
  show rdM2 K sd _ = _
  unfold rdM2
  have hl := hM.2.1
  rw [rdn_num hK hM.1, Option.bind_some, rdn_num hK (by omega), Option.bind_some]
  dsimp only
  rw [if_pos ⟨h1, hl⟩, rdQ_pack hK h, Option.bind_some]
  exact if_pos rfl
-- what is read is sound
theorem rdn_ok : ∀ {k : Nat} {r : List Nat} {v : Nat} {r' : List Nat}, rdn k r = some (v, r') → v < 128 ^ k ∧ ∃ p, r = p ++ r' ∧ 1 ≤ p.length ∧ p.length ≤ k
  | 0, _, _, _, h => by cases h
  | k + 1, [], _, _, h => by cases h
  | k + 1, c :: r, v, r', h => by
    unfold rdn at h
    by_cases hc : c < 128
    · rw [if_pos hc] at h
      cases h
      refine ⟨Nat.lt_of_lt_of_le hc (Nat.le_trans (by omega) (Nat.pow_le_pow_right (by omega) (show 1 ≤ k + 1 by omega))), [c], rfl, by simp, by simp⟩
    · rw [if_neg hc] at h
      cases hq : rdn k r with
      | none => rw [hq] at h; cases h
      | some x =>
        obtain ⟨u, r2⟩ := x
        rw [hq] at h
        cases h
        obtain ⟨g1, p, g2, g3, g4⟩ := rdn_ok hq
        refine ⟨?_, c :: p, by rw [g2]; rfl, by simp, by simpa using g4⟩
        dsimp only
        rw [Nat.pow_succ]
        have : c % 128 < 128 := Nat.mod_lt _ (by omega)
        omega
theorem rdA_ok {K B : Nat} {sd : Bool} : ∀ {n bf : Nat} {r : List Nat} {l : List (Nat × Nat × Nat)} {r' : List Nat}, rdA K sd B n bf r = some (l, r') → l.length = n ∧ (∀ y ∈ l, y.1 ∈ r ∧ y.2.1 < B ∧ y.2.2 < 128 ^ K) ∧ (sd = true → rsg l ∧ ∀ y ∈ l, bf ≤ y.1) ∧ ∃ p, r = p ++ r' ∧ 3 * n ≤ p.length
  | 0, bf, r, l, r', h => by
    cases h
    exact ⟨rfl, fun y hy => by simp at hy, fun _ => ⟨List.Pairwise.nil, fun y hy => by simp at hy⟩, [], rfl, by simp⟩
  | n + 1, bf, [], l, r', h => by cases h
  | n + 1, bf, c :: r, l, r', h => by
    unfold rdA at h
    by_cases hc : sd = true ∧ c < bf
    · rw [if_pos hc] at h; cases h
    · rw [if_neg hc] at h
      cases h1 : rdn K r with
      | none => rw [h1] at h; cases h
      | some x =>
        obtain ⟨s, r1⟩ := x
        rw [h1, Option.bind_some] at h
        dsimp only at h
        cases h2 : rdn K r1 with
        | none => rw [h2] at h; cases h
        | some y =>
          obtain ⟨v, r2⟩ := y
          rw [h2, Option.bind_some] at h
          dsimp only at h
          by_cases hB : s < B
          · rw [if_pos hB] at h
            cases h3 : rdA K sd B n (c + 1) r2 with
            | none => rw [h3] at h; cases h
            | some z =>
              obtain ⟨l2, r3⟩ := z
              rw [h3] at h
              cases h
              obtain ⟨g1, g2, g3, p3, g4, g5⟩ := rdA_ok h3
              obtain ⟨-, p1, q1, q2, -⟩ := rdn_ok h1
              obtain ⟨v1, p2, q3, q4, -⟩ := rdn_ok h2
              dsimp only
              refine ⟨by simp [g1], fun y hy => ?_, fun hsd => ?_, c :: (p1 ++ p2 ++ p3), by rw [q1, q3, g4]; simp, by simp only [List.length_cons, List.length_append]; omega⟩
              · rcases List.mem_cons.mp hy with e | e
                · subst e
                  exact ⟨List.mem_cons_self, hB, v1⟩
                · obtain ⟨m1, m2, m3⟩ := g2 y e
                  exact ⟨by rw [q1, q3]; simp [m1], m2, m3⟩
              · obtain ⟨f1, f2⟩ := g3 hsd
                refine ⟨List.pairwise_cons.mpr ⟨fun y hy => by have := f2 y hy; show c < y.1; omega, f1⟩, fun y hy => ?_⟩
                have hcb : bf ≤ c := by
                  rcases Nat.lt_or_ge c bf with q | q
                  · exact absurd ⟨hsd, q⟩ hc
                  · exact q
                rcases List.mem_cons.mp hy with e | e
                · subst e; exact hcb
                · have := f2 y e; omega
          · rw [if_neg hB] at h; cases h
