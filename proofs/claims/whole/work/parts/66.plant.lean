/-! THE TRIE: object 6, its arrays 7 to 19 -/
section TR
variable {L : Nat} {st : ab_S}
def FX (st : ab_S) : Prop := ∃ L, Fx L st
theorem fxI {o k : Nat} {v : Int32} : FX (uI st o k v) = FX st := propext Iff.rfl
theorem fxJ {o k : Nat} {v : Int64} : FX (uJ st o k v) = FX st := propext Iff.rfl
theorem FX_up {W : Nat → Prop} {st' : ab_S} (h : FX st) (hu : upto W st st') : FX st' := h.elim fun L hL => ⟨L, Fx_up hL hu⟩
theorem g6_0 (h : FX st) : ab_gR st 6 8 0 = some 7 := h.elim fun _ h => by rw [gR_ok (Fx_sh h rfl), Fx_rf h (v := 7) (by decide)]
theorem g6_1 (h : FX st) : ab_gR st 6 8 1 = some 8 := h.elim fun _ h => by rw [gR_ok (Fx_sh h rfl), Fx_rf h (v := 8) (by decide)]
theorem g6_2 (h : FX st) : ab_gR st 6 8 2 = some 9 := h.elim fun _ h => by rw [gR_ok (Fx_sh h rfl), Fx_rf h (v := 9) (by decide)]
theorem g6_3 (h : FX st) : ab_gR st 6 8 3 = some 10 := h.elim fun _ h => by rw [gR_ok (Fx_sh h rfl), Fx_rf h (v := 10) (by decide)]
theorem g6_4 (h : FX st) : ab_gR st 6 8 4 = some 11 := h.elim fun _ h => by rw [gR_ok (Fx_sh h rfl), Fx_rf h (v := 11) (by decide)]
theorem g6_5 (h : FX st) : ab_gR st 6 8 5 = some 12 := h.elim fun _ h => by rw [gR_ok (Fx_sh h rfl), Fx_rf h (v := 12) (by decide)]
theorem g6_6 (h : FX st) : ab_gR st 6 8 6 = some 13 := h.elim fun _ h => by rw [gR_ok (Fx_sh h rfl), Fx_rf h (v := 13) (by decide)]
theorem g6_7 (h : FX st) : ab_gR st 6 8 7 = some 14 := h.elim fun _ h => by rw [gR_ok (Fx_sh h rfl), Fx_rf h (v := 14) (by decide)]
theorem g6_8 (h : FX st) : ab_gR st 6 8 8 = some 15 := h.elim fun _ h => by rw [gR_ok (Fx_sh h rfl), Fx_rf h (v := 15) (by decide)]
theorem g6_9 (h : FX st) : ab_gR st 6 8 9 = some 16 := h.elim fun _ h => by rw [gR_ok (Fx_sh h rfl), Fx_rf h (v := 16) (by decide)]
theorem g6_10 (h : FX st) : ab_gR st 6 8 10 = some 17 := h.elim fun _ h => by rw [gR_ok (Fx_sh h rfl), Fx_rf h (v := 17) (by decide)]
theorem g6_11 (h : FX st) : ab_gR st 6 8 11 = some 18 := h.elim fun _ h => by rw [gR_ok (Fx_sh h rfl), Fx_rf h (v := 18) (by decide)]
theorem g6_12 (h : FX st) : ab_gR st 6 8 12 = some 19 := h.elim fun _ h => by rw [gR_ok (Fx_sh h rfl), Fx_rf h (v := 19) (by decide)]
theorem i6 (h : FX st) {k : Nat} : ab_gI st 6 8 k = some (sI st 6 k) := h.elim fun _ h => gI_ok (Fx_sh h rfl)
theorem p6 (h : FX st) {k : Nat} {v : Int32} : ab_pI st 6 8 k v = some (uI st 6 k v) := h.elim fun _ h => pI_ok (Fx_sh h rfl)
theorem c6 (h : FX st) {r : Option ab_R} : ab_rc st 6 8 r = r := h.elim fun _ h => rc_ok (Fx_sh h rfl)
theorem w7 (h : FX st) {n : Nat} (hn : n < 2401) {v : Int32} : ab_wI st 7 (nI n) v = some (uI st 7 n v) := h.elim fun _ h => wI_ok (Fx_sh h (o := 7) rfl) hn (by omega)
theorem r7 (h : FX st) {n : Nat} (hn : n < 2401) : ab_rI st 7 (nI n) = some (sI st 7 n) := h.elim fun _ h => rI_ok (Fx_sh h (o := 7) rfl) hn (by omega)
theorem w8 (h : FX st) {n : Nat} (hn : n < 2401) {v : Int32} : ab_wI st 8 (nI n) v = some (uI st 8 n v) := h.elim fun _ h => wI_ok (Fx_sh h (o := 8) rfl) hn (by omega)
theorem r8 (h : FX st) {n : Nat} (hn : n < 2401) : ab_rI st 8 (nI n) = some (sI st 8 n) := h.elim fun _ h => rI_ok (Fx_sh h (o := 8) rfl) hn (by omega)
theorem w9 (h : FX st) {n : Nat} (hn : n < 2401) {v : Int32} : ab_wI st 9 (nI n) v = some (uI st 9 n v) := h.elim fun _ h => wI_ok (Fx_sh h (o := 9) rfl) hn (by omega)
theorem r9 (h : FX st) {n : Nat} (hn : n < 2401) : ab_rI st 9 (nI n) = some (sI st 9 n) := h.elim fun _ h => rI_ok (Fx_sh h (o := 9) rfl) hn (by omega)
theorem w12 (h : FX st) {n : Nat} (hn : n < 2401) {v : Int32} : ab_wI st 12 (nI n) v = some (uI st 12 n v) := h.elim fun _ h => wI_ok (Fx_sh h (o := 12) rfl) hn (by omega)
theorem r12 (h : FX st) {n : Nat} (hn : n < 2401) : ab_rI st 12 (nI n) = some (sI st 12 n) := h.elim fun _ h => rI_ok (Fx_sh h (o := 12) rfl) hn (by omega)
theorem w13 (h : FX st) {n : Nat} (hn : n < 2401) {v : Int32} : ab_wI st 13 (nI n) v = some (uI st 13 n v) := h.elim fun _ h => wI_ok (Fx_sh h (o := 13) rfl) hn (by omega)
theorem r13 (h : FX st) {n : Nat} (hn : n < 2401) : ab_rI st 13 (nI n) = some (sI st 13 n) := h.elim fun _ h => rI_ok (Fx_sh h (o := 13) rfl) hn (by omega)
theorem w14 (h : FX st) {n : Nat} (hn : n < 2401) {v : Int32} : ab_wI st 14 (nI n) v = some (uI st 14 n v) := h.elim fun _ h => wI_ok (Fx_sh h (o := 14) rfl) hn (by omega)
theorem r14 (h : FX st) {n : Nat} (hn : n < 2401) : ab_rI st 14 (nI n) = some (sI st 14 n) := h.elim fun _ h => rI_ok (Fx_sh h (o := 14) rfl) hn (by omega)
theorem w15 (h : FX st) {n : Nat} (hn : n < 2401) {v : Int32} : ab_wI st 15 (nI n) v = some (uI st 15 n v) := h.elim fun _ h => wI_ok (Fx_sh h (o := 15) rfl) hn (by omega)
theorem r15 (h : FX st) {n : Nat} (hn : n < 2401) : ab_rI st 15 (nI n) = some (sI st 15 n) := h.elim fun _ h => rI_ok (Fx_sh h (o := 15) rfl) hn (by omega)
theorem w16 (h : FX st) {n : Nat} (hn : n < 2401) {v : Int32} : ab_wI st 16 (nI n) v = some (uI st 16 n v) := h.elim fun _ h => wI_ok (Fx_sh h (o := 16) rfl) hn (by omega)
theorem r16 (h : FX st) {n : Nat} (hn : n < 2401) : ab_rI st 16 (nI n) = some (sI st 16 n) := h.elim fun _ h => rI_ok (Fx_sh h (o := 16) rfl) hn (by omega)
theorem w17 (h : FX st) {n : Nat} (hn : n < 2401) {v : Int32} : ab_wI st 17 (nI n) v = some (uI st 17 n v) := h.elim fun _ h => wI_ok (Fx_sh h (o := 17) rfl) hn (by omega)
theorem r17 (h : FX st) {n : Nat} (hn : n < 2401) : ab_rI st 17 (nI n) = some (sI st 17 n) := h.elim fun _ h => rI_ok (Fx_sh h (o := 17) rfl) hn (by omega)
theorem w18 (h : FX st) {n : Nat} (hn : n < 4096) {v : Int32} : ab_wI st 18 (nI n) v = some (uI st 18 n v) := h.elim fun _ h => wI_ok (Fx_sh h (o := 18) rfl) hn (by omega)
theorem r18 (h : FX st) {n : Nat} (hn : n < 4096) : ab_rI st 18 (nI n) = some (sI st 18 n) := h.elim fun _ h => rI_ok (Fx_sh h (o := 18) rfl) hn (by omega)
theorem w19 (h : FX st) {n : Nat} (hn : n < 13) {v : Int32} : ab_wI st 19 (nI n) v = some (uI st 19 n v) := h.elim fun _ h => wI_ok (Fx_sh h (o := 19) rfl) hn (by omega)
theorem r19 (h : FX st) {n : Nat} (hn : n < 13) : ab_rI st 19 (nI n) = some (sI st 19 n) := h.elim fun _ h => rI_ok (Fx_sh h (o := 19) rfl) hn (by omega)
theorem w10 (h : FX st) {n : Nat} (hn : n < 2401) {v : Int64} : ab_wJ st 10 (nI n) v = some (uJ st 10 n v) := h.elim fun _ h => wJ_ok (Fx_sh h (o := 10) rfl) hn (by omega)
theorem r10 (h : FX st) {n : Nat} (hn : n < 2401) : ab_rJ st 10 (nI n) = some (sJ st 10 n) := h.elim fun _ h => rJ_ok (Fx_sh h (o := 10) rfl) hn (by omega)
theorem w11 (h : FX st) {n : Nat} (hn : n < 2401) {v : Int64} : ab_wJ st 11 (nI n) v = some (uJ st 11 n v) := h.elim fun _ h => wJ_ok (Fx_sh h (o := 11) rfl) hn (by omega)
theorem r11 (h : FX st) {n : Nat} (hn : n < 2401) : ab_rJ st 11 (nI n) = some (sJ st 11 n) := h.elim fun _ h => rJ_ok (Fx_sh h (o := 11) rfl) hn (by omega)
def growS (st : ab_S) (n : Nat) (a b : Int32) (m : Int64) : ab_S := uI (uI (uJ (uJ (uI (uI (uI st 7 n a) 8 n b) 9 n 0) 10 n m) 11 n (-1)) 12 n (-1)) 6 13 (nI n + 1)
theorem grow_ok (hF : FX st) {n : Nat} (hn : n < 2401) (hs : sI st 6 13 = nI n) (a b : Int32) (m : Int64) : f_X8_grow 6 a b m st = some (some (.int (nI n)), growS st n a b m) := by
  have h1 : ¬ (2400 : Int32) < nI n := by
    show ¬ nI 2400 < nI n
    rw [c_lt (by omega) (by omega)]; omega
  rw [e_X8_grow_0, c6 hF]
  simp only [i6, g6_0, g6_1, g6_2, g6_3, g6_4, g6_5, w7, w8, w9, w10, w11, w12, p6, fxI, fxJ, hF, hn, hs, h1, Option.bind_some, if_false]
  rfl
end TR
