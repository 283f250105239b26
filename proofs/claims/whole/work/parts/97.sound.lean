theorem kc_X11_copy : ab_okC b_X11_copy RX11 false m_X11_copy = true := by decide +kernel
theorem kf_X11_copy : ab_okF RX11 m_X11_copy = true := by decide +kernel
theorem mk_X11_copy (l : Launch) : mok l b_X11_copy RX11 false 0 0 m_X11_copy := ⟨okC_e kc_X11_copy, okF_e kf_X11_copy, fun _ h => absurd h List.not_mem_nil⟩
theorem kd_X11_copy : ab_okY y_X11_copy b_X11_copy 4 none 1 3 11 = true := by decide +kernel
theorem ct_X11_copy (l : Launch) : ab_spec l y_X11_copy b_X11_copy 4 none 0 0 1 3 11 g_X11_copy := by
  intro as st k r h
  unfold g_X11_copy at h
  split at h
  · obtain ⟨t, hf, hk⟩ := rv_e h
    obtain ⟨hs, hf⟩ := rc_e hf
    obtain ⟨he, hc⟩ := ct_of (y := y_X11_copy) (ret := none) (rs := []) one_X11_copy (mk_X11_copy l) rfl (by decide +kernel) (fun h => by cases h) (Or.inl ⟨rfl, rfl⟩) rfl (Nat.le_of_ble_eq_true rfl) rfl (Nat.le_of_ble_eq_true rfl) hf
    exact ⟨rfl, fun _ => ⟨_, _, rfl, hs⟩, _, t, hk, Nat.le_of_ble_eq_true rfl, he, hc⟩
  · cases h
theorem kc_X11_come : ab_okC b_X11_come RX11 false m_X11_come = true := by decide +kernel
theorem kf_X11_come : ab_okF RX11 m_X11_come = true := by decide +kernel
theorem mk_X11_come (l : Launch) : mok l b_X11_come RX11 false 1 23 m_X11_come := ⟨okC_e kc_X11_come, okF_e kf_X11_come, List.forall_mem_cons.mpr ⟨Or.inl (cee_of kd_X11_copy (by decide +kernel) (ct_X11_copy l) rfl), fun _ h => absurd h List.not_mem_nil⟩⟩
theorem kd_X11_come : ab_okY y_X11_come b_X11_come 2 none 1 2 11 = true := by decide +kernel
theorem ct_X11_come (l : Launch) : ab_spec l y_X11_come b_X11_come 2 none 1 23 1 2 11 g_X11_come := by
  intro as st k r h
  unfold g_X11_come at h
  split at h
  · obtain ⟨t, hf, hk⟩ := rv_e h
    obtain ⟨hs, hf⟩ := rc_e hf
    obtain ⟨he, hc⟩ := ct_of (y := y_X11_come) (ret := none) (rs := []) one_X11_come (mk_X11_come l) rfl (by decide +kernel) (fun h => by cases h) (Or.inl ⟨rfl, rfl⟩) rfl (Nat.le_of_ble_eq_true rfl) rfl (Nat.le_of_ble_eq_true rfl) hf
    exact ⟨rfl, fun _ => ⟨_, _, rfl, hs⟩, _, t, hk, Nat.le_of_ble_eq_true rfl, he, hc⟩
  · cases h
theorem kc_X11_join : ab_okC b_X11_join RX11 false m_X11_join = true := by decide +kernel
theorem kf_X11_join : ab_okF RX11 m_X11_join = true := by decide +kernel
theorem mk_X11_join (l : Launch) : mok l b_X11_join RX11 false 2 51 m_X11_join := ⟨okC_e kc_X11_join, okF_e kf_X11_join, List.forall_mem_cons.mpr ⟨Or.inl (cee_of kd_X11_isIn (by decide +kernel) (ct_X11_isIn l) rfl), List.forall_mem_cons.mpr ⟨Or.inl (cee_of kd_X11_isDictionary (by decide +kernel) (ct_X11_isDictionary l) rfl), List.forall_mem_cons.mpr ⟨Or.inl (cee_of kd_X11_append (by decide +kernel) (ct_X11_append l) rfl), List.forall_mem_cons.mpr ⟨Or.inl (cee_of kd_X11_lesser (by decide +kernel) (ct_X11_lesser l) rfl), List.forall_mem_cons.mpr ⟨Or.inl (cee_of kd_X11_compareTerms (by decide +kernel) (ct_X11_compareTerms l) rfl), List.forall_mem_cons.mpr ⟨Or.inl (cee_of kd_X11_come (by decide +kernel) (ct_X11_come l) rfl), fun _ h => absurd h List.not_mem_nil⟩⟩⟩⟩⟩⟩⟩
theorem kd_X11_join : ab_okY y_X11_join b_X11_join 14 (some .int) 1 5 11 = true := by decide +kernel
theorem ct_X11_join (l : Launch) : ab_spec l y_X11_join b_X11_join 14 (some .int) 2 51 1 5 11 g_X11_join := by
  intro as st k r h
  unfold g_X11_join at h
  split at h
  · obtain ⟨x, t, hf, hk⟩ := ri_e h
    obtain ⟨hs, hf⟩ := rc_e hf
    obtain ⟨he, hc⟩ := ct_of (y := y_X11_join) (ret := (some .int)) (rs := [.int x]) one_X11_join (mk_X11_join l) rfl (by decide +kernel) (fun h => by cases h) (Or.inr (Or.inl ⟨rfl, rfl⟩)) rfl (Nat.le_of_ble_eq_true rfl) rfl (Nat.le_of_ble_eq_true rfl) hf
    exact ⟨rfl, fun _ => ⟨_, _, rfl, hs⟩, _, t, hk, Nat.le_of_ble_eq_true rfl, he, hc⟩
  · cases h
theorem kc_X3_writeNumber : ab_okC b_X3_writeNumber RX3 false m_X3_writeNumber = true := by decide +kernel
theorem kf_X3_writeNumber : ab_okF RX3 m_X3_writeNumber = true := by decide +kernel
theorem mk_X3_writeNumber (l : Launch) : mok l b_X3_writeNumber RX3 false 1 21 m_X3_writeNumber := ⟨okC_e kc_X3_writeNumber, okF_e kf_X3_writeNumber, List.forall_mem_cons.mpr ⟨Or.inl (cee_of kd_X6_put (by decide +kernel) (ct_X6_put l) rfl), fun _ h => absurd h List.not_mem_nil⟩⟩
theorem kd_X3_writeNumber : ab_okY y_X3_writeNumber b_X3_writeNumber 6 none 0 2 3 = true := by decide +kernel
theorem ct_X3_writeNumber (l : Launch) : ab_spec l y_X3_writeNumber b_X3_writeNumber 6 none 1 21 0 2 3 g_X3_writeNumber := by
  intro as st k r h
  unfold g_X3_writeNumber at h
  split at h
  · obtain ⟨t, hf, hk⟩ := rv_e h
    obtain ⟨he, hc⟩ := ct_of (y := y_X3_writeNumber) (ret := none) (rs := []) one_X3_writeNumber (mk_X3_writeNumber l) rfl (by decide +kernel) (fun h => by cases h) (Or.inl ⟨rfl, rfl⟩) rfl (Nat.le_of_ble_eq_true rfl) rfl (Nat.le_of_ble_eq_true rfl) hf
    exact ⟨rfl, fun h => absurd rfl h, _, t, hk, Nat.le_of_ble_eq_true rfl, he, hc⟩
  · cases h
theorem kc_X1_lastOf : ab_okC b_X1_lastOf RX1 false m_X1_lastOf = true := by decide +kernel
theorem kf_X1_lastOf : ab_okF RX1 m_X1_lastOf = true := by decide +kernel
theorem mk_X1_lastOf (l : Launch) : mok l b_X1_lastOf RX1 false 1 21 m_X1_lastOf := ⟨okC_e kc_X1_lastOf, okF_e kf_X1_lastOf, List.forall_mem_cons.mpr ⟨Or.inl (cee_of kd_X1_has (by decide +kernel) (ct_X1_has l) rfl), fun _ h => absurd h List.not_mem_nil⟩⟩
theorem kd_X1_lastOf : ab_okY y_X1_lastOf b_X1_lastOf 2 (some .long) 1 2 1 = true := by decide +kernel
theorem ct_X1_lastOf (l : Launch) : ab_spec l y_X1_lastOf b_X1_lastOf 2 (some .long) 1 21 1 2 1 g_X1_lastOf := by
  intro as st k r h
  unfold g_X1_lastOf at h
  split at h
  · obtain ⟨x, t, hf, hk⟩ := rl_e h
    obtain ⟨hs, hf⟩ := rc_e hf
    obtain ⟨he, hc⟩ := ct_of (y := y_X1_lastOf) (ret := (some .long)) (rs := [.long x]) one_X1_lastOf (mk_X1_lastOf l) rfl (by decide +kernel) (fun h => by cases h) (Or.inr (Or.inr (Or.inr (Or.inl ⟨rfl, rfl⟩)))) rfl (Nat.le_of_ble_eq_true rfl) rfl (Nat.le_of_ble_eq_true rfl) hf
    exact ⟨rfl, fun _ => ⟨_, _, rfl, hs⟩, _, t, hk, Nat.le_of_ble_eq_true rfl, he, hc⟩
  · cases h
theorem kc_X3_writeState : ab_okC b_X3_writeState RX3 false m_X3_writeState = true := by decide +kernel
theorem kf_X3_writeState : ab_okF RX3 m_X3_writeState = true := by decide +kernel
theorem mk_X3_writeState (l : Launch) : mok l b_X3_writeState RX3 false 4 88 m_X3_writeState := ⟨okC_e kc_X3_writeState, okF_e kf_X3_writeState, List.forall_mem_cons.mpr ⟨Or.inl (cee_of kd_X6_put (by decide +kernel) (ct_X6_put l) rfl), List.forall_mem_cons.mpr ⟨Or.inl (cee_of kd_X3_writeNumber (by decide +kernel) (ct_X3_writeNumber l) rfl), List.forall_mem_cons.mpr ⟨Or.inl (cee_of kd_X1_lastOf (by decide +kernel) (ct_X1_lastOf l) rfl), List.forall_mem_cons.mpr ⟨Or.inl (cee_of kd_X1_arcsOf (by decide +kernel) (ct_X1_arcsOf l) rfl), List.forall_mem_cons.mpr ⟨Or.inl (cee_of kd_X1_tellArc (by decide +kernel) (ct_X1_tellArc l) rfl), fun _ h => absurd h List.not_mem_nil⟩⟩⟩⟩⟩⟩
theorem kd_X3_writeState : ab_okY y_X3_writeState b_X3_writeState 8 none 1 4 3 = true := by decide +kernel
theorem ct_X3_writeState (l : Launch) : ab_spec l y_X3_writeState b_X3_writeState 8 none 4 88 1 4 3 g_X3_writeState := by
  intro as st k r h
  unfold g_X3_writeState at h
  split at h
  · obtain ⟨t, hf, hk⟩ := rv_e h
    obtain ⟨hs, hf⟩ := rc_e hf
    obtain ⟨he, hc⟩ := ct_of (y := y_X3_writeState) (ret := none) (rs := []) one_X3_writeState (mk_X3_writeState l) rfl (by decide +kernel) (fun h => by cases h) (Or.inl ⟨rfl, rfl⟩) rfl (Nat.le_of_ble_eq_true rfl) rfl (Nat.le_of_ble_eq_true rfl) hf
    exact ⟨rfl, fun _ => ⟨_, _, rfl, hs⟩, _, t, hk, Nat.le_of_ble_eq_true rfl, he, hc⟩
  · cases h
theorem kc_X3_write : ab_okC b_X3_write RX3 false m_X3_write = true := by decide +kernel
theorem kf_X3_write : ab_okF RX3 m_X3_write = true := by decide +kernel
theorem mk_X3_write (l : Launch) : mok l b_X3_write RX3 false 5 115 m_X3_write := ⟨okC_e kc_X3_write, okF_e kf_X3_write, List.forall_mem_cons.mpr ⟨Or.inl (cee_of kd_X6_clear (by decide +kernel) (ct_X6_clear l) rfl), List.forall_mem_cons.mpr ⟨Or.inl (cee_of kd_X6_put (by decide +kernel) (ct_X6_put l) rfl), List.forall_mem_cons.mpr ⟨Or.inl (cee_of kd_X3_writeNumber (by decide +kernel) (ct_X3_writeNumber l) rfl), List.forall_mem_cons.mpr ⟨Or.inl (cee_of kd_X3_writeState (by decide +kernel) (ct_X3_writeState l) rfl), fun _ h => absurd h List.not_mem_nil⟩⟩⟩⟩⟩
theorem kd_X3_write : ab_okY y_X3_write b_X3_write 4 none 1 3 3 = true := by decide +kernel
theorem ct_X3_write (l : Launch) : ab_spec l y_X3_write b_X3_write 4 none 5 115 1 3 3 g_X3_write := by
  intro as st k r h
  unfold g_X3_write at h
  split at h
  · obtain ⟨t, hf, hk⟩ := rv_e h
    obtain ⟨hs, hf⟩ := rc_e hf
    obtain ⟨he, hc⟩ := ct_of (y := y_X3_write) (ret := none) (rs := []) one_X3_write (mk_X3_write l) rfl (by decide +kernel) (fun h => by cases h) (Or.inl ⟨rfl, rfl⟩) rfl (Nat.le_of_ble_eq_true rfl) rfl (Nat.le_of_ble_eq_true rfl) hf
    exact ⟨rfl, fun _ => ⟨_, _, rfl, hs⟩, _, t, hk, Nat.le_of_ble_eq_true rfl, he, hc⟩
  · cases h
theorem kc_X10_packed : ab_okC b_X10_packed RX10 false m_X10_packed = true := by decide +kernel
theorem kf_X10_packed : ab_okF RX10 m_X10_packed = true := by decide +kernel
theorem mk_X10_packed (l : Launch) : mok l b_X10_packed RX10 false 6 138 m_X10_packed := ⟨okC_e kc_X10_packed, okF_e kf_X10_packed, List.forall_mem_cons.mpr ⟨Or.inl (cee_of kd_X10_isDictionary (by decide +kernel) (ct_X10_isDictionary l) rfl), List.forall_mem_cons.mpr ⟨Or.inl (cee_of kd_X3_write (by decide +kernel) (ct_X3_write l) rfl), fun _ h => absurd h List.not_mem_nil⟩⟩⟩
theorem kd_X10_packed : ab_okY y_X10_packed b_X10_packed 2 (some .int) 1 2 10 = true := by decide +kernel
theorem ct_X10_packed (l : Launch) : ab_spec l y_X10_packed b_X10_packed 2 (some .int) 6 138 1 2 10 g_X10_packed := by
  intro as st k r h
  unfold g_X10_packed at h
  split at h
  · obtain ⟨x, t, hf, hk⟩ := ri_e h
    obtain ⟨hs, hf⟩ := rc_e hf
    obtain ⟨he, hc⟩ := ct_of (y := y_X10_packed) (ret := (some .int)) (rs := [.int x]) one_X10_packed (mk_X10_packed l) rfl (by decide +kernel) (fun h => by cases h) (Or.inr (Or.inl ⟨rfl, rfl⟩)) rfl (Nat.le_of_ble_eq_true rfl) rfl (Nat.le_of_ble_eq_true rfl) hf
    exact ⟨rfl, fun _ => ⟨_, _, rfl, hs⟩, _, t, hk, Nat.le_of_ble_eq_true rfl, he, hc⟩
  · cases h
theorem kc_X11_write : ab_okC b_X11_write RX11 false m_X11_write = true := by decide +kernel
theorem kf_X11_write : ab_okF RX11 m_X11_write = true := by decide +kernel
theorem mk_X11_write (l : Launch) : mok l b_X11_write RX11 false 0 0 m_X11_write := ⟨okC_e kc_X11_write, okF_e kf_X11_write, fun _ h => absurd h List.not_mem_nil⟩
theorem kd_X11_write : ab_okY y_X11_write b_X11_write 8 (some .int) 1 4 11 = true := by decide +kernel
theorem ct_X11_write (l : Launch) : ab_spec l y_X11_write b_X11_write 8 (some .int) 0 0 1 4 11 g_X11_write := by
  intro as st k r h
  unfold g_X11_write at h
  split at h
  · obtain ⟨x, t, hf, hk⟩ := ri_e h
    obtain ⟨hs, hf⟩ := rc_e hf
    obtain ⟨he, hc⟩ := ct_of (y := y_X11_write) (ret := (some .int)) (rs := [.int x]) one_X11_write (mk_X11_write l) rfl (by decide +kernel) (fun h => by cases h) (Or.inr (Or.inl ⟨rfl, rfl⟩)) rfl (Nat.le_of_ble_eq_true rfl) rfl (Nat.le_of_ble_eq_true rfl) hf
    exact ⟨rfl, fun _ => ⟨_, _, rfl, hs⟩, _, t, hk, Nat.le_of_ble_eq_true rfl, he, hc⟩
  · cases h
theorem kc_X11_pack : ab_okC b_X11_pack RX11 false m_X11_pack = true := by decide +kernel
theorem kf_X11_pack : ab_okF RX11 m_X11_pack = true := by decide +kernel
theorem mk_X11_pack (l : Launch) : mok l b_X11_pack RX11 false 3 79 m_X11_pack := ⟨okC_e kc_X11_pack, okF_e kf_X11_pack, List.forall_mem_cons.mpr ⟨Or.inl (cee_of kd_X11_letter (by decide +kernel) (ct_X11_letter l) rfl), List.forall_mem_cons.mpr ⟨Or.inl (cee_of kd_X11_build (by decide +kernel) (ct_X11_build l) rfl), List.forall_mem_cons.mpr ⟨Or.inl (cee_of kd_X11_isFinal (by decide +kernel) (ct_X11_isFinal l) rfl), List.forall_mem_cons.mpr ⟨Or.inl (cee_of kd_X11_child (by decide +kernel) (ct_X11_child l) rfl), List.forall_mem_cons.mpr ⟨Or.inl (cee_of kd_X11_children (by decide +kernel) (ct_X11_children l) rfl), List.forall_mem_cons.mpr ⟨Or.inl (cee_of kd_X11_write (by decide +kernel) (ct_X11_write l) rfl), fun _ h => absurd h List.not_mem_nil⟩⟩⟩⟩⟩⟩⟩
theorem kd_X11_pack : ab_okY y_X11_pack b_X11_pack 9 (some .int) 1 2 11 = true := by decide +kernel
theorem ct_X11_pack (l : Launch) : ab_spec l y_X11_pack b_X11_pack 9 (some .int) 3 79 1 2 11 g_X11_pack := by
  intro as st k r h
  unfold g_X11_pack at h
  split at h
  · obtain ⟨x, t, hf, hk⟩ := ri_e h
    obtain ⟨hs, hf⟩ := rc_e hf
    obtain ⟨he, hc⟩ := ct_of (y := y_X11_pack) (ret := (some .int)) (rs := [.int x]) one_X11_pack (mk_X11_pack l) rfl (by decide +kernel) (fun h => by cases h) (Or.inr (Or.inl ⟨rfl, rfl⟩)) rfl (Nat.le_of_ble_eq_true rfl) rfl (Nat.le_of_ble_eq_true rfl) hf
    exact ⟨rfl, fun _ => ⟨_, _, rfl, hs⟩, _, t, hk, Nat.le_of_ble_eq_true rfl, he, hc⟩
  · cases h
theorem kc_X11_packed : ab_okC b_X11_packed RX11 false m_X11_packed = true := by decide +kernel
theorem kf_X11_packed : ab_okF RX11 m_X11_packed = true := by decide +kernel
theorem mk_X11_packed (l : Launch) : mok l b_X11_packed RX11 false 4 107 m_X11_packed := ⟨okC_e kc_X11_packed, okF_e kf_X11_packed, List.forall_mem_cons.mpr ⟨Or.inl (cee_of kd_X11_isDictionary (by decide +kernel) (ct_X11_isDictionary l) rfl), List.forall_mem_cons.mpr ⟨Or.inl (cee_of kd_X11_pack (by decide +kernel) (ct_X11_pack l) rfl), fun _ h => absurd h List.not_mem_nil⟩⟩⟩
theorem kd_X11_packed : ab_okY y_X11_packed b_X11_packed 3 (some .int) 1 2 11 = true := by decide +kernel
theorem ct_X11_packed (l : Launch) : ab_spec l y_X11_packed b_X11_packed 3 (some .int) 4 107 1 2 11 g_X11_packed := by
  intro as st k r h
  unfold g_X11_packed at h
  split at h
  · obtain ⟨x, t, hf, hk⟩ := ri_e h
    obtain ⟨hs, hf⟩ := rc_e hf
    obtain ⟨he, hc⟩ := ct_of (y := y_X11_packed) (ret := (some .int)) (rs := [.int x]) one_X11_packed (mk_X11_packed l) rfl (by decide +kernel) (fun h => by cases h) (Or.inr (Or.inl ⟨rfl, rfl⟩)) rfl (Nat.le_of_ble_eq_true rfl) rfl (Nat.le_of_ble_eq_true rfl) hf
    exact ⟨rfl, fun _ => ⟨_, _, rfl, hs⟩, _, t, hk, Nat.le_of_ble_eq_true rfl, he, hc⟩
  · cases h
theorem kc_X10_sign : ab_okC b_X10_sign RX10 false m_X10_sign = true := by decide +kernel
theorem kf_X10_sign : ab_okF RX10 m_X10_sign = true := by decide +kernel
theorem mk_X10_sign (l : Launch) : mok l b_X10_sign RX10 false 1 21 m_X10_sign := ⟨okC_e kc_X10_sign, okF_e kf_X10_sign, List.forall_mem_cons.mpr ⟨Or.inl (cee_of kd_X6_at (by decide +kernel) (ct_X6_at l) rfl), fun _ h => absurd h List.not_mem_nil⟩⟩
theorem kd_X10_sign : ab_okY y_X10_sign b_X10_sign 2 (some .int) 1 2 10 = true := by decide +kernel
theorem ct_X10_sign (l : Launch) : ab_spec l y_X10_sign b_X10_sign 2 (some .int) 1 21 1 2 10 g_X10_sign := by
  intro as st k r h
  unfold g_X10_sign at h
  split at h
  · obtain ⟨x, t, hf, hk⟩ := ri_e h
    obtain ⟨hs, hf⟩ := rc_e hf
    obtain ⟨he, hc⟩ := ct_of (y := y_X10_sign) (ret := (some .int)) (rs := [.int x]) one_X10_sign (mk_X10_sign l) rfl (by decide +kernel) (fun h => by cases h) (Or.inr (Or.inl ⟨rfl, rfl⟩)) rfl (Nat.le_of_ble_eq_true rfl) rfl (Nat.le_of_ble_eq_true rfl) hf
    exact ⟨rfl, fun _ => ⟨_, _, rfl, hs⟩, _, t, hk, Nat.le_of_ble_eq_true rfl, he, hc⟩
  · cases h
theorem kc_X11_sign : ab_okC b_X11_sign RX11 false m_X11_sign = true := by decide +kernel
theorem kf_X11_sign : ab_okF RX11 m_X11_sign = true := by decide +kernel
theorem mk_X11_sign (l : Launch) : mok l b_X11_sign RX11 false 1 25 m_X11_sign := ⟨okC_e kc_X11_sign, okF_e kf_X11_sign, List.forall_mem_cons.mpr ⟨Or.inl (cee_of kd_X11_isIn (by decide +kernel) (ct_X11_isIn l) rfl), fun _ h => absurd h List.not_mem_nil⟩⟩
theorem kd_X11_sign : ab_okY y_X11_sign b_X11_sign 2 (some .int) 1 2 11 = true := by decide +kernel
theorem ct_X11_sign (l : Launch) : ab_spec l y_X11_sign b_X11_sign 2 (some .int) 1 25 1 2 11 g_X11_sign := by
  intro as st k r h
  unfold g_X11_sign at h
  split at h
  · obtain ⟨x, t, hf, hk⟩ := ri_e h
    obtain ⟨hs, hf⟩ := rc_e hf
    obtain ⟨he, hc⟩ := ct_of (y := y_X11_sign) (ret := (some .int)) (rs := [.int x]) one_X11_sign (mk_X11_sign l) rfl (by decide +kernel) (fun h => by cases h) (Or.inr (Or.inl ⟨rfl, rfl⟩)) rfl (Nat.le_of_ble_eq_true rfl) rfl (Nat.le_of_ble_eq_true rfl) hf
    exact ⟨rfl, fun _ => ⟨_, _, rfl, hs⟩, _, t, hk, Nat.le_of_ble_eq_true rfl, he, hc⟩
  · cases h
theorem kc_X3_readSign : ab_okC b_X3_readSign RX3 false m_X3_readSign = true := by decide +kernel
theorem kf_X3_readSign : ab_okF RX3 m_X3_readSign = true := by decide +kernel
theorem mk_X3_readSign (l : Launch) : mok l b_X3_readSign RX3 false 1 21 m_X3_readSign := ⟨okC_e kc_X3_readSign, okF_e kf_X3_readSign, List.forall_mem_cons.mpr ⟨Or.inl (cee_of kd_X6_at (by decide +kernel) (ct_X6_at l) rfl), fun _ h => absurd h List.not_mem_nil⟩⟩
theorem kd_X3_readSign : ab_okY y_X3_readSign b_X3_readSign 3 (some .int) 1 2 3 = true := by decide +kernel
theorem ct_X3_readSign (l : Launch) : ab_spec l y_X3_readSign b_X3_readSign 3 (some .int) 1 21 1 2 3 g_X3_readSign := by
  intro as st k r h
  unfold g_X3_readSign at h
  split at h
  · obtain ⟨x, t, hf, hk⟩ := ri_e h
    obtain ⟨hs, hf⟩ := rc_e hf
    obtain ⟨he, hc⟩ := ct_of (y := y_X3_readSign) (ret := (some .int)) (rs := [.int x]) one_X3_readSign (mk_X3_readSign l) rfl (by decide +kernel) (fun h => by cases h) (Or.inr (Or.inl ⟨rfl, rfl⟩)) rfl (Nat.le_of_ble_eq_true rfl) rfl (Nat.le_of_ble_eq_true rfl) hf
    exact ⟨rfl, fun _ => ⟨_, _, rfl, hs⟩, _, t, hk, Nat.le_of_ble_eq_true rfl, he, hc⟩
  · cases h
theorem kc_X3_readNumber : ab_okC b_X3_readNumber RX3 false m_X3_readNumber = true := by decide +kernel
theorem kf_X3_readNumber : ab_okF RX3 m_X3_readNumber = true := by decide +kernel
theorem mk_X3_readNumber (l : Launch) : mok l b_X3_readNumber RX3 false 2 43 m_X3_readNumber := ⟨okC_e kc_X3_readNumber, okF_e kf_X3_readNumber, List.forall_mem_cons.mpr ⟨Or.inl (cee_of kd_X3_readSign (by decide +kernel) (ct_X3_readSign l) rfl), fun _ h => absurd h List.not_mem_nil⟩⟩
theorem kd_X3_readNumber : ab_okY y_X3_readNumber b_X3_readNumber 6 (some .long) 1 2 3 = true := by decide +kernel
theorem ct_X3_readNumber (l : Launch) : ab_spec l y_X3_readNumber b_X3_readNumber 6 (some .long) 2 43 1 2 3 g_X3_readNumber := by
  intro as st k r h
  unfold g_X3_readNumber at h
  split at h
  · obtain ⟨x, t, hf, hk⟩ := rl_e h
    obtain ⟨hs, hf⟩ := rc_e hf
    obtain ⟨he, hc⟩ := ct_of (y := y_X3_readNumber) (ret := (some .long)) (rs := [.long x]) one_X3_readNumber (mk_X3_readNumber l) rfl (by decide +kernel) (fun h => by cases h) (Or.inr (Or.inr (Or.inr (Or.inl ⟨rfl, rfl⟩)))) rfl (Nat.le_of_ble_eq_true rfl) rfl (Nat.le_of_ble_eq_true rfl) hf
    exact ⟨rfl, fun _ => ⟨_, _, rfl, hs⟩, _, t, hk, Nat.le_of_ble_eq_true rfl, he, hc⟩
  · cases h
theorem kc_X3_readState : ab_okC b_X3_readState RX3 false m_X3_readState = true := by decide +kernel
theorem kf_X3_readState : ab_okF RX3 m_X3_readState = true := by decide +kernel
theorem mk_X3_readState (l : Launch) : mok l b_X3_readState RX3 false 3 68 m_X3_readState := ⟨okC_e kc_X3_readState, okF_e kf_X3_readState, List.forall_mem_cons.mpr ⟨Or.inl (cee_of kd_X3_readSign (by decide +kernel) (ct_X3_readSign l) rfl), List.forall_mem_cons.mpr ⟨Or.inl (cee_of kd_X3_readNumber (by decide +kernel) (ct_X3_readNumber l) rfl), List.forall_mem_cons.mpr ⟨Or.inl (cee_of kd_X1_putState (by decide +kernel) (ct_X1_putState l) rfl), List.forall_mem_cons.mpr ⟨Or.inl (cee_of kd_X1_putArc (by decide +kernel) (ct_X1_putArc l) rfl), fun _ h => absurd h List.not_mem_nil⟩⟩⟩⟩⟩
theorem kd_X3_readState : ab_okY y_X3_readState b_X3_readState 18 (some .boolean) 1 4 3 = true := by decide +kernel
theorem ct_X3_readState (l : Launch) : ab_spec l y_X3_readState b_X3_readState 18 (some .boolean) 3 68 1 4 3 g_X3_readState := by
  intro as st k r h
  unfold g_X3_readState at h
  split at h
  · obtain ⟨x, t, hf, hk⟩ := ri_e h
    obtain ⟨hs, hf⟩ := rc_e hf
    obtain ⟨he, hc⟩ := ct_of (y := y_X3_readState) (ret := (some .boolean)) (rs := [.int x]) one_X3_readState (mk_X3_readState l) rfl (by decide +kernel) (fun h => by cases h) (Or.inr (Or.inr (Or.inl ⟨rfl, rfl⟩))) rfl (Nat.le_of_ble_eq_true rfl) rfl (Nat.le_of_ble_eq_true rfl) hf
    exact ⟨rfl, fun _ => ⟨_, _, rfl, hs⟩, _, t, hk, Nat.le_of_ble_eq_true rfl, he, hc⟩
  · cases h
theorem kc_X3_readMachine : ab_okC b_X3_readMachine RX3 false m_X3_readMachine = true := by decide +kernel
theorem kf_X3_readMachine : ab_okF RX3 m_X3_readMachine = true := by decide +kernel
theorem mk_X3_readMachine (l : Launch) : mok l b_X3_readMachine RX3 false 4 105 m_X3_readMachine := ⟨okC_e kc_X3_readMachine, okF_e kf_X3_readMachine, List.forall_mem_cons.mpr ⟨Or.inl (cee_of kd_X3_readSign (by decide +kernel) (ct_X3_readSign l) rfl), List.forall_mem_cons.mpr ⟨Or.inl (cee_of kd_X3_readNumber (by decide +kernel) (ct_X3_readNumber l) rfl), List.forall_mem_cons.mpr ⟨Or.inl (cee_of kd_X1_clear (by decide +kernel) (ct_X1_clear l) rfl), List.forall_mem_cons.mpr ⟨Or.inl (cee_of kd_X3_readState (by decide +kernel) (ct_X3_readState l) rfl), fun _ h => absurd h List.not_mem_nil⟩⟩⟩⟩⟩
theorem kd_X3_readMachine : ab_okY y_X3_readMachine b_X3_readMachine 8 (some .boolean) 1 3 3 = true := by decide +kernel
theorem ct_X3_readMachine (l : Launch) : ab_spec l y_X3_readMachine b_X3_readMachine 8 (some .boolean) 4 105 1 3 3 g_X3_readMachine := by
  intro as st k r h
  unfold g_X3_readMachine at h
  split at h
  · obtain ⟨x, t, hf, hk⟩ := ri_e h
    obtain ⟨hs, hf⟩ := rc_e hf
    obtain ⟨he, hc⟩ := ct_of (y := y_X3_readMachine) (ret := (some .boolean)) (rs := [.int x]) one_X3_readMachine (mk_X3_readMachine l) rfl (by decide +kernel) (fun h => by cases h) (Or.inr (Or.inr (Or.inl ⟨rfl, rfl⟩))) rfl (Nat.le_of_ble_eq_true rfl) rfl (Nat.le_of_ble_eq_true rfl) hf
    exact ⟨rfl, fun _ => ⟨_, _, rfl, hs⟩, _, t, hk, Nat.le_of_ble_eq_true rfl, he, hc⟩
  · cases h
