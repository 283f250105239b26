theorem kc_X8_init : ab_okC b_X8_init RX8 true m_X8_init = true := by decide +kernel
theorem kf_X8_init : ab_okF RX8 m_X8_init = true := by decide +kernel
theorem mk_X8_init (l : Launch) : mok l b_X8_init RX8 true 1 20 m_X8_init := ⟨okC_e kc_X8_init, okF_e kf_X8_init, List.forall_mem_cons.mpr ⟨Or.inr (Or.inl ⟨rfl, rfl, rfl, by decide +kernel, Nat.le_of_ble_eq_true rfl, Nat.le_of_ble_eq_true rfl⟩), fun _ h => absurd h List.not_mem_nil⟩⟩
theorem kd_X8_init : ab_okY y_X8_init b_X8_init 1 none 2 1 8 = true := by decide +kernel
theorem ct_X8_init (l : Launch) : ab_spec l y_X8_init b_X8_init 1 none 1 20 2 1 8 g_X8_init := by
  intro as st k r h
  unfold g_X8_init at h
  split at h
  · obtain ⟨t, hf, hk⟩ := rv_e h
    obtain ⟨hs, hf⟩ := rc_e hf
    obtain ⟨he, hc⟩ := ct_of (y := y_X8_init) (ret := none) (rs := []) one_X8_init (mk_X8_init l) rfl (by decide +kernel) (fun _ => rfl) (Or.inl ⟨rfl, rfl⟩) rfl (Nat.le_of_ble_eq_true rfl) rfl (Nat.le_of_ble_eq_true rfl) hf
    exact ⟨rfl, fun _ => ⟨_, _, rfl, hs⟩, _, t, hk, Nat.le_of_ble_eq_true rfl, he, hc⟩
  · cases h
theorem kc_X3_init : ab_okC b_X3_init RX3 true m_X3_init = true := by decide +kernel
theorem kf_X3_init : ab_okF RX3 m_X3_init = true := by decide +kernel
theorem mk_X3_init (l : Launch) : mok l b_X3_init RX3 true 1 20 m_X3_init := ⟨okC_e kc_X3_init, okF_e kf_X3_init, List.forall_mem_cons.mpr ⟨Or.inr (Or.inl ⟨rfl, rfl, rfl, by decide +kernel, Nat.le_of_ble_eq_true rfl, Nat.le_of_ble_eq_true rfl⟩), fun _ h => absurd h List.not_mem_nil⟩⟩
theorem kd_X3_init : ab_okY y_X3_init b_X3_init 1 none 2 1 3 = true := by decide +kernel
theorem ct_X3_init (l : Launch) : ab_spec l y_X3_init b_X3_init 1 none 1 20 2 1 3 g_X3_init := by
  intro as st k r h
  unfold g_X3_init at h
  split at h
  · obtain ⟨t, hf, hk⟩ := rv_e h
    obtain ⟨hs, hf⟩ := rc_e hf
    obtain ⟨he, hc⟩ := ct_of (y := y_X3_init) (ret := none) (rs := []) one_X3_init (mk_X3_init l) rfl (by decide +kernel) (fun _ => rfl) (Or.inl ⟨rfl, rfl⟩) rfl (Nat.le_of_ble_eq_true rfl) rfl (Nat.le_of_ble_eq_true rfl) hf
    exact ⟨rfl, fun _ => ⟨_, _, rfl, hs⟩, _, t, hk, Nat.le_of_ble_eq_true rfl, he, hc⟩
  · cases h
theorem kc_X4_init : ab_okC b_X4_init RX4 true m_X4_init = true := by decide +kernel
theorem kf_X4_init : ab_okF RX4 m_X4_init = true := by decide +kernel
theorem mk_X4_init (l : Launch) : mok l b_X4_init RX4 true 1 20 m_X4_init := ⟨okC_e kc_X4_init, okF_e kf_X4_init, List.forall_mem_cons.mpr ⟨Or.inr (Or.inl ⟨rfl, rfl, rfl, by decide +kernel, Nat.le_of_ble_eq_true rfl, Nat.le_of_ble_eq_true rfl⟩), fun _ h => absurd h List.not_mem_nil⟩⟩
theorem kd_X4_init : ab_okY y_X4_init b_X4_init 1 none 2 1 4 = true := by decide +kernel
theorem ct_X4_init (l : Launch) : ab_spec l y_X4_init b_X4_init 1 none 1 20 2 1 4 g_X4_init := by
  intro as st k r h
  unfold g_X4_init at h
  split at h
  · obtain ⟨t, hf, hk⟩ := rv_e h
    obtain ⟨hs, hf⟩ := rc_e hf
    obtain ⟨he, hc⟩ := ct_of (y := y_X4_init) (ret := none) (rs := []) one_X4_init (mk_X4_init l) rfl (by decide +kernel) (fun _ => rfl) (Or.inl ⟨rfl, rfl⟩) rfl (Nat.le_of_ble_eq_true rfl) rfl (Nat.le_of_ble_eq_true rfl) hf
    exact ⟨rfl, fun _ => ⟨_, _, rfl, hs⟩, _, t, hk, Nat.le_of_ble_eq_true rfl, he, hc⟩
  · cases h
theorem kc_X5_init : ab_okC b_X5_init RX5 true m_X5_init = true := by decide +kernel
theorem kf_X5_init : ab_okF RX5 m_X5_init = true := by decide +kernel
theorem mk_X5_init (l : Launch) : mok l b_X5_init RX5 true 2 40 m_X5_init := ⟨okC_e kc_X5_init, okF_e kf_X5_init, List.forall_mem_cons.mpr ⟨Or.inr (Or.inl ⟨rfl, rfl, rfl, by decide +kernel, Nat.le_of_ble_eq_true rfl, Nat.le_of_ble_eq_true rfl⟩), List.forall_mem_cons.mpr ⟨Or.inl (cee_of kd_X4_init (by decide +kernel) (ct_X4_init l) rfl), fun _ h => absurd h List.not_mem_nil⟩⟩⟩
theorem kd_X5_init : ab_okY y_X5_init b_X5_init 2 none 2 1 5 = true := by decide +kernel
theorem ct_X5_init (l : Launch) : ab_spec l y_X5_init b_X5_init 2 none 2 40 2 1 5 g_X5_init := by
  intro as st k r h
  unfold g_X5_init at h
  split at h
  · obtain ⟨t, hf, hk⟩ := rv_e h
    obtain ⟨hs, hf⟩ := rc_e hf
    obtain ⟨he, hc⟩ := ct_of (y := y_X5_init) (ret := none) (rs := []) one_X5_init (mk_X5_init l) rfl (by decide +kernel) (fun _ => rfl) (Or.inl ⟨rfl, rfl⟩) rfl (Nat.le_of_ble_eq_true rfl) rfl (Nat.le_of_ble_eq_true rfl) hf
    exact ⟨rfl, fun _ => ⟨_, _, rfl, hs⟩, _, t, hk, Nat.le_of_ble_eq_true rfl, he, hc⟩
  · cases h
theorem kc_X2_init : ab_okC b_X2_init RX2 true m_X2_init = true := by decide +kernel
theorem kf_X2_init : ab_okF RX2 m_X2_init = true := by decide +kernel
theorem mk_X2_init (l : Launch) : mok l b_X2_init RX2 true 1 20 m_X2_init := ⟨okC_e kc_X2_init, okF_e kf_X2_init, List.forall_mem_cons.mpr ⟨Or.inr (Or.inl ⟨rfl, rfl, rfl, by decide +kernel, Nat.le_of_ble_eq_true rfl, Nat.le_of_ble_eq_true rfl⟩), fun _ h => absurd h List.not_mem_nil⟩⟩
theorem kd_X2_init : ab_okY y_X2_init b_X2_init 1 none 2 1 2 = true := by decide +kernel
theorem ct_X2_init (l : Launch) : ab_spec l y_X2_init b_X2_init 1 none 1 20 2 1 2 g_X2_init := by
  intro as st k r h
  unfold g_X2_init at h
  split at h
  · obtain ⟨t, hf, hk⟩ := rv_e h
    obtain ⟨hs, hf⟩ := rc_e hf
    obtain ⟨he, hc⟩ := ct_of (y := y_X2_init) (ret := none) (rs := []) one_X2_init (mk_X2_init l) rfl (by decide +kernel) (fun _ => rfl) (Or.inl ⟨rfl, rfl⟩) rfl (Nat.le_of_ble_eq_true rfl) rfl (Nat.le_of_ble_eq_true rfl) hf
    exact ⟨rfl, fun _ => ⟨_, _, rfl, hs⟩, _, t, hk, Nat.le_of_ble_eq_true rfl, he, hc⟩
  · cases h
theorem kc_X6_init : ab_okC b_X6_init RX6 true m_X6_init = true := by decide +kernel
theorem kf_X6_init : ab_okF RX6 m_X6_init = true := by decide +kernel
theorem mk_X6_init (l : Launch) : mok l b_X6_init RX6 true 1 23 m_X6_init := ⟨okC_e kc_X6_init, okF_e kf_X6_init, List.forall_mem_cons.mpr ⟨Or.inr (Or.inl ⟨rfl, rfl, rfl, by decide +kernel, Nat.le_of_ble_eq_true rfl, Nat.le_of_ble_eq_true rfl⟩), List.forall_mem_cons.mpr ⟨Or.inr (Or.inr ⟨rfl, Nat.le_of_ble_eq_true rfl, Nat.le_of_ble_eq_true rfl, Or.inl ⟨rfl, rfl, by decide +kernel⟩⟩), fun _ h => absurd h List.not_mem_nil⟩⟩⟩
theorem kd_X6_init : ab_okY y_X6_init b_X6_init 2 none 2 2 6 = true := by decide +kernel
theorem ct_X6_init (l : Launch) : ab_spec l y_X6_init b_X6_init 2 none 1 23 2 2 6 g_X6_init := by
  intro as st k r h
  unfold g_X6_init at h
  split at h
  · obtain ⟨t, hf, hk⟩ := rv_e h
    obtain ⟨hs, hf⟩ := rc_e hf
    obtain ⟨he, hc⟩ := ct_of (y := y_X6_init) (ret := none) (rs := []) one_X6_init (mk_X6_init l) rfl (by decide +kernel) (fun _ => rfl) (Or.inl ⟨rfl, rfl⟩) rfl (Nat.le_of_ble_eq_true rfl) rfl (Nat.le_of_ble_eq_true rfl) hf
    exact ⟨rfl, fun _ => ⟨_, _, rfl, hs⟩, _, t, hk, Nat.le_of_ble_eq_true rfl, he, hc⟩
  · cases h
theorem kc_X7_init : ab_okC b_X7_init RX7 true m_X7_init = true := by decide +kernel
theorem kf_X7_init : ab_okF RX7 m_X7_init = true := by decide +kernel
theorem mk_X7_init (l : Launch) : mok l b_X7_init RX7 true 1 20 m_X7_init := ⟨okC_e kc_X7_init, okF_e kf_X7_init, List.forall_mem_cons.mpr ⟨Or.inr (Or.inl ⟨rfl, rfl, rfl, by decide +kernel, Nat.le_of_ble_eq_true rfl, Nat.le_of_ble_eq_true rfl⟩), fun _ h => absurd h List.not_mem_nil⟩⟩
theorem kd_X7_init : ab_okY y_X7_init b_X7_init 1 none 2 1 7 = true := by decide +kernel
theorem ct_X7_init (l : Launch) : ab_spec l y_X7_init b_X7_init 1 none 1 20 2 1 7 g_X7_init := by
  intro as st k r h
  unfold g_X7_init at h
  split at h
  · obtain ⟨t, hf, hk⟩ := rv_e h
    obtain ⟨hs, hf⟩ := rc_e hf
    obtain ⟨he, hc⟩ := ct_of (y := y_X7_init) (ret := none) (rs := []) one_X7_init (mk_X7_init l) rfl (by decide +kernel) (fun _ => rfl) (Or.inl ⟨rfl, rfl⟩) rfl (Nat.le_of_ble_eq_true rfl) rfl (Nat.le_of_ble_eq_true rfl) hf
    exact ⟨rfl, fun _ => ⟨_, _, rfl, hs⟩, _, t, hk, Nat.le_of_ble_eq_true rfl, he, hc⟩
  · cases h
theorem kc_X1_clear : ab_okC b_X1_clear RX1 false m_X1_clear = true := by decide +kernel
theorem kf_X1_clear : ab_okF RX1 m_X1_clear = true := by decide +kernel
theorem mk_X1_clear (l : Launch) : mok l b_X1_clear RX1 false 0 0 m_X1_clear := ⟨okC_e kc_X1_clear, okF_e kf_X1_clear, fun _ h => absurd h List.not_mem_nil⟩
theorem kd_X1_clear : ab_okY y_X1_clear b_X1_clear 4 none 1 3 1 = true := by decide +kernel
theorem ct_X1_clear (l : Launch) : ab_spec l y_X1_clear b_X1_clear 4 none 0 0 1 3 1 g_X1_clear := by
  intro as st k r h
  unfold g_X1_clear at h
  split at h
  · obtain ⟨t, hf, hk⟩ := rv_e h
    obtain ⟨hs, hf⟩ := rc_e hf
    obtain ⟨he, hc⟩ := ct_of (y := y_X1_clear) (ret := none) (rs := []) one_X1_clear (mk_X1_clear l) rfl (by decide +kernel) (fun h => by cases h) (Or.inl ⟨rfl, rfl⟩) rfl (Nat.le_of_ble_eq_true rfl) rfl (Nat.le_of_ble_eq_true rfl) hf
    exact ⟨rfl, fun _ => ⟨_, _, rfl, hs⟩, _, t, hk, Nat.le_of_ble_eq_true rfl, he, hc⟩
  · cases h
theorem kc_X1_putState : ab_okC b_X1_putState RX1 false m_X1_putState = true := by decide +kernel
theorem kf_X1_putState : ab_okF RX1 m_X1_putState = true := by decide +kernel
theorem mk_X1_putState (l : Launch) : mok l b_X1_putState RX1 false 0 0 m_X1_putState := ⟨okC_e kc_X1_putState, okF_e kf_X1_putState, fun _ h => absurd h List.not_mem_nil⟩
theorem kd_X1_putState : ab_okY y_X1_putState b_X1_putState 4 (some .boolean) 1 3 1 = true := by decide +kernel
theorem ct_X1_putState (l : Launch) : ab_spec l y_X1_putState b_X1_putState 4 (some .boolean) 0 0 1 3 1 g_X1_putState := by
  intro as st k r h
  unfold g_X1_putState at h
  split at h
  · obtain ⟨x, t, hf, hk⟩ := ri_e h
    obtain ⟨hs, hf⟩ := rc_e hf
    obtain ⟨he, hc⟩ := ct_of (y := y_X1_putState) (ret := (some .boolean)) (rs := [.int x]) one_X1_putState (mk_X1_putState l) rfl (by decide +kernel) (fun h => by cases h) (Or.inr (Or.inr (Or.inl ⟨rfl, rfl⟩))) rfl (Nat.le_of_ble_eq_true rfl) rfl (Nat.le_of_ble_eq_true rfl) hf
    exact ⟨rfl, fun _ => ⟨_, _, rfl, hs⟩, _, t, hk, Nat.le_of_ble_eq_true rfl, he, hc⟩
  · cases h
theorem kc_X1_init : ab_okC b_X1_init RX1 true m_X1_init = true := by decide +kernel
theorem kf_X1_init : ab_okF RX1 m_X1_init = true := by decide +kernel
theorem mk_X1_init (l : Launch) : mok l b_X1_init RX1 true 1 23 m_X1_init := ⟨okC_e kc_X1_init, okF_e kf_X1_init, List.forall_mem_cons.mpr ⟨Or.inr (Or.inl ⟨rfl, rfl, rfl, by decide +kernel, Nat.le_of_ble_eq_true rfl, Nat.le_of_ble_eq_true rfl⟩), List.forall_mem_cons.mpr ⟨Or.inl (cee_of kd_X1_clear (by decide +kernel) (ct_X1_clear l) rfl), List.forall_mem_cons.mpr ⟨Or.inl (cee_of kd_X1_putState (by decide +kernel) (ct_X1_putState l) rfl), fun _ h => absurd h List.not_mem_nil⟩⟩⟩⟩
theorem kd_X1_init : ab_okY y_X1_init b_X1_init 1 none 2 1 1 = true := by decide +kernel
theorem ct_X1_init (l : Launch) : ab_spec l y_X1_init b_X1_init 1 none 1 23 2 1 1 g_X1_init := by
  intro as st k r h
  unfold g_X1_init at h
  split at h
  · obtain ⟨t, hf, hk⟩ := rv_e h
    obtain ⟨hs, hf⟩ := rc_e hf
    obtain ⟨he, hc⟩ := ct_of (y := y_X1_init) (ret := none) (rs := []) one_X1_init (mk_X1_init l) rfl (by decide +kernel) (fun _ => rfl) (Or.inl ⟨rfl, rfl⟩) rfl (Nat.le_of_ble_eq_true rfl) rfl (Nat.le_of_ble_eq_true rfl) hf
    exact ⟨rfl, fun _ => ⟨_, _, rfl, hs⟩, _, t, hk, Nat.le_of_ble_eq_true rfl, he, hc⟩
  · cases h
theorem kc_X0_init : ab_okC b_X0_init RX0 true m_X0_init = true := by decide +kernel
theorem kf_X0_init : ab_okF RX0 m_X0_init = true := by decide +kernel
theorem mk_X0_init (l : Launch) : mok l b_X0_init RX0 true 2 43 m_X0_init := ⟨okC_e kc_X0_init, okF_e kf_X0_init, List.forall_mem_cons.mpr ⟨Or.inr (Or.inl ⟨rfl, rfl, rfl, by decide +kernel, Nat.le_of_ble_eq_true rfl, Nat.le_of_ble_eq_true rfl⟩), List.forall_mem_cons.mpr ⟨Or.inl (cee_of kd_X7_init (by decide +kernel) (ct_X7_init l) rfl), List.forall_mem_cons.mpr ⟨Or.inl (cee_of kd_X1_init (by decide +kernel) (ct_X1_init l) rfl), fun _ h => absurd h List.not_mem_nil⟩⟩⟩⟩
theorem kd_X0_init : ab_okY y_X0_init b_X0_init 1 none 2 1 0 = true := by decide +kernel
theorem ct_X0_init (l : Launch) : ab_spec l y_X0_init b_X0_init 1 none 2 43 2 1 0 g_X0_init := by
  intro as st k r h
  unfold g_X0_init at h
  split at h
  · obtain ⟨t, hf, hk⟩ := rv_e h
    obtain ⟨hs, hf⟩ := rc_e hf
    obtain ⟨he, hc⟩ := ct_of (y := y_X0_init) (ret := none) (rs := []) one_X0_init (mk_X0_init l) rfl (by decide +kernel) (fun _ => rfl) (Or.inl ⟨rfl, rfl⟩) rfl (Nat.le_of_ble_eq_true rfl) rfl (Nat.le_of_ble_eq_true rfl) hf
    exact ⟨rfl, fun _ => ⟨_, _, rfl, hs⟩, _, t, hk, Nat.le_of_ble_eq_true rfl, he, hc⟩
  · cases h
theorem kc_X9_init : ab_okC b_X9_init RX9 true m_X9_init = true := by decide +kernel
theorem kf_X9_init : ab_okF RX9 m_X9_init = true := by decide +kernel
theorem mk_X9_init (l : Launch) : mok l b_X9_init RX9 true 1 20 m_X9_init := ⟨okC_e kc_X9_init, okF_e kf_X9_init, List.forall_mem_cons.mpr ⟨Or.inr (Or.inl ⟨rfl, rfl, rfl, by decide +kernel, Nat.le_of_ble_eq_true rfl, Nat.le_of_ble_eq_true rfl⟩), fun _ h => absurd h List.not_mem_nil⟩⟩
theorem kd_X9_init : ab_okY y_X9_init b_X9_init 1 none 2 1 9 = true := by decide +kernel
theorem ct_X9_init (l : Launch) : ab_spec l y_X9_init b_X9_init 1 none 1 20 2 1 9 g_X9_init := by
  intro as st k r h
  unfold g_X9_init at h
  split at h
  · obtain ⟨t, hf, hk⟩ := rv_e h
    obtain ⟨hs, hf⟩ := rc_e hf
    obtain ⟨he, hc⟩ := ct_of (y := y_X9_init) (ret := none) (rs := []) one_X9_init (mk_X9_init l) rfl (by decide +kernel) (fun _ => rfl) (Or.inl ⟨rfl, rfl⟩) rfl (Nat.le_of_ble_eq_true rfl) rfl (Nat.le_of_ble_eq_true rfl) hf
    exact ⟨rfl, fun _ => ⟨_, _, rfl, hs⟩, _, t, hk, Nat.le_of_ble_eq_true rfl, he, hc⟩
  · cases h
theorem kc_X10_init : ab_okC b_X10_init RX10 true m_X10_init = true := by decide +kernel
theorem kf_X10_init : ab_okF RX10 m_X10_init = true := by decide +kernel
theorem mk_X10_init (l : Launch) : mok l b_X10_init RX10 true 3 63 m_X10_init := ⟨okC_e kc_X10_init, okF_e kf_X10_init, List.forall_mem_cons.mpr ⟨Or.inr (Or.inl ⟨rfl, rfl, rfl, by decide +kernel, Nat.le_of_ble_eq_true rfl, Nat.le_of_ble_eq_true rfl⟩), List.forall_mem_cons.mpr ⟨Or.inl (cee_of kd_X8_init (by decide +kernel) (ct_X8_init l) rfl), List.forall_mem_cons.mpr ⟨Or.inl (cee_of kd_X3_init (by decide +kernel) (ct_X3_init l) rfl), List.forall_mem_cons.mpr ⟨Or.inl (cee_of kd_X5_init (by decide +kernel) (ct_X5_init l) rfl), List.forall_mem_cons.mpr ⟨Or.inl (cee_of kd_X2_init (by decide +kernel) (ct_X2_init l) rfl), List.forall_mem_cons.mpr ⟨Or.inl (cee_of kd_X6_init (by decide +kernel) (ct_X6_init l) rfl), List.forall_mem_cons.mpr ⟨Or.inl (cee_of kd_X0_init (by decide +kernel) (ct_X0_init l) rfl), List.forall_mem_cons.mpr ⟨Or.inl (cee_of kd_X9_init (by decide +kernel) (ct_X9_init l) rfl), fun _ h => absurd h List.not_mem_nil⟩⟩⟩⟩⟩⟩⟩⟩⟩
theorem kd_X10_init : ab_okY y_X10_init b_X10_init 2 none 2 1 10 = true := by decide +kernel
theorem ct_X10_init (l : Launch) : ab_spec l y_X10_init b_X10_init 2 none 3 63 2 1 10 g_X10_init := by
  intro as st k r h
  unfold g_X10_init at h
  split at h
  · obtain ⟨t, hf, hk⟩ := rv_e h
    obtain ⟨hs, hf⟩ := rc_e hf
    obtain ⟨he, hc⟩ := ct_of (y := y_X10_init) (ret := none) (rs := []) one_X10_init (mk_X10_init l) rfl (by decide +kernel) (fun _ => rfl) (Or.inl ⟨rfl, rfl⟩) rfl (Nat.le_of_ble_eq_true rfl) rfl (Nat.le_of_ble_eq_true rfl) hf
    exact ⟨rfl, fun _ => ⟨_, _, rfl, hs⟩, _, t, hk, Nat.le_of_ble_eq_true rfl, he, hc⟩
  · cases h
theorem kc_X11_init : ab_okC b_X11_init RX11 true m_X11_init = true := by decide +kernel
theorem kf_X11_init : ab_okF RX11 m_X11_init = true := by decide +kernel
theorem mk_X11_init (l : Launch) : mok l b_X11_init RX11 true 1 20 m_X11_init := ⟨okC_e kc_X11_init, okF_e kf_X11_init, List.forall_mem_cons.mpr ⟨Or.inr (Or.inl ⟨rfl, rfl, rfl, by decide +kernel, Nat.le_of_ble_eq_true rfl, Nat.le_of_ble_eq_true rfl⟩), fun _ h => absurd h List.not_mem_nil⟩⟩
theorem kd_X11_init : ab_okY y_X11_init b_X11_init 2 none 2 1 11 = true := by decide +kernel
theorem ct_X11_init (l : Launch) : ab_spec l y_X11_init b_X11_init 2 none 1 20 2 1 11 g_X11_init := by
  intro as st k r h
  unfold g_X11_init at h
  split at h
  · obtain ⟨t, hf, hk⟩ := rv_e h
    obtain ⟨hs, hf⟩ := rc_e hf
    obtain ⟨he, hc⟩ := ct_of (y := y_X11_init) (ret := none) (rs := []) one_X11_init (mk_X11_init l) rfl (by decide +kernel) (fun _ => rfl) (Or.inl ⟨rfl, rfl⟩) rfl (Nat.le_of_ble_eq_true rfl) rfl (Nat.le_of_ble_eq_true rfl) hf
    exact ⟨rfl, fun _ => ⟨_, _, rfl, hs⟩, _, t, hk, Nat.le_of_ble_eq_true rfl, he, hc⟩
  · cases h
theorem kc_X6_put : ab_okC b_X6_put RX6 false m_X6_put = true := by decide +kernel
theorem kf_X6_put : ab_okF RX6 m_X6_put = true := by decide +kernel
theorem mk_X6_put (l : Launch) : mok l b_X6_put RX6 false 0 0 m_X6_put := ⟨okC_e kc_X6_put, okF_e kf_X6_put, fun _ h => absurd h List.not_mem_nil⟩
theorem kd_X6_put : ab_okY y_X6_put b_X6_put 2 none 1 2 6 = true := by decide +kernel
theorem ct_X6_put (l : Launch) : ab_spec l y_X6_put b_X6_put 2 none 0 0 1 2 6 g_X6_put := by
  intro as st k r h
  unfold g_X6_put at h
  split at h
  · obtain ⟨t, hf, hk⟩ := rv_e h
    obtain ⟨hs, hf⟩ := rc_e hf
    obtain ⟨he, hc⟩ := ct_of (y := y_X6_put) (ret := none) (rs := []) one_X6_put (mk_X6_put l) rfl (by decide +kernel) (fun h => by cases h) (Or.inl ⟨rfl, rfl⟩) rfl (Nat.le_of_ble_eq_true rfl) rfl (Nat.le_of_ble_eq_true rfl) hf
    exact ⟨rfl, fun _ => ⟨_, _, rfl, hs⟩, _, t, hk, Nat.le_of_ble_eq_true rfl, he, hc⟩
  · cases h
theorem kc_X10_collect : ab_okC b_X10_collect RX10 false m_X10_collect = true := by decide +kernel
theorem kf_X10_collect : ab_okF RX10 m_X10_collect = true := by decide +kernel
theorem mk_X10_collect (l : Launch) : mok l b_X10_collect RX10 false 1 21 m_X10_collect := ⟨okC_e kc_X10_collect, okF_e kf_X10_collect, List.forall_mem_cons.mpr ⟨Or.inl (cee_of kd_X6_put (by decide +kernel) (ct_X6_put l) rfl), fun _ h => absurd h List.not_mem_nil⟩⟩
theorem kd_X10_collect : ab_okY y_X10_collect b_X10_collect 5 (some .int) 1 3 10 = true := by decide +kernel
theorem ct_X10_collect (l : Launch) : ab_spec l y_X10_collect b_X10_collect 5 (some .int) 1 21 1 3 10 g_X10_collect := by
  intro as st k r h
  unfold g_X10_collect at h
  split at h
  · obtain ⟨x, t, hf, hk⟩ := ri_e h
    obtain ⟨hs, hf⟩ := rc_e hf
    obtain ⟨he, hc⟩ := ct_of (y := y_X10_collect) (ret := (some .int)) (rs := [.int x]) one_X10_collect (mk_X10_collect l) rfl (by decide +kernel) (fun h => by cases h) (Or.inr (Or.inl ⟨rfl, rfl⟩)) rfl (Nat.le_of_ble_eq_true rfl) rfl (Nat.le_of_ble_eq_true rfl) hf
    exact ⟨rfl, fun _ => ⟨_, _, rfl, hs⟩, _, t, hk, Nat.le_of_ble_eq_true rfl, he, hc⟩
  · cases h
theorem kc_X11_isIn : ab_okC b_X11_isIn RX11 false m_X11_isIn = true := by decide +kernel
theorem kf_X11_isIn : ab_okF RX11 m_X11_isIn = true := by decide +kernel
theorem mk_X11_isIn (l : Launch) : mok l b_X11_isIn RX11 false 0 0 m_X11_isIn := ⟨okC_e kc_X11_isIn, okF_e kf_X11_isIn, fun _ h => absurd h List.not_mem_nil⟩
theorem kd_X11_isIn : ab_okY y_X11_isIn b_X11_isIn 6 (some .boolean) 0 3 11 = true := by decide +kernel
theorem ct_X11_isIn (l : Launch) : ab_spec l y_X11_isIn b_X11_isIn 6 (some .boolean) 0 0 0 3 11 g_X11_isIn := by
  intro as st k r h
  unfold g_X11_isIn at h
  split at h
  · obtain ⟨x, t, hf, hk⟩ := ri_e h
    obtain ⟨he, hc⟩ := ct_of (y := y_X11_isIn) (ret := (some .boolean)) (rs := [.int x]) one_X11_isIn (mk_X11_isIn l) rfl (by decide +kernel) (fun h => by cases h) (Or.inr (Or.inr (Or.inl ⟨rfl, rfl⟩))) rfl (Nat.le_of_ble_eq_true rfl) rfl (Nat.le_of_ble_eq_true rfl) hf
    exact ⟨rfl, fun h => absurd rfl h, _, t, hk, Nat.le_of_ble_eq_true rfl, he, hc⟩
  · cases h
theorem kc_X11_collect : ab_okC b_X11_collect RX11 false m_X11_collect = true := by decide +kernel
theorem kf_X11_collect : ab_okF RX11 m_X11_collect = true := by decide +kernel
theorem mk_X11_collect (l : Launch) : mok l b_X11_collect RX11 false 1 25 m_X11_collect := ⟨okC_e kc_X11_collect, okF_e kf_X11_collect, List.forall_mem_cons.mpr ⟨Or.inl (cee_of kd_X11_isIn (by decide +kernel) (ct_X11_isIn l) rfl), fun _ h => absurd h List.not_mem_nil⟩⟩
theorem kd_X11_collect : ab_okY y_X11_collect b_X11_collect 5 (some .int) 1 3 11 = true := by decide +kernel
theorem ct_X11_collect (l : Launch) : ab_spec l y_X11_collect b_X11_collect 5 (some .int) 1 25 1 3 11 g_X11_collect := by
  intro as st k r h
  unfold g_X11_collect at h
  split at h
  · obtain ⟨x, t, hf, hk⟩ := ri_e h
    obtain ⟨hs, hf⟩ := rc_e hf
    obtain ⟨he, hc⟩ := ct_of (y := y_X11_collect) (ret := (some .int)) (rs := [.int x]) one_X11_collect (mk_X11_collect l) rfl (by decide +kernel) (fun h => by cases h) (Or.inr (Or.inl ⟨rfl, rfl⟩)) rfl (Nat.le_of_ble_eq_true rfl) rfl (Nat.le_of_ble_eq_true rfl) hf
    exact ⟨rfl, fun _ => ⟨_, _, rfl, hs⟩, _, t, hk, Nat.le_of_ble_eq_true rfl, he, hc⟩
  · cases h
theorem kc_X6_clear : ab_okC b_X6_clear RX6 false m_X6_clear = true := by decide +kernel
theorem kf_X6_clear : ab_okF RX6 m_X6_clear = true := by decide +kernel
theorem mk_X6_clear (l : Launch) : mok l b_X6_clear RX6 false 0 0 m_X6_clear := ⟨okC_e kc_X6_clear, okF_e kf_X6_clear, fun _ h => absurd h List.not_mem_nil⟩
theorem kd_X6_clear : ab_okY y_X6_clear b_X6_clear 1 none 1 1 6 = true := by decide +kernel
theorem ct_X6_clear (l : Launch) : ab_spec l y_X6_clear b_X6_clear 1 none 0 0 1 1 6 g_X6_clear := by
  intro as st k r h
  unfold g_X6_clear at h
  split at h
  · obtain ⟨t, hf, hk⟩ := rv_e h
    obtain ⟨hs, hf⟩ := rc_e hf
    obtain ⟨he, hc⟩ := ct_of (y := y_X6_clear) (ret := none) (rs := []) one_X6_clear (mk_X6_clear l) rfl (by decide +kernel) (fun h => by cases h) (Or.inl ⟨rfl, rfl⟩) rfl (Nat.le_of_ble_eq_true rfl) rfl (Nat.le_of_ble_eq_true rfl) hf
    exact ⟨rfl, fun _ => ⟨_, _, rfl, hs⟩, _, t, hk, Nat.le_of_ble_eq_true rfl, he, hc⟩
  · cases h
theorem kc_X10_takeCollected : ab_okC b_X10_takeCollected RX10 false m_X10_takeCollected = true := by decide +kernel
theorem kf_X10_takeCollected : ab_okF RX10 m_X10_takeCollected = true := by decide +kernel
theorem mk_X10_takeCollected (l : Launch) : mok l b_X10_takeCollected RX10 false 1 20 m_X10_takeCollected := ⟨okC_e kc_X10_takeCollected, okF_e kf_X10_takeCollected, List.forall_mem_cons.mpr ⟨Or.inl (cee_of kd_X6_clear (by decide +kernel) (ct_X6_clear l) rfl), fun _ h => absurd h List.not_mem_nil⟩⟩
theorem kd_X10_takeCollected : ab_okY y_X10_takeCollected b_X10_takeCollected 2 (some (.object "TermMachine$Signs")) 1 1 10 = true := by decide +kernel
theorem ct_X10_takeCollected (l : Launch) : ab_spec l y_X10_takeCollected b_X10_takeCollected 2 (some (.object "TermMachine$Signs")) 1 20 1 1 10 g_X10_takeCollected := by
  intro as st k r h
  unfold g_X10_takeCollected at h
  split at h
  · obtain ⟨x, t, hf, hk⟩ := rr_e h
    obtain ⟨hs, hf⟩ := rc_e hf
    obtain ⟨he, hc⟩ := ct_of (y := y_X10_takeCollected) (ret := (some (.object "TermMachine$Signs"))) (rs := [.ref x]) one_X10_takeCollected (mk_X10_takeCollected l) rfl (by decide +kernel) (fun h => by cases h) (Or.inr (Or.inr (Or.inr (Or.inr ⟨rfl, _, rfl⟩)))) rfl (Nat.le_of_ble_eq_true rfl) rfl (Nat.le_of_ble_eq_true rfl) hf
    exact ⟨rfl, fun _ => ⟨_, _, rfl, hs⟩, _, t, hk, Nat.le_of_ble_eq_true rfl, he, hc⟩
  · cases h
theorem kc_X10_forget : ab_okC b_X10_forget RX10 false m_X10_forget = true := by decide +kernel
theorem kf_X10_forget : ab_okF RX10 m_X10_forget = true := by decide +kernel
theorem mk_X10_forget (l : Launch) : mok l b_X10_forget RX10 false 2 41 m_X10_forget := ⟨okC_e kc_X10_forget, okF_e kf_X10_forget, List.forall_mem_cons.mpr ⟨Or.inl (cee_of kd_X10_takeCollected (by decide +kernel) (ct_X10_takeCollected l) rfl), fun _ h => absurd h List.not_mem_nil⟩⟩
theorem kd_X10_forget : ab_okY y_X10_forget b_X10_forget 1 (some .int) 1 1 10 = true := by decide +kernel
theorem ct_X10_forget (l : Launch) : ab_spec l y_X10_forget b_X10_forget 1 (some .int) 2 41 1 1 10 g_X10_forget := by
  intro as st k r h
  unfold g_X10_forget at h
  split at h
  · obtain ⟨x, t, hf, hk⟩ := ri_e h
    obtain ⟨hs, hf⟩ := rc_e hf
    obtain ⟨he, hc⟩ := ct_of (y := y_X10_forget) (ret := (some .int)) (rs := [.int x]) one_X10_forget (mk_X10_forget l) rfl (by decide +kernel) (fun h => by cases h) (Or.inr (Or.inl ⟨rfl, rfl⟩)) rfl (Nat.le_of_ble_eq_true rfl) rfl (Nat.le_of_ble_eq_true rfl) hf
    exact ⟨rfl, fun _ => ⟨_, _, rfl, hs⟩, _, t, hk, Nat.le_of_ble_eq_true rfl, he, hc⟩
  · cases h
theorem kc_X11_forget : ab_okC b_X11_forget RX11 false m_X11_forget = true := by decide +kernel
theorem kf_X11_forget : ab_okF RX11 m_X11_forget = true := by decide +kernel
theorem mk_X11_forget (l : Launch) : mok l b_X11_forget RX11 false 0 0 m_X11_forget := ⟨okC_e kc_X11_forget, okF_e kf_X11_forget, fun _ h => absurd h List.not_mem_nil⟩
theorem kd_X11_forget : ab_okY y_X11_forget b_X11_forget 2 (some .int) 1 1 11 = true := by decide +kernel
theorem ct_X11_forget (l : Launch) : ab_spec l y_X11_forget b_X11_forget 2 (some .int) 0 0 1 1 11 g_X11_forget := by
  intro as st k r h
  unfold g_X11_forget at h
  split at h
  · obtain ⟨x, t, hf, hk⟩ := ri_e h
    obtain ⟨hs, hf⟩ := rc_e hf
    obtain ⟨he, hc⟩ := ct_of (y := y_X11_forget) (ret := (some .int)) (rs := [.int x]) one_X11_forget (mk_X11_forget l) rfl (by decide +kernel) (fun h => by cases h) (Or.inr (Or.inl ⟨rfl, rfl⟩)) rfl (Nat.le_of_ble_eq_true rfl) rfl (Nat.le_of_ble_eq_true rfl) hf
    exact ⟨rfl, fun _ => ⟨_, _, rfl, hs⟩, _, t, hk, Nat.le_of_ble_eq_true rfl, he, hc⟩
  · cases h
theorem kc_X10_isDictionary : ab_okC b_X10_isDictionary RX10 false m_X10_isDictionary = true := by decide +kernel
theorem kf_X10_isDictionary : ab_okF RX10 m_X10_isDictionary = true := by decide +kernel
theorem mk_X10_isDictionary (l : Launch) : mok l b_X10_isDictionary RX10 false 0 0 m_X10_isDictionary := ⟨okC_e kc_X10_isDictionary, okF_e kf_X10_isDictionary, fun _ h => absurd h List.not_mem_nil⟩
theorem kd_X10_isDictionary : ab_okY y_X10_isDictionary b_X10_isDictionary 1 (some .boolean) 0 1 10 = true := by decide +kernel
theorem ct_X10_isDictionary (l : Launch) : ab_spec l y_X10_isDictionary b_X10_isDictionary 1 (some .boolean) 0 0 0 1 10 g_X10_isDictionary := by
  intro as st k r h
  unfold g_X10_isDictionary at h
  split at h
  · obtain ⟨x, t, hf, hk⟩ := ri_e h
    obtain ⟨he, hc⟩ := ct_of (y := y_X10_isDictionary) (ret := (some .boolean)) (rs := [.int x]) one_X10_isDictionary (mk_X10_isDictionary l) rfl (by decide +kernel) (fun h => by cases h) (Or.inr (Or.inr (Or.inl ⟨rfl, rfl⟩))) rfl (Nat.le_of_ble_eq_true rfl) rfl (Nat.le_of_ble_eq_true rfl) hf
    exact ⟨rfl, fun h => absurd rfl h, _, t, hk, Nat.le_of_ble_eq_true rfl, he, hc⟩
  · cases h
theorem kc_X7_clear : ab_okC b_X7_clear RX7 false m_X7_clear = true := by decide +kernel
theorem kf_X7_clear : ab_okF RX7 m_X7_clear = true := by decide +kernel
theorem mk_X7_clear (l : Launch) : mok l b_X7_clear RX7 false 0 0 m_X7_clear := ⟨okC_e kc_X7_clear, okF_e kf_X7_clear, fun _ h => absurd h List.not_mem_nil⟩
theorem kd_X7_clear : ab_okY y_X7_clear b_X7_clear 1 none 1 1 7 = true := by decide +kernel
theorem ct_X7_clear (l : Launch) : ab_spec l y_X7_clear b_X7_clear 1 none 0 0 1 1 7 g_X7_clear := by
  intro as st k r h
  unfold g_X7_clear at h
  split at h
  · obtain ⟨t, hf, hk⟩ := rv_e h
    obtain ⟨hs, hf⟩ := rc_e hf
    obtain ⟨he, hc⟩ := ct_of (y := y_X7_clear) (ret := none) (rs := []) one_X7_clear (mk_X7_clear l) rfl (by decide +kernel) (fun h => by cases h) (Or.inl ⟨rfl, rfl⟩) rfl (Nat.le_of_ble_eq_true rfl) rfl (Nat.le_of_ble_eq_true rfl) hf
    exact ⟨rfl, fun _ => ⟨_, _, rfl, hs⟩, _, t, hk, Nat.le_of_ble_eq_true rfl, he, hc⟩
  · cases h
theorem kc_X10_begin : ab_okC b_X10_begin RX10 false m_X10_begin = true := by decide +kernel
theorem kf_X10_begin : ab_okF RX10 m_X10_begin = true := by decide +kernel
theorem mk_X10_begin (l : Launch) : mok l b_X10_begin RX10 false 1 20 m_X10_begin := ⟨okC_e kc_X10_begin, okF_e kf_X10_begin, List.forall_mem_cons.mpr ⟨Or.inl (cee_of kd_X10_isDictionary (by decide +kernel) (ct_X10_isDictionary l) rfl), List.forall_mem_cons.mpr ⟨Or.inl (cee_of kd_X7_clear (by decide +kernel) (ct_X7_clear l) rfl), fun _ h => absurd h List.not_mem_nil⟩⟩⟩
theorem kd_X10_begin : ab_okY y_X10_begin b_X10_begin 4 (some .int) 1 2 10 = true := by decide +kernel
theorem ct_X10_begin (l : Launch) : ab_spec l y_X10_begin b_X10_begin 4 (some .int) 1 20 1 2 10 g_X10_begin := by
  intro as st k r h
  unfold g_X10_begin at h
  split at h
  · obtain ⟨x, t, hf, hk⟩ := ri_e h
    obtain ⟨hs, hf⟩ := rc_e hf
    obtain ⟨he, hc⟩ := ct_of (y := y_X10_begin) (ret := (some .int)) (rs := [.int x]) one_X10_begin (mk_X10_begin l) rfl (by decide +kernel) (fun h => by cases h) (Or.inr (Or.inl ⟨rfl, rfl⟩)) rfl (Nat.le_of_ble_eq_true rfl) rfl (Nat.le_of_ble_eq_true rfl) hf
    exact ⟨rfl, fun _ => ⟨_, _, rfl, hs⟩, _, t, hk, Nat.le_of_ble_eq_true rfl, he, hc⟩
  · cases h
theorem kc_X11_isDictionary : ab_okC b_X11_isDictionary RX11 false m_X11_isDictionary = true := by decide +kernel
theorem kf_X11_isDictionary : ab_okF RX11 m_X11_isDictionary = true := by decide +kernel
theorem mk_X11_isDictionary (l : Launch) : mok l b_X11_isDictionary RX11 false 1 25 m_X11_isDictionary := ⟨okC_e kc_X11_isDictionary, okF_e kf_X11_isDictionary, List.forall_mem_cons.mpr ⟨Or.inl (cee_of kd_X11_isIn (by decide +kernel) (ct_X11_isIn l) rfl), fun _ h => absurd h List.not_mem_nil⟩⟩
theorem kd_X11_isDictionary : ab_okY y_X11_isDictionary b_X11_isDictionary 1 (some .boolean) 0 1 11 = true := by decide +kernel
theorem ct_X11_isDictionary (l : Launch) : ab_spec l y_X11_isDictionary b_X11_isDictionary 1 (some .boolean) 1 25 0 1 11 g_X11_isDictionary := by
  intro as st k r h
  unfold g_X11_isDictionary at h
  split at h
  · obtain ⟨x, t, hf, hk⟩ := ri_e h
    obtain ⟨he, hc⟩ := ct_of (y := y_X11_isDictionary) (ret := (some .boolean)) (rs := [.int x]) one_X11_isDictionary (mk_X11_isDictionary l) rfl (by decide +kernel) (fun h => by cases h) (Or.inr (Or.inr (Or.inl ⟨rfl, rfl⟩))) rfl (Nat.le_of_ble_eq_true rfl) rfl (Nat.le_of_ble_eq_true rfl) hf
    exact ⟨rfl, fun h => absurd rfl h, _, t, hk, Nat.le_of_ble_eq_true rfl, he, hc⟩
  · cases h
theorem kc_X11_begin : ab_okC b_X11_begin RX11 false m_X11_begin = true := by decide +kernel
theorem kf_X11_begin : ab_okF RX11 m_X11_begin = true := by decide +kernel
theorem mk_X11_begin (l : Launch) : mok l b_X11_begin RX11 false 2 45 m_X11_begin := ⟨okC_e kc_X11_begin, okF_e kf_X11_begin, List.forall_mem_cons.mpr ⟨Or.inl (cee_of kd_X11_isDictionary (by decide +kernel) (ct_X11_isDictionary l) rfl), fun _ h => absurd h List.not_mem_nil⟩⟩
theorem kd_X11_begin : ab_okY y_X11_begin b_X11_begin 3 (some .int) 1 2 11 = true := by decide +kernel
theorem ct_X11_begin (l : Launch) : ab_spec l y_X11_begin b_X11_begin 3 (some .int) 2 45 1 2 11 g_X11_begin := by
  intro as st k r h
  unfold g_X11_begin at h
  split at h
  · obtain ⟨x, t, hf, hk⟩ := ri_e h
    obtain ⟨hs, hf⟩ := rc_e hf
    obtain ⟨he, hc⟩ := ct_of (y := y_X11_begin) (ret := (some .int)) (rs := [.int x]) one_X11_begin (mk_X11_begin l) rfl (by decide +kernel) (fun h => by cases h) (Or.inr (Or.inl ⟨rfl, rfl⟩)) rfl (Nat.le_of_ble_eq_true rfl) rfl (Nat.le_of_ble_eq_true rfl) hf
    exact ⟨rfl, fun _ => ⟨_, _, rfl, hs⟩, _, t, hk, Nat.le_of_ble_eq_true rfl, he, hc⟩
  · cases h
theorem kc_X7_has : ab_okC b_X7_has RX7 false m_X7_has = true := by decide +kernel
theorem kf_X7_has : ab_okF RX7 m_X7_has = true := by decide +kernel
theorem mk_X7_has (l : Launch) : mok l b_X7_has RX7 false 0 0 m_X7_has := ⟨okC_e kc_X7_has, okF_e kf_X7_has, fun _ h => absurd h List.not_mem_nil⟩
theorem kd_X7_has : ab_okY y_X7_has b_X7_has 2 (some .boolean) 1 2 7 = true := by decide +kernel
theorem ct_X7_has (l : Launch) : ab_spec l y_X7_has b_X7_has 2 (some .boolean) 0 0 1 2 7 g_X7_has := by
  intro as st k r h
  unfold g_X7_has at h
  split at h
  · obtain ⟨x, t, hf, hk⟩ := ri_e h
    obtain ⟨hs, hf⟩ := rc_e hf
    obtain ⟨he, hc⟩ := ct_of (y := y_X7_has) (ret := (some .boolean)) (rs := [.int x]) one_X7_has (mk_X7_has l) rfl (by decide +kernel) (fun h => by cases h) (Or.inr (Or.inr (Or.inl ⟨rfl, rfl⟩))) rfl (Nat.le_of_ble_eq_true rfl) rfl (Nat.le_of_ble_eq_true rfl) hf
    exact ⟨rfl, fun _ => ⟨_, _, rfl, hs⟩, _, t, hk, Nat.le_of_ble_eq_true rfl, he, hc⟩
  · cases h
theorem kc_X7_lengthAt : ab_okC b_X7_lengthAt RX7 false m_X7_lengthAt = true := by decide +kernel
theorem kf_X7_lengthAt : ab_okF RX7 m_X7_lengthAt = true := by decide +kernel
theorem mk_X7_lengthAt (l : Launch) : mok l b_X7_lengthAt RX7 false 1 21 m_X7_lengthAt := ⟨okC_e kc_X7_lengthAt, okF_e kf_X7_lengthAt, List.forall_mem_cons.mpr ⟨Or.inl (cee_of kd_X7_has (by decide +kernel) (ct_X7_has l) rfl), fun _ h => absurd h List.not_mem_nil⟩⟩
theorem kd_X7_lengthAt : ab_okY y_X7_lengthAt b_X7_lengthAt 2 (some .int) 1 2 7 = true := by decide +kernel
theorem ct_X7_lengthAt (l : Launch) : ab_spec l y_X7_lengthAt b_X7_lengthAt 2 (some .int) 1 21 1 2 7 g_X7_lengthAt := by
  intro as st k r h
  unfold g_X7_lengthAt at h
  split at h
  · obtain ⟨x, t, hf, hk⟩ := ri_e h
    obtain ⟨hs, hf⟩ := rc_e hf
    obtain ⟨he, hc⟩ := ct_of (y := y_X7_lengthAt) (ret := (some .int)) (rs := [.int x]) one_X7_lengthAt (mk_X7_lengthAt l) rfl (by decide +kernel) (fun h => by cases h) (Or.inr (Or.inl ⟨rfl, rfl⟩)) rfl (Nat.le_of_ble_eq_true rfl) rfl (Nat.le_of_ble_eq_true rfl) hf
    exact ⟨rfl, fun _ => ⟨_, _, rfl, hs⟩, _, t, hk, Nat.le_of_ble_eq_true rfl, he, hc⟩
  · cases h
theorem kc_X7_signAt : ab_okC b_X7_signAt RX7 false m_X7_signAt = true := by decide +kernel
theorem kf_X7_signAt : ab_okF RX7 m_X7_signAt = true := by decide +kernel
theorem mk_X7_signAt (l : Launch) : mok l b_X7_signAt RX7 false 2 42 m_X7_signAt := ⟨okC_e kc_X7_signAt, okF_e kf_X7_signAt, List.forall_mem_cons.mpr ⟨Or.inl (cee_of kd_X7_lengthAt (by decide +kernel) (ct_X7_lengthAt l) rfl), fun _ h => absurd h List.not_mem_nil⟩⟩
theorem kd_X7_signAt : ab_okY y_X7_signAt b_X7_signAt 3 (some .int) 1 3 7 = true := by decide +kernel
theorem ct_X7_signAt (l : Launch) : ab_spec l y_X7_signAt b_X7_signAt 3 (some .int) 2 42 1 3 7 g_X7_signAt := by
  intro as st k r h
  unfold g_X7_signAt at h
  split at h
  · obtain ⟨x, t, hf, hk⟩ := ri_e h
    obtain ⟨hs, hf⟩ := rc_e hf
    obtain ⟨he, hc⟩ := ct_of (y := y_X7_signAt) (ret := (some .int)) (rs := [.int x]) one_X7_signAt (mk_X7_signAt l) rfl (by decide +kernel) (fun h => by cases h) (Or.inr (Or.inl ⟨rfl, rfl⟩)) rfl (Nat.le_of_ble_eq_true rfl) rfl (Nat.le_of_ble_eq_true rfl) hf
    exact ⟨rfl, fun _ => ⟨_, _, rfl, hs⟩, _, t, hk, Nat.le_of_ble_eq_true rfl, he, hc⟩
  · cases h
theorem kc_X6_at : ab_okC b_X6_at RX6 false m_X6_at = true := by decide +kernel
theorem kf_X6_at : ab_okF RX6 m_X6_at = true := by decide +kernel
theorem mk_X6_at (l : Launch) : mok l b_X6_at RX6 false 0 0 m_X6_at := ⟨okC_e kc_X6_at, okF_e kf_X6_at, fun _ h => absurd h List.not_mem_nil⟩
theorem kd_X6_at : ab_okY y_X6_at b_X6_at 2 (some .int) 1 2 6 = true := by decide +kernel
theorem ct_X6_at (l : Launch) : ab_spec l y_X6_at b_X6_at 2 (some .int) 0 0 1 2 6 g_X6_at := by
  intro as st k r h
  unfold g_X6_at at h
  split at h
  · obtain ⟨x, t, hf, hk⟩ := ri_e h
    obtain ⟨hs, hf⟩ := rc_e hf
    obtain ⟨he, hc⟩ := ct_of (y := y_X6_at) (ret := (some .int)) (rs := [.int x]) one_X6_at (mk_X6_at l) rfl (by decide +kernel) (fun h => by cases h) (Or.inr (Or.inl ⟨rfl, rfl⟩)) rfl (Nat.le_of_ble_eq_true rfl) rfl (Nat.le_of_ble_eq_true rfl) hf
    exact ⟨rfl, fun _ => ⟨_, _, rfl, hs⟩, _, t, hk, Nat.le_of_ble_eq_true rfl, he, hc⟩
  · cases h
theorem kc_X7_compareWith : ab_okC b_X7_compareWith RX7 false m_X7_compareWith = true := by decide +kernel
theorem kf_X7_compareWith : ab_okF RX7 m_X7_compareWith = true := by decide +kernel
theorem mk_X7_compareWith (l : Launch) : mok l b_X7_compareWith RX7 false 3 64 m_X7_compareWith := ⟨okC_e kc_X7_compareWith, okF_e kf_X7_compareWith, List.forall_mem_cons.mpr ⟨Or.inl (cee_of kd_X7_signAt (by decide +kernel) (ct_X7_signAt l) rfl), List.forall_mem_cons.mpr ⟨Or.inl (cee_of kd_X6_at (by decide +kernel) (ct_X6_at l) rfl), fun _ h => absurd h List.not_mem_nil⟩⟩⟩
theorem kd_X7_compareWith : ab_okY y_X7_compareWith b_X7_compareWith 6 (some .int) 1 3 7 = true := by decide +kernel
theorem ct_X7_compareWith (l : Launch) : ab_spec l y_X7_compareWith b_X7_compareWith 6 (some .int) 3 64 1 3 7 g_X7_compareWith := by
  intro as st k r h
  unfold g_X7_compareWith at h
  split at h
  · obtain ⟨x, t, hf, hk⟩ := ri_e h
    obtain ⟨hs, hf⟩ := rc_e hf
    obtain ⟨he, hc⟩ := ct_of (y := y_X7_compareWith) (ret := (some .int)) (rs := [.int x]) one_X7_compareWith (mk_X7_compareWith l) rfl (by decide +kernel) (fun h => by cases h) (Or.inr (Or.inl ⟨rfl, rfl⟩)) rfl (Nat.le_of_ble_eq_true rfl) rfl (Nat.le_of_ble_eq_true rfl) hf
    exact ⟨rfl, fun _ => ⟨_, _, rfl, hs⟩, _, t, hk, Nat.le_of_ble_eq_true rfl, he, hc⟩
  · cases h
theorem kc_X7_append : ab_okC b_X7_append RX7 false m_X7_append = true := by decide +kernel
theorem kf_X7_append : ab_okF RX7 m_X7_append = true := by decide +kernel
theorem mk_X7_append (l : Launch) : mok l b_X7_append RX7 false 0 0 m_X7_append := ⟨okC_e kc_X7_append, okF_e kf_X7_append, fun _ h => absurd h List.not_mem_nil⟩
theorem kd_X7_append : ab_okY y_X7_append b_X7_append 8 (some .boolean) 1 5 7 = true := by decide +kernel
theorem ct_X7_append (l : Launch) : ab_spec l y_X7_append b_X7_append 8 (some .boolean) 0 0 1 5 7 g_X7_append := by
  intro as st k r h
  unfold g_X7_append at h
  split at h
  · obtain ⟨x, t, hf, hk⟩ := ri_e h
    obtain ⟨hs, hf⟩ := rc_e hf
    obtain ⟨he, hc⟩ := ct_of (y := y_X7_append) (ret := (some .boolean)) (rs := [.int x]) one_X7_append (mk_X7_append l) rfl (by decide +kernel) (fun h => by cases h) (Or.inr (Or.inr (Or.inl ⟨rfl, rfl⟩))) rfl (Nat.le_of_ble_eq_true rfl) rfl (Nat.le_of_ble_eq_true rfl) hf
    exact ⟨rfl, fun _ => ⟨_, _, rfl, hs⟩, _, t, hk, Nat.le_of_ble_eq_true rfl, he, hc⟩
  · cases h
