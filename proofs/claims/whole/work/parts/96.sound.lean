theorem kc_X11_isWild : ab_okC b_X11_isWild RX11 false m_X11_isWild = true := by decide +kernel
theorem kf_X11_isWild : ab_okF RX11 m_X11_isWild = true := by decide +kernel
theorem mk_X11_isWild (l : Launch) : mok l b_X11_isWild RX11 false 1 23 m_X11_isWild := ⟨okC_e kc_X11_isWild, okF_e kf_X11_isWild, List.forall_mem_cons.mpr ⟨Or.inl (cee_of kd_X11_letter (by decide +kernel) (ct_X11_letter l) rfl), fun _ h => absurd h List.not_mem_nil⟩⟩
theorem kd_X11_isWild : ab_okY y_X11_isWild b_X11_isWild 8 (some .boolean) 1 4 11 = true := by decide +kernel
theorem ct_X11_isWild (l : Launch) : ab_spec l y_X11_isWild b_X11_isWild 8 (some .boolean) 1 23 1 4 11 g_X11_isWild := by
  intro as st k r h
  unfold g_X11_isWild at h
  split at h
  · obtain ⟨x, t, hf, hk⟩ := ri_e h
    obtain ⟨hs, hf⟩ := rc_e hf
    obtain ⟨he, hc⟩ := ct_of (y := y_X11_isWild) (ret := (some .boolean)) (rs := [.int x]) one_X11_isWild (mk_X11_isWild l) rfl (by decide +kernel) (fun h => by cases h) (Or.inr (Or.inr (Or.inl ⟨rfl, rfl⟩))) rfl (Nat.le_of_ble_eq_true rfl) rfl (Nat.le_of_ble_eq_true rfl) hf
    exact ⟨rfl, fun _ => ⟨_, _, rfl, hs⟩, _, t, hk, Nat.le_of_ble_eq_true rfl, he, hc⟩
  · cases h
theorem kc_X11_close : ab_okC b_X11_close RX11 false m_X11_close = true := by decide +kernel
theorem kf_X11_close : ab_okF RX11 m_X11_close = true := by decide +kernel
theorem mk_X11_close (l : Launch) : mok l b_X11_close RX11 false 0 0 m_X11_close := ⟨okC_e kc_X11_close, okF_e kf_X11_close, fun _ h => absurd h List.not_mem_nil⟩
theorem kd_X11_close : ab_okY y_X11_close b_X11_close 4 none 1 2 11 = true := by decide +kernel
theorem ct_X11_close (l : Launch) : ab_spec l y_X11_close b_X11_close 4 none 0 0 1 2 11 g_X11_close := by
  intro as st k r h
  unfold g_X11_close at h
  split at h
  · obtain ⟨t, hf, hk⟩ := rv_e h
    obtain ⟨hs, hf⟩ := rc_e hf
    obtain ⟨he, hc⟩ := ct_of (y := y_X11_close) (ret := none) (rs := []) one_X11_close (mk_X11_close l) rfl (by decide +kernel) (fun h => by cases h) (Or.inl ⟨rfl, rfl⟩) rfl (Nat.le_of_ble_eq_true rfl) rfl (Nat.le_of_ble_eq_true rfl) hf
    exact ⟨rfl, fun _ => ⟨_, _, rfl, hs⟩, _, t, hk, Nat.le_of_ble_eq_true rfl, he, hc⟩
  · cases h
theorem kc_X11_isPattern : ab_okC b_X11_isPattern RX11 false m_X11_isPattern = true := by decide +kernel
theorem kf_X11_isPattern : ab_okF RX11 m_X11_isPattern = true := by decide +kernel
theorem mk_X11_isPattern (l : Launch) : mok l b_X11_isPattern RX11 false 1 23 m_X11_isPattern := ⟨okC_e kc_X11_isPattern, okF_e kf_X11_isPattern, List.forall_mem_cons.mpr ⟨Or.inl (cee_of kd_X11_letter (by decide +kernel) (ct_X11_letter l) rfl), List.forall_mem_cons.mpr ⟨Or.inl (cee_of kd_X11_close (by decide +kernel) (ct_X11_close l) rfl), fun _ h => absurd h List.not_mem_nil⟩⟩⟩
theorem kd_X11_isPattern : ab_okY y_X11_isPattern b_X11_isPattern 5 (some .boolean) 1 3 11 = true := by decide +kernel
theorem ct_X11_isPattern (l : Launch) : ab_spec l y_X11_isPattern b_X11_isPattern 5 (some .boolean) 1 23 1 3 11 g_X11_isPattern := by
  intro as st k r h
  unfold g_X11_isPattern at h
  split at h
  · obtain ⟨x, t, hf, hk⟩ := ri_e h
    obtain ⟨hs, hf⟩ := rc_e hf
    obtain ⟨he, hc⟩ := ct_of (y := y_X11_isPattern) (ret := (some .boolean)) (rs := [.int x]) one_X11_isPattern (mk_X11_isPattern l) rfl (by decide +kernel) (fun h => by cases h) (Or.inr (Or.inr (Or.inl ⟨rfl, rfl⟩))) rfl (Nat.le_of_ble_eq_true rfl) rfl (Nat.le_of_ble_eq_true rfl) hf
    exact ⟨rfl, fun _ => ⟨_, _, rfl, hs⟩, _, t, hk, Nat.le_of_ble_eq_true rfl, he, hc⟩
  · cases h
theorem kc_X11_distance : ab_okC b_X11_distance RX11 false m_X11_distance = true := by decide +kernel
theorem kf_X11_distance : ab_okF RX11 m_X11_distance = true := by decide +kernel
theorem mk_X11_distance (l : Launch) : mok l b_X11_distance RX11 false 1 23 m_X11_distance := ⟨okC_e kc_X11_distance, okF_e kf_X11_distance, List.forall_mem_cons.mpr ⟨Or.inl (cee_of kd_X11_letter (by decide +kernel) (ct_X11_letter l) rfl), List.forall_mem_cons.mpr ⟨Or.inl (cee_of kd_X11_lesser (by decide +kernel) (ct_X11_lesser l) rfl), fun _ h => absurd h List.not_mem_nil⟩⟩⟩
theorem kd_X11_distance : ab_okY y_X11_distance b_X11_distance 9 (some .int) 1 4 11 = true := by decide +kernel
theorem ct_X11_distance (l : Launch) : ab_spec l y_X11_distance b_X11_distance 9 (some .int) 1 23 1 4 11 g_X11_distance := by
  intro as st k r h
  unfold g_X11_distance at h
  split at h
  · obtain ⟨x, t, hf, hk⟩ := ri_e h
    obtain ⟨hs, hf⟩ := rc_e hf
    obtain ⟨he, hc⟩ := ct_of (y := y_X11_distance) (ret := (some .int)) (rs := [.int x]) one_X11_distance (mk_X11_distance l) rfl (by decide +kernel) (fun h => by cases h) (Or.inr (Or.inl ⟨rfl, rfl⟩)) rfl (Nat.le_of_ble_eq_true rfl) rfl (Nat.le_of_ble_eq_true rfl) hf
    exact ⟨rfl, fun _ => ⟨_, _, rfl, hs⟩, _, t, hk, Nat.le_of_ble_eq_true rfl, he, hc⟩
  · cases h
theorem kc_X11_meet : ab_okC b_X11_meet RX11 false m_X11_meet = true := by decide +kernel
theorem kf_X11_meet : ab_okF RX11 m_X11_meet = true := by decide +kernel
theorem mk_X11_meet (l : Launch) : mok l b_X11_meet RX11 false 6 134 m_X11_meet := ⟨okC_e kc_X11_meet, okF_e kf_X11_meet, List.forall_mem_cons.mpr ⟨Or.inl (cee_of kd_X11_isIn (by decide +kernel) (ct_X11_isIn l) rfl), List.forall_mem_cons.mpr ⟨Or.inl (cee_of kd_X11_isDictionary (by decide +kernel) (ct_X11_isDictionary l) rfl), List.forall_mem_cons.mpr ⟨Or.inl (cee_of kd_X11_forget (by decide +kernel) (ct_X11_forget l) rfl), List.forall_mem_cons.mpr ⟨Or.inl (cee_of kd_X11_parsePattern (by decide +kernel) (ct_X11_parsePattern l) rfl), List.forall_mem_cons.mpr ⟨Or.inl (cee_of kd_X11_isWild (by decide +kernel) (ct_X11_isWild l) rfl), List.forall_mem_cons.mpr ⟨Or.inl (cee_of kd_X11_isPattern (by decide +kernel) (ct_X11_isPattern l) rfl), List.forall_mem_cons.mpr ⟨Or.inl (cee_of kd_X11_distance (by decide +kernel) (ct_X11_distance l) rfl), fun _ h => absurd h List.not_mem_nil⟩⟩⟩⟩⟩⟩⟩⟩
theorem kd_X11_meet : ab_okY y_X11_meet b_X11_meet 6 (some .int) 1 3 11 = true := by decide +kernel
theorem ct_X11_meet (l : Launch) : ab_spec l y_X11_meet b_X11_meet 6 (some .int) 6 134 1 3 11 g_X11_meet := by
  intro as st k r h
  unfold g_X11_meet at h
  split at h
  · obtain ⟨x, t, hf, hk⟩ := ri_e h
    obtain ⟨hs, hf⟩ := rc_e hf
    obtain ⟨he, hc⟩ := ct_of (y := y_X11_meet) (ret := (some .int)) (rs := [.int x]) one_X11_meet (mk_X11_meet l) rfl (by decide +kernel) (fun h => by cases h) (Or.inr (Or.inl ⟨rfl, rfl⟩)) rfl (Nat.le_of_ble_eq_true rfl) rfl (Nat.le_of_ble_eq_true rfl) hf
    exact ⟨rfl, fun _ => ⟨_, _, rfl, hs⟩, _, t, hk, Nat.le_of_ble_eq_true rfl, he, hc⟩
  · cases h
theorem kc_X10_fault : ab_okC b_X10_fault RX10 false m_X10_fault = true := by decide +kernel
theorem kf_X10_fault : ab_okF RX10 m_X10_fault = true := by decide +kernel
theorem mk_X10_fault (l : Launch) : mok l b_X10_fault RX10 false 0 0 m_X10_fault := ⟨okC_e kc_X10_fault, okF_e kf_X10_fault, fun _ h => absurd h List.not_mem_nil⟩
theorem kd_X10_fault : ab_okY y_X10_fault b_X10_fault 1 (some .int) 1 1 10 = true := by decide +kernel
theorem ct_X10_fault (l : Launch) : ab_spec l y_X10_fault b_X10_fault 1 (some .int) 0 0 1 1 10 g_X10_fault := by
  intro as st k r h
  unfold g_X10_fault at h
  split at h
  · obtain ⟨x, t, hf, hk⟩ := ri_e h
    obtain ⟨hs, hf⟩ := rc_e hf
    obtain ⟨he, hc⟩ := ct_of (y := y_X10_fault) (ret := (some .int)) (rs := [.int x]) one_X10_fault (mk_X10_fault l) rfl (by decide +kernel) (fun h => by cases h) (Or.inr (Or.inl ⟨rfl, rfl⟩)) rfl (Nat.le_of_ble_eq_true rfl) rfl (Nat.le_of_ble_eq_true rfl) hf
    exact ⟨rfl, fun _ => ⟨_, _, rfl, hs⟩, _, t, hk, Nat.le_of_ble_eq_true rfl, he, hc⟩
  · cases h
theorem kc_X11_fault : ab_okC b_X11_fault RX11 false m_X11_fault = true := by decide +kernel
theorem kf_X11_fault : ab_okF RX11 m_X11_fault = true := by decide +kernel
theorem mk_X11_fault (l : Launch) : mok l b_X11_fault RX11 false 0 0 m_X11_fault := ⟨okC_e kc_X11_fault, okF_e kf_X11_fault, fun _ h => absurd h List.not_mem_nil⟩
theorem kd_X11_fault : ab_okY y_X11_fault b_X11_fault 1 (some .int) 1 1 11 = true := by decide +kernel
theorem ct_X11_fault (l : Launch) : ab_spec l y_X11_fault b_X11_fault 1 (some .int) 0 0 1 1 11 g_X11_fault := by
  intro as st k r h
  unfold g_X11_fault at h
  split at h
  · obtain ⟨x, t, hf, hk⟩ := ri_e h
    obtain ⟨hs, hf⟩ := rc_e hf
    obtain ⟨he, hc⟩ := ct_of (y := y_X11_fault) (ret := (some .int)) (rs := [.int x]) one_X11_fault (mk_X11_fault l) rfl (by decide +kernel) (fun h => by cases h) (Or.inr (Or.inl ⟨rfl, rfl⟩)) rfl (Nat.le_of_ble_eq_true rfl) rfl (Nat.le_of_ble_eq_true rfl) hf
    exact ⟨rfl, fun _ => ⟨_, _, rfl, hs⟩, _, t, hk, Nat.le_of_ble_eq_true rfl, he, hc⟩
  · cases h
theorem kc_X10_row : ab_okC b_X10_row RX10 false m_X10_row = true := by decide +kernel
theorem kf_X10_row : ab_okF RX10 m_X10_row = true := by decide +kernel
theorem mk_X10_row (l : Launch) : mok l b_X10_row RX10 false 0 0 m_X10_row := ⟨okC_e kc_X10_row, okF_e kf_X10_row, fun _ h => absurd h List.not_mem_nil⟩
theorem kd_X10_row : ab_okY y_X10_row b_X10_row 2 (some .int) 1 2 10 = true := by decide +kernel
theorem ct_X10_row (l : Launch) : ab_spec l y_X10_row b_X10_row 2 (some .int) 0 0 1 2 10 g_X10_row := by
  intro as st k r h
  unfold g_X10_row at h
  split at h
  · obtain ⟨x, t, hf, hk⟩ := ri_e h
    obtain ⟨hs, hf⟩ := rc_e hf
    obtain ⟨he, hc⟩ := ct_of (y := y_X10_row) (ret := (some .int)) (rs := [.int x]) one_X10_row (mk_X10_row l) rfl (by decide +kernel) (fun h => by cases h) (Or.inr (Or.inl ⟨rfl, rfl⟩)) rfl (Nat.le_of_ble_eq_true rfl) rfl (Nat.le_of_ble_eq_true rfl) hf
    exact ⟨rfl, fun _ => ⟨_, _, rfl, hs⟩, _, t, hk, Nat.le_of_ble_eq_true rfl, he, hc⟩
  · cases h
theorem kc_X11_row : ab_okC b_X11_row RX11 false m_X11_row = true := by decide +kernel
theorem kf_X11_row : ab_okF RX11 m_X11_row = true := by decide +kernel
theorem mk_X11_row (l : Launch) : mok l b_X11_row RX11 false 1 25 m_X11_row := ⟨okC_e kc_X11_row, okF_e kf_X11_row, List.forall_mem_cons.mpr ⟨Or.inl (cee_of kd_X11_isIn (by decide +kernel) (ct_X11_isIn l) rfl), fun _ h => absurd h List.not_mem_nil⟩⟩
theorem kd_X11_row : ab_okY y_X11_row b_X11_row 2 (some .int) 1 2 11 = true := by decide +kernel
theorem ct_X11_row (l : Launch) : ab_spec l y_X11_row b_X11_row 2 (some .int) 1 25 1 2 11 g_X11_row := by
  intro as st k r h
  unfold g_X11_row at h
  split at h
  · obtain ⟨x, t, hf, hk⟩ := ri_e h
    obtain ⟨hs, hf⟩ := rc_e hf
    obtain ⟨he, hc⟩ := ct_of (y := y_X11_row) (ret := (some .int)) (rs := [.int x]) one_X11_row (mk_X11_row l) rfl (by decide +kernel) (fun h => by cases h) (Or.inr (Or.inl ⟨rfl, rfl⟩)) rfl (Nat.le_of_ble_eq_true rfl) rfl (Nat.le_of_ble_eq_true rfl) hf
    exact ⟨rfl, fun _ => ⟨_, _, rfl, hs⟩, _, t, hk, Nat.le_of_ble_eq_true rfl, he, hc⟩
  · cases h
theorem kc_X7_compareTerms : ab_okC b_X7_compareTerms RX7 false m_X7_compareTerms = true := by decide +kernel
theorem kf_X7_compareTerms : ab_okF RX7 m_X7_compareTerms = true := by decide +kernel
theorem mk_X7_compareTerms (l : Launch) : mok l b_X7_compareTerms RX7 false 3 64 m_X7_compareTerms := ⟨okC_e kc_X7_compareTerms, okF_e kf_X7_compareTerms, List.forall_mem_cons.mpr ⟨Or.inl (cee_of kd_X7_signAt (by decide +kernel) (ct_X7_signAt l) rfl), fun _ h => absurd h List.not_mem_nil⟩⟩
theorem kd_X7_compareTerms : ab_okY y_X7_compareTerms b_X7_compareTerms 7 (some .int) 0 4 7 = true := by decide +kernel
theorem ct_X7_compareTerms (l : Launch) : ab_spec l y_X7_compareTerms b_X7_compareTerms 7 (some .int) 3 64 0 4 7 g_X7_compareTerms := by
  intro as st k r h
  unfold g_X7_compareTerms at h
  split at h
  · obtain ⟨x, t, hf, hk⟩ := ri_e h
    obtain ⟨he, hc⟩ := ct_of (y := y_X7_compareTerms) (ret := (some .int)) (rs := [.int x]) one_X7_compareTerms (mk_X7_compareTerms l) rfl (by decide +kernel) (fun h => by cases h) (Or.inr (Or.inl ⟨rfl, rfl⟩)) rfl (Nat.le_of_ble_eq_true rfl) rfl (Nat.le_of_ble_eq_true rfl) hf
    exact ⟨rfl, fun h => absurd rfl h, _, t, hk, Nat.le_of_ble_eq_true rfl, he, hc⟩
  · cases h
theorem kc_X7_gatherOne : ab_okC b_X7_gatherOne RX7 false m_X7_gatherOne = true := by decide +kernel
theorem kf_X7_gatherOne : ab_okF RX7 m_X7_gatherOne = true := by decide +kernel
theorem mk_X7_gatherOne (l : Launch) : mok l b_X7_gatherOne RX7 false 2 42 m_X7_gatherOne := ⟨okC_e kc_X7_gatherOne, okF_e kf_X7_gatherOne, List.forall_mem_cons.mpr ⟨Or.inl (cee_of kd_X7_lengthAt (by decide +kernel) (ct_X7_lengthAt l) rfl), List.forall_mem_cons.mpr ⟨Or.inl (cee_of kd_X7_append (by decide +kernel) (ct_X7_append l) rfl), fun _ h => absurd h List.not_mem_nil⟩⟩⟩
theorem kd_X7_gatherOne : ab_okY y_X7_gatherOne b_X7_gatherOne 5 (some .int) 1 4 7 = true := by decide +kernel
theorem ct_X7_gatherOne (l : Launch) : ab_spec l y_X7_gatherOne b_X7_gatherOne 5 (some .int) 2 42 1 4 7 g_X7_gatherOne := by
  intro as st k r h
  unfold g_X7_gatherOne at h
  split at h
  · obtain ⟨x, t, hf, hk⟩ := ri_e h
    obtain ⟨hs, hf⟩ := rc_e hf
    obtain ⟨he, hc⟩ := ct_of (y := y_X7_gatherOne) (ret := (some .int)) (rs := [.int x]) one_X7_gatherOne (mk_X7_gatherOne l) rfl (by decide +kernel) (fun h => by cases h) (Or.inr (Or.inl ⟨rfl, rfl⟩)) rfl (Nat.le_of_ble_eq_true rfl) rfl (Nat.le_of_ble_eq_true rfl) hf
    exact ⟨rfl, fun _ => ⟨_, _, rfl, hs⟩, _, t, hk, Nat.le_of_ble_eq_true rfl, he, hc⟩
  · cases h
theorem kc_X7_gatherBoth : ab_okC b_X7_gatherBoth RX7 false m_X7_gatherBoth = true := by decide +kernel
theorem kf_X7_gatherBoth : ab_okF RX7 m_X7_gatherBoth = true := by decide +kernel
theorem mk_X7_gatherBoth (l : Launch) : mok l b_X7_gatherBoth RX7 false 3 66 m_X7_gatherBoth := ⟨okC_e kc_X7_gatherBoth, okF_e kf_X7_gatherBoth, List.forall_mem_cons.mpr ⟨Or.inl (cee_of kd_X7_outAt (by decide +kernel) (ct_X7_outAt l) rfl), List.forall_mem_cons.mpr ⟨Or.inl (cee_of kd_X7_gatherOne (by decide +kernel) (ct_X7_gatherOne l) rfl), List.forall_mem_cons.mpr ⟨Or.inr (Or.inr ⟨rfl, Nat.le_of_ble_eq_true rfl, Nat.le_of_ble_eq_true rfl, Or.inr (Or.inr (Or.inr ⟨rfl, rfl, by decide +kernel⟩))⟩), fun _ h => absurd h List.not_mem_nil⟩⟩⟩⟩
theorem kd_X7_gatherBoth : ab_okY y_X7_gatherBoth b_X7_gatherBoth 8 (some .int) 1 5 7 = true := by decide +kernel
theorem ct_X7_gatherBoth (l : Launch) : ab_spec l y_X7_gatherBoth b_X7_gatherBoth 8 (some .int) 3 66 1 5 7 g_X7_gatherBoth := by
  intro as st k r h
  unfold g_X7_gatherBoth at h
  split at h
  · obtain ⟨x, t, hf, hk⟩ := ri_e h
    obtain ⟨hs, hf⟩ := rc_e hf
    obtain ⟨he, hc⟩ := ct_of (y := y_X7_gatherBoth) (ret := (some .int)) (rs := [.int x]) one_X7_gatherBoth (mk_X7_gatherBoth l) rfl (by decide +kernel) (fun h => by cases h) (Or.inr (Or.inl ⟨rfl, rfl⟩)) rfl (Nat.le_of_ble_eq_true rfl) rfl (Nat.le_of_ble_eq_true rfl) hf
    exact ⟨rfl, fun _ => ⟨_, _, rfl, hs⟩, _, t, hk, Nat.le_of_ble_eq_true rfl, he, hc⟩
  · cases h
theorem kc_X7_gather : ab_okC b_X7_gather RX7 false m_X7_gather = true := by decide +kernel
theorem kf_X7_gather : ab_okF RX7 m_X7_gather = true := by decide +kernel
theorem mk_X7_gather (l : Launch) : mok l b_X7_gather RX7 false 4 93 m_X7_gather := ⟨okC_e kc_X7_gather, okF_e kf_X7_gather, List.forall_mem_cons.mpr ⟨Or.inl (cee_of kd_X7_clear (by decide +kernel) (ct_X7_clear l) rfl), List.forall_mem_cons.mpr ⟨Or.inl (cee_of kd_X7_compareTerms (by decide +kernel) (ct_X7_compareTerms l) rfl), List.forall_mem_cons.mpr ⟨Or.inl (cee_of kd_X7_outAt (by decide +kernel) (ct_X7_outAt l) rfl), List.forall_mem_cons.mpr ⟨Or.inl (cee_of kd_X7_gatherBoth (by decide +kernel) (ct_X7_gatherBoth l) rfl), List.forall_mem_cons.mpr ⟨Or.inl (cee_of kd_X7_gatherOne (by decide +kernel) (ct_X7_gatherOne l) rfl), fun _ h => absurd h List.not_mem_nil⟩⟩⟩⟩⟩⟩
theorem kd_X7_gather : ab_okY y_X7_gather b_X7_gather 9 (some .int) 1 4 7 = true := by decide +kernel
theorem ct_X7_gather (l : Launch) : ab_spec l y_X7_gather b_X7_gather 9 (some .int) 4 93 1 4 7 g_X7_gather := by
  intro as st k r h
  unfold g_X7_gather at h
  split at h
  · obtain ⟨x, t, hf, hk⟩ := ri_e h
    obtain ⟨hs, hf⟩ := rc_e hf
    obtain ⟨he, hc⟩ := ct_of (y := y_X7_gather) (ret := (some .int)) (rs := [.int x]) one_X7_gather (mk_X7_gather l) rfl (by decide +kernel) (fun h => by cases h) (Or.inr (Or.inl ⟨rfl, rfl⟩)) rfl (Nat.le_of_ble_eq_true rfl) rfl (Nat.le_of_ble_eq_true rfl) hf
    exact ⟨rfl, fun _ => ⟨_, _, rfl, hs⟩, _, t, hk, Nat.le_of_ble_eq_true rfl, he, hc⟩
  · cases h
theorem kc_X10_putSpareAt : ab_okC b_X10_putSpareAt RX10 false m_X10_putSpareAt = true := by decide +kernel
theorem kf_X10_putSpareAt : ab_okF RX10 m_X10_putSpareAt = true := by decide +kernel
theorem mk_X10_putSpareAt (l : Launch) : mok l b_X10_putSpareAt RX10 false 0 0 m_X10_putSpareAt := ⟨okC_e kc_X10_putSpareAt, okF_e kf_X10_putSpareAt, fun _ h => absurd h List.not_mem_nil⟩
theorem kd_X10_putSpareAt : ab_okY y_X10_putSpareAt b_X10_putSpareAt 3 none 1 2 10 = true := by decide +kernel
theorem ct_X10_putSpareAt (l : Launch) : ab_spec l y_X10_putSpareAt b_X10_putSpareAt 3 none 0 0 1 2 10 g_X10_putSpareAt := by
  intro as st k r h
  unfold g_X10_putSpareAt at h
  split at h
  · obtain ⟨t, hf, hk⟩ := rv_e h
    obtain ⟨hs, hf⟩ := rc_e hf
    obtain ⟨he, hc⟩ := ct_of (y := y_X10_putSpareAt) (ret := none) (rs := []) one_X10_putSpareAt (mk_X10_putSpareAt l) rfl (by decide +kernel) (fun h => by cases h) (Or.inl ⟨rfl, rfl⟩) rfl (Nat.le_of_ble_eq_true rfl) rfl (Nat.le_of_ble_eq_true rfl) hf
    exact ⟨rfl, fun _ => ⟨_, _, rfl, hs⟩, _, t, hk, Nat.le_of_ble_eq_true rfl, he, hc⟩
  · cases h
theorem kc_X10_join : ab_okC b_X10_join RX10 false m_X10_join = true := by decide +kernel
theorem kf_X10_join : ab_okF RX10 m_X10_join = true := by decide +kernel
theorem mk_X10_join (l : Launch) : mok l b_X10_join RX10 false 6 132 m_X10_join := ⟨okC_e kc_X10_join, okF_e kf_X10_join, List.forall_mem_cons.mpr ⟨Or.inl (cee_of kd_X10_isDictionary (by decide +kernel) (ct_X10_isDictionary l) rfl), List.forall_mem_cons.mpr ⟨Or.inl (cee_of kd_X8_build (by decide +kernel) (ct_X8_build l) rfl), List.forall_mem_cons.mpr ⟨Or.inl (cee_of kd_X7_gather (by decide +kernel) (ct_X7_gather l) rfl), List.forall_mem_cons.mpr ⟨Or.inl (cee_of kd_X10_putSpareAt (by decide +kernel) (ct_X10_putSpareAt l) rfl), fun _ h => absurd h List.not_mem_nil⟩⟩⟩⟩⟩
theorem kd_X10_join : ab_okY y_X10_join b_X10_join 6 (some .int) 1 5 10 = true := by decide +kernel
theorem ct_X10_join (l : Launch) : ab_spec l y_X10_join b_X10_join 6 (some .int) 6 132 1 5 10 g_X10_join := by
  intro as st k r h
  unfold g_X10_join at h
  split at h
  · obtain ⟨x, t, hf, hk⟩ := ri_e h
    obtain ⟨hs, hf⟩ := rc_e hf
    obtain ⟨he, hc⟩ := ct_of (y := y_X10_join) (ret := (some .int)) (rs := [.int x]) one_X10_join (mk_X10_join l) rfl (by decide +kernel) (fun h => by cases h) (Or.inr (Or.inl ⟨rfl, rfl⟩)) rfl (Nat.le_of_ble_eq_true rfl) rfl (Nat.le_of_ble_eq_true rfl) hf
    exact ⟨rfl, fun _ => ⟨_, _, rfl, hs⟩, _, t, hk, Nat.le_of_ble_eq_true rfl, he, hc⟩
  · cases h
theorem kc_X11_compareTerms : ab_okC b_X11_compareTerms RX11 false m_X11_compareTerms = true := by decide +kernel
theorem kf_X11_compareTerms : ab_okF RX11 m_X11_compareTerms = true := by decide +kernel
theorem mk_X11_compareTerms (l : Launch) : mok l b_X11_compareTerms RX11 false 1 23 m_X11_compareTerms := ⟨okC_e kc_X11_compareTerms, okF_e kf_X11_compareTerms, List.forall_mem_cons.mpr ⟨Or.inl (cee_of kd_X11_letter (by decide +kernel) (ct_X11_letter l) rfl), fun _ h => absurd h List.not_mem_nil⟩⟩
theorem kd_X11_compareTerms : ab_okY y_X11_compareTerms b_X11_compareTerms 9 (some .int) 1 5 11 = true := by decide +kernel
theorem ct_X11_compareTerms (l : Launch) : ab_spec l y_X11_compareTerms b_X11_compareTerms 9 (some .int) 1 23 1 5 11 g_X11_compareTerms := by
  intro as st k r h
  unfold g_X11_compareTerms at h
  split at h
  · obtain ⟨x, t, hf, hk⟩ := ri_e h
    obtain ⟨hs, hf⟩ := rc_e hf
    obtain ⟨he, hc⟩ := ct_of (y := y_X11_compareTerms) (ret := (some .int)) (rs := [.int x]) one_X11_compareTerms (mk_X11_compareTerms l) rfl (by decide +kernel) (fun h => by cases h) (Or.inr (Or.inl ⟨rfl, rfl⟩)) rfl (Nat.le_of_ble_eq_true rfl) rfl (Nat.le_of_ble_eq_true rfl) hf
    exact ⟨rfl, fun _ => ⟨_, _, rfl, hs⟩, _, t, hk, Nat.le_of_ble_eq_true rfl, he, hc⟩
  · cases h
