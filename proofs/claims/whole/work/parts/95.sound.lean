theorem kc_X2_accepts : ab_okC b_X2_accepts RX2 false m_X2_accepts = true := by decide +kernel
theorem kf_X2_accepts : ab_okF RX2 m_X2_accepts = true := by decide +kernel
theorem mk_X2_accepts (l : Launch) : mok l b_X2_accepts RX2 false 4 92 m_X2_accepts := ⟨okC_e kc_X2_accepts, okF_e kf_X2_accepts, List.forall_mem_cons.mpr ⟨Or.inl (cee_of kd_X7_lengthAt (by decide +kernel) (ct_X7_lengthAt l) rfl), List.forall_mem_cons.mpr ⟨Or.inr (Or.inr ⟨rfl, Nat.le_of_ble_eq_true rfl, Nat.le_of_ble_eq_true rfl, Or.inr (Or.inr (Or.inl ⟨rfl, rfl, by decide +kernel⟩))⟩), List.forall_mem_cons.mpr ⟨Or.inl (cee_of kd_X2_fewest (by decide +kernel) (ct_X2_fewest l) rfl), fun _ h => absurd h List.not_mem_nil⟩⟩⟩⟩
theorem kd_X2_accepts : ab_okY y_X2_accepts b_X2_accepts 6 (some .boolean) 1 3 2 = true := by decide +kernel
theorem ct_X2_accepts (l : Launch) : ab_spec l y_X2_accepts b_X2_accepts 6 (some .boolean) 4 92 1 3 2 g_X2_accepts := by
  intro as st k r h
  unfold g_X2_accepts at h
  split at h
  · obtain ⟨x, t, hf, hk⟩ := ri_e h
    obtain ⟨hs, hf⟩ := rc_e hf
    obtain ⟨he, hc⟩ := ct_of (y := y_X2_accepts) (ret := (some .boolean)) (rs := [.int x]) one_X2_accepts (mk_X2_accepts l) rfl (by decide +kernel) (fun h => by cases h) (Or.inr (Or.inr (Or.inl ⟨rfl, rfl⟩))) rfl (Nat.le_of_ble_eq_true rfl) rfl (Nat.le_of_ble_eq_true rfl) hf
    exact ⟨rfl, fun _ => ⟨_, _, rfl, hs⟩, _, t, hk, Nat.le_of_ble_eq_true rfl, he, hc⟩
  · cases h
theorem kc_X5_takersOf : ab_okC b_X5_takersOf RX5 false m_X5_takersOf = true := by decide +kernel
theorem kf_X5_takersOf : ab_okF RX5 m_X5_takersOf = true := by decide +kernel
theorem mk_X5_takersOf (l : Launch) : mok l b_X5_takersOf RX5 false 0 0 m_X5_takersOf := ⟨okC_e kc_X5_takersOf, okF_e kf_X5_takersOf, fun _ h => absurd h List.not_mem_nil⟩
theorem kd_X5_takersOf : ab_okY y_X5_takersOf b_X5_takersOf 2 (some .int) 1 2 5 = true := by decide +kernel
theorem ct_X5_takersOf (l : Launch) : ab_spec l y_X5_takersOf b_X5_takersOf 2 (some .int) 0 0 1 2 5 g_X5_takersOf := by
  intro as st k r h
  unfold g_X5_takersOf at h
  split at h
  · obtain ⟨x, t, hf, hk⟩ := ri_e h
    obtain ⟨hs, hf⟩ := rc_e hf
    obtain ⟨he, hc⟩ := ct_of (y := y_X5_takersOf) (ret := (some .int)) (rs := [.int x]) one_X5_takersOf (mk_X5_takersOf l) rfl (by decide +kernel) (fun h => by cases h) (Or.inr (Or.inl ⟨rfl, rfl⟩)) rfl (Nat.le_of_ble_eq_true rfl) rfl (Nat.le_of_ble_eq_true rfl) hf
    exact ⟨rfl, fun _ => ⟨_, _, rfl, hs⟩, _, t, hk, Nat.le_of_ble_eq_true rfl, he, hc⟩
  · cases h
theorem kc_X5_reachedFrom : ab_okC b_X5_reachedFrom RX5 false m_X5_reachedFrom = true := by decide +kernel
theorem kf_X5_reachedFrom : ab_okF RX5 m_X5_reachedFrom = true := by decide +kernel
theorem mk_X5_reachedFrom (l : Launch) : mok l b_X5_reachedFrom RX5 false 0 0 m_X5_reachedFrom := ⟨okC_e kc_X5_reachedFrom, okF_e kf_X5_reachedFrom, fun _ h => absurd h List.not_mem_nil⟩
theorem kd_X5_reachedFrom : ab_okY y_X5_reachedFrom b_X5_reachedFrom 4 (some .int) 1 2 5 = true := by decide +kernel
theorem ct_X5_reachedFrom (l : Launch) : ab_spec l y_X5_reachedFrom b_X5_reachedFrom 4 (some .int) 0 0 1 2 5 g_X5_reachedFrom := by
  intro as st k r h
  unfold g_X5_reachedFrom at h
  split at h
  · obtain ⟨x, t, hf, hk⟩ := ri_e h
    obtain ⟨hs, hf⟩ := rc_e hf
    obtain ⟨he, hc⟩ := ct_of (y := y_X5_reachedFrom) (ret := (some .int)) (rs := [.int x]) one_X5_reachedFrom (mk_X5_reachedFrom l) rfl (by decide +kernel) (fun h => by cases h) (Or.inr (Or.inl ⟨rfl, rfl⟩)) rfl (Nat.le_of_ble_eq_true rfl) rfl (Nat.le_of_ble_eq_true rfl) hf
    exact ⟨rfl, fun _ => ⟨_, _, rfl, hs⟩, _, t, hk, Nat.le_of_ble_eq_true rfl, he, hc⟩
  · cases h
theorem kc_X5_accepts : ab_okC b_X5_accepts RX5 false m_X5_accepts = true := by decide +kernel
theorem kf_X5_accepts : ab_okF RX5 m_X5_accepts = true := by decide +kernel
theorem mk_X5_accepts (l : Launch) : mok l b_X5_accepts RX5 false 3 64 m_X5_accepts := ⟨okC_e kc_X5_accepts, okF_e kf_X5_accepts, List.forall_mem_cons.mpr ⟨Or.inl (cee_of kd_X7_lengthAt (by decide +kernel) (ct_X7_lengthAt l) rfl), List.forall_mem_cons.mpr ⟨Or.inl (cee_of kd_X7_signAt (by decide +kernel) (ct_X7_signAt l) rfl), List.forall_mem_cons.mpr ⟨Or.inl (cee_of kd_X5_takersOf (by decide +kernel) (ct_X5_takersOf l) rfl), List.forall_mem_cons.mpr ⟨Or.inl (cee_of kd_X5_reachedFrom (by decide +kernel) (ct_X5_reachedFrom l) rfl), fun _ h => absurd h List.not_mem_nil⟩⟩⟩⟩⟩
theorem kd_X5_accepts : ab_okY y_X5_accepts b_X5_accepts 7 (some .boolean) 1 3 5 = true := by decide +kernel
theorem ct_X5_accepts (l : Launch) : ab_spec l y_X5_accepts b_X5_accepts 7 (some .boolean) 3 64 1 3 5 g_X5_accepts := by
  intro as st k r h
  unfold g_X5_accepts at h
  split at h
  · obtain ⟨x, t, hf, hk⟩ := ri_e h
    obtain ⟨hs, hf⟩ := rc_e hf
    obtain ⟨he, hc⟩ := ct_of (y := y_X5_accepts) (ret := (some .boolean)) (rs := [.int x]) one_X5_accepts (mk_X5_accepts l) rfl (by decide +kernel) (fun h => by cases h) (Or.inr (Or.inr (Or.inl ⟨rfl, rfl⟩))) rfl (Nat.le_of_ble_eq_true rfl) rfl (Nat.le_of_ble_eq_true rfl) hf
    exact ⟨rfl, fun _ => ⟨_, _, rfl, hs⟩, _, t, hk, Nat.le_of_ble_eq_true rfl, he, hc⟩
  · cases h
theorem kc_X10_keepAccepted : ab_okC b_X10_keepAccepted RX10 false m_X10_keepAccepted = true := by decide +kernel
theorem kf_X10_keepAccepted : ab_okF RX10 m_X10_keepAccepted = true := by decide +kernel
theorem mk_X10_keepAccepted (l : Launch) : mok l b_X10_keepAccepted RX10 false 5 117 m_X10_keepAccepted := ⟨okC_e kc_X10_keepAccepted, okF_e kf_X10_keepAccepted, List.forall_mem_cons.mpr ⟨Or.inl (cee_of kd_X10_putFound (by decide +kernel) (ct_X10_putFound l) rfl), List.forall_mem_cons.mpr ⟨Or.inl (cee_of kd_X2_accepts (by decide +kernel) (ct_X2_accepts l) rfl), List.forall_mem_cons.mpr ⟨Or.inl (cee_of kd_X5_accepts (by decide +kernel) (ct_X5_accepts l) rfl), fun _ h => absurd h List.not_mem_nil⟩⟩⟩⟩
theorem kd_X10_keepAccepted : ab_okY y_X10_keepAccepted b_X10_keepAccepted 4 (some .int) 1 3 10 = true := by decide +kernel
theorem ct_X10_keepAccepted (l : Launch) : ab_spec l y_X10_keepAccepted b_X10_keepAccepted 4 (some .int) 5 117 1 3 10 g_X10_keepAccepted := by
  intro as st k r h
  unfold g_X10_keepAccepted at h
  split at h
  · obtain ⟨x, t, hf, hk⟩ := ri_e h
    obtain ⟨hs, hf⟩ := rc_e hf
    obtain ⟨he, hc⟩ := ct_of (y := y_X10_keepAccepted) (ret := (some .int)) (rs := [.int x]) one_X10_keepAccepted (mk_X10_keepAccepted l) rfl (by decide +kernel) (fun h => by cases h) (Or.inr (Or.inl ⟨rfl, rfl⟩)) rfl (Nat.le_of_ble_eq_true rfl) rfl (Nat.le_of_ble_eq_true rfl) hf
    exact ⟨rfl, fun _ => ⟨_, _, rfl, hs⟩, _, t, hk, Nat.le_of_ble_eq_true rfl, he, hc⟩
  · cases h
theorem kc_X10_meet : ab_okC b_X10_meet RX10 false m_X10_meet = true := by decide +kernel
theorem kf_X10_meet : ab_okF RX10 m_X10_meet = true := by decide +kernel
theorem mk_X10_meet (l : Launch) : mok l b_X10_meet RX10 false 6 140 m_X10_meet := ⟨okC_e kc_X10_meet, okF_e kf_X10_meet, List.forall_mem_cons.mpr ⟨Or.inl (cee_of kd_X10_takeCollected (by decide +kernel) (ct_X10_takeCollected l) rfl), List.forall_mem_cons.mpr ⟨Or.inl (cee_of kd_X10_isDictionary (by decide +kernel) (ct_X10_isDictionary l) rfl), List.forall_mem_cons.mpr ⟨Or.inl (cee_of kd_X5_readPattern (by decide +kernel) (ct_X5_readPattern l) rfl), List.forall_mem_cons.mpr ⟨Or.inl (cee_of kd_X5_readWild (by decide +kernel) (ct_X5_readWild l) rfl), List.forall_mem_cons.mpr ⟨Or.inl (cee_of kd_X2_read (by decide +kernel) (ct_X2_read l) rfl), List.forall_mem_cons.mpr ⟨Or.inl (cee_of kd_X10_keepAccepted (by decide +kernel) (ct_X10_keepAccepted l) rfl), fun _ h => absurd h List.not_mem_nil⟩⟩⟩⟩⟩⟩⟩
theorem kd_X10_meet : ab_okY y_X10_meet b_X10_meet 4 (some .int) 1 3 10 = true := by decide +kernel
theorem ct_X10_meet (l : Launch) : ab_spec l y_X10_meet b_X10_meet 4 (some .int) 6 140 1 3 10 g_X10_meet := by
  intro as st k r h
  unfold g_X10_meet at h
  split at h
  · obtain ⟨x, t, hf, hk⟩ := ri_e h
    obtain ⟨hs, hf⟩ := rc_e hf
    obtain ⟨he, hc⟩ := ct_of (y := y_X10_meet) (ret := (some .int)) (rs := [.int x]) one_X10_meet (mk_X10_meet l) rfl (by decide +kernel) (fun h => by cases h) (Or.inr (Or.inl ⟨rfl, rfl⟩)) rfl (Nat.le_of_ble_eq_true rfl) rfl (Nat.le_of_ble_eq_true rfl) hf
    exact ⟨rfl, fun _ => ⟨_, _, rfl, hs⟩, _, t, hk, Nat.le_of_ble_eq_true rfl, he, hc⟩
  · cases h
theorem kc_X11_spot : ab_okC b_X11_spot RX11 false m_X11_spot = true := by decide +kernel
theorem kf_X11_spot : ab_okF RX11 m_X11_spot = true := by decide +kernel
theorem mk_X11_spot (l : Launch) : mok l b_X11_spot RX11 false 0 0 m_X11_spot := ⟨okC_e kc_X11_spot, okF_e kf_X11_spot, fun _ h => absurd h List.not_mem_nil⟩
theorem kd_X11_spot : ab_okY y_X11_spot b_X11_spot 1 (some .int) 1 1 11 = true := by decide +kernel
theorem ct_X11_spot (l : Launch) : ab_spec l y_X11_spot b_X11_spot 1 (some .int) 0 0 1 1 11 g_X11_spot := by
  intro as st k r h
  unfold g_X11_spot at h
  split at h
  · obtain ⟨x, t, hf, hk⟩ := ri_e h
    obtain ⟨hs, hf⟩ := rc_e hf
    obtain ⟨he, hc⟩ := ct_of (y := y_X11_spot) (ret := (some .int)) (rs := [.int x]) one_X11_spot (mk_X11_spot l) rfl (by decide +kernel) (fun h => by cases h) (Or.inr (Or.inl ⟨rfl, rfl⟩)) rfl (Nat.le_of_ble_eq_true rfl) rfl (Nat.le_of_ble_eq_true rfl) hf
    exact ⟨rfl, fun _ => ⟨_, _, rfl, hs⟩, _, t, hk, Nat.le_of_ble_eq_true rfl, he, hc⟩
  · cases h
theorem kc_X11_step : ab_okC b_X11_step RX11 false m_X11_step = true := by decide +kernel
theorem kf_X11_step : ab_okF RX11 m_X11_step = true := by decide +kernel
theorem mk_X11_step (l : Launch) : mok l b_X11_step RX11 false 0 0 m_X11_step := ⟨okC_e kc_X11_step, okF_e kf_X11_step, fun _ h => absurd h List.not_mem_nil⟩
theorem kd_X11_step : ab_okY y_X11_step b_X11_step 4 none 1 4 11 = true := by decide +kernel
theorem ct_X11_step (l : Launch) : ab_spec l y_X11_step b_X11_step 4 none 0 0 1 4 11 g_X11_step := by
  intro as st k r h
  unfold g_X11_step at h
  split at h
  · obtain ⟨t, hf, hk⟩ := rv_e h
    obtain ⟨hs, hf⟩ := rc_e hf
    obtain ⟨he, hc⟩ := ct_of (y := y_X11_step) (ret := none) (rs := []) one_X11_step (mk_X11_step l) rfl (by decide +kernel) (fun h => by cases h) (Or.inl ⟨rfl, rfl⟩) rfl (Nat.le_of_ble_eq_true rfl) rfl (Nat.le_of_ble_eq_true rfl) hf
    exact ⟨rfl, fun _ => ⟨_, _, rfl, hs⟩, _, t, hk, Nat.le_of_ble_eq_true rfl, he, hc⟩
  · cases h
theorem kc_X11_openSequence : ab_okC b_X11_openSequence RX11 false m_X11_openSequence = true := by decide +kernel
theorem kf_X11_openSequence : ab_okF RX11 m_X11_openSequence = true := by decide +kernel
theorem mk_X11_openSequence (l : Launch) : mok l b_X11_openSequence RX11 false 1 23 m_X11_openSequence := ⟨okC_e kc_X11_openSequence, okF_e kf_X11_openSequence, List.forall_mem_cons.mpr ⟨Or.inl (cee_of kd_X11_spot (by decide +kernel) (ct_X11_spot l) rfl), List.forall_mem_cons.mpr ⟨Or.inl (cee_of kd_X11_step (by decide +kernel) (ct_X11_step l) rfl), fun _ h => absurd h List.not_mem_nil⟩⟩⟩
theorem kd_X11_openSequence : ab_okY y_X11_openSequence b_X11_openSequence 2 none 1 2 11 = true := by decide +kernel
theorem ct_X11_openSequence (l : Launch) : ab_spec l y_X11_openSequence b_X11_openSequence 2 none 1 23 1 2 11 g_X11_openSequence := by
  intro as st k r h
  unfold g_X11_openSequence at h
  split at h
  · obtain ⟨t, hf, hk⟩ := rv_e h
    obtain ⟨hs, hf⟩ := rc_e hf
    obtain ⟨he, hc⟩ := ct_of (y := y_X11_openSequence) (ret := none) (rs := []) one_X11_openSequence (mk_X11_openSequence l) rfl (by decide +kernel) (fun h => by cases h) (Or.inl ⟨rfl, rfl⟩) rfl (Nat.le_of_ble_eq_true rfl) rfl (Nat.le_of_ble_eq_true rfl) hf
    exact ⟨rfl, fun _ => ⟨_, _, rfl, hs⟩, _, t, hk, Nat.le_of_ble_eq_true rfl, he, hc⟩
  · cases h
theorem kc_X11_openAlt : ab_okC b_X11_openAlt RX11 false m_X11_openAlt = true := by decide +kernel
theorem kf_X11_openAlt : ab_okF RX11 m_X11_openAlt = true := by decide +kernel
theorem mk_X11_openAlt (l : Launch) : mok l b_X11_openAlt RX11 false 2 44 m_X11_openAlt := ⟨okC_e kc_X11_openAlt, okF_e kf_X11_openAlt, List.forall_mem_cons.mpr ⟨Or.inl (cee_of kd_X11_spot (by decide +kernel) (ct_X11_spot l) rfl), List.forall_mem_cons.mpr ⟨Or.inl (cee_of kd_X11_openSequence (by decide +kernel) (ct_X11_openSequence l) rfl), fun _ h => absurd h List.not_mem_nil⟩⟩⟩
theorem kd_X11_openAlt : ab_okY y_X11_openAlt b_X11_openAlt 3 none 1 3 11 = true := by decide +kernel
theorem ct_X11_openAlt (l : Launch) : ab_spec l y_X11_openAlt b_X11_openAlt 3 none 2 44 1 3 11 g_X11_openAlt := by
  intro as st k r h
  unfold g_X11_openAlt at h
  split at h
  · obtain ⟨t, hf, hk⟩ := rv_e h
    obtain ⟨hs, hf⟩ := rc_e hf
    obtain ⟨he, hc⟩ := ct_of (y := y_X11_openAlt) (ret := none) (rs := []) one_X11_openAlt (mk_X11_openAlt l) rfl (by decide +kernel) (fun h => by cases h) (Or.inl ⟨rfl, rfl⟩) rfl (Nat.le_of_ble_eq_true rfl) rfl (Nat.le_of_ble_eq_true rfl) hf
    exact ⟨rfl, fun _ => ⟨_, _, rfl, hs⟩, _, t, hk, Nat.le_of_ble_eq_true rfl, he, hc⟩
  · cases h
theorem kc_X11_here : ab_okC b_X11_here RX11 false m_X11_here = true := by decide +kernel
theorem kf_X11_here : ab_okF RX11 m_X11_here = true := by decide +kernel
theorem mk_X11_here (l : Launch) : mok l b_X11_here RX11 false 0 0 m_X11_here := ⟨okC_e kc_X11_here, okF_e kf_X11_here, fun _ h => absurd h List.not_mem_nil⟩
theorem kd_X11_here : ab_okY y_X11_here b_X11_here 1 (some .int) 1 1 11 = true := by decide +kernel
theorem ct_X11_here (l : Launch) : ab_spec l y_X11_here b_X11_here 1 (some .int) 0 0 1 1 11 g_X11_here := by
  intro as st k r h
  unfold g_X11_here at h
  split at h
  · obtain ⟨x, t, hf, hk⟩ := ri_e h
    obtain ⟨hs, hf⟩ := rc_e hf
    obtain ⟨he, hc⟩ := ct_of (y := y_X11_here) (ret := (some .int)) (rs := [.int x]) one_X11_here (mk_X11_here l) rfl (by decide +kernel) (fun h => by cases h) (Or.inr (Or.inl ⟨rfl, rfl⟩)) rfl (Nat.le_of_ble_eq_true rfl) rfl (Nat.le_of_ble_eq_true rfl) hf
    exact ⟨rfl, fun _ => ⟨_, _, rfl, hs⟩, _, t, hk, Nat.le_of_ble_eq_true rfl, he, hc⟩
  · cases h
theorem kc_X11_fail : ab_okC b_X11_fail RX11 false m_X11_fail = true := by decide +kernel
theorem kf_X11_fail : ab_okF RX11 m_X11_fail = true := by decide +kernel
theorem mk_X11_fail (l : Launch) : mok l b_X11_fail RX11 false 0 0 m_X11_fail := ⟨okC_e kc_X11_fail, okF_e kf_X11_fail, fun _ h => absurd h List.not_mem_nil⟩
theorem kd_X11_fail : ab_okY y_X11_fail b_X11_fail 2 none 1 2 11 = true := by decide +kernel
theorem ct_X11_fail (l : Launch) : ab_spec l y_X11_fail b_X11_fail 2 none 0 0 1 2 11 g_X11_fail := by
  intro as st k r h
  unfold g_X11_fail at h
  split at h
  · obtain ⟨t, hf, hk⟩ := rv_e h
    obtain ⟨hs, hf⟩ := rc_e hf
    obtain ⟨he, hc⟩ := ct_of (y := y_X11_fail) (ret := none) (rs := []) one_X11_fail (mk_X11_fail l) rfl (by decide +kernel) (fun h => by cases h) (Or.inl ⟨rfl, rfl⟩) rfl (Nat.le_of_ble_eq_true rfl) rfl (Nat.le_of_ble_eq_true rfl) hf
    exact ⟨rfl, fun _ => ⟨_, _, rfl, hs⟩, _, t, hk, Nat.le_of_ble_eq_true rfl, he, hc⟩
  · cases h
theorem kc_X11_closePiece : ab_okC b_X11_closePiece RX11 false m_X11_closePiece = true := by decide +kernel
theorem kf_X11_closePiece : ab_okF RX11 m_X11_closePiece = true := by decide +kernel
theorem mk_X11_closePiece (l : Launch) : mok l b_X11_closePiece RX11 false 1 23 m_X11_closePiece := ⟨okC_e kc_X11_closePiece, okF_e kf_X11_closePiece, List.forall_mem_cons.mpr ⟨Or.inl (cee_of kd_X11_spot (by decide +kernel) (ct_X11_spot l) rfl), List.forall_mem_cons.mpr ⟨Or.inl (cee_of kd_X11_step (by decide +kernel) (ct_X11_step l) rfl), List.forall_mem_cons.mpr ⟨Or.inl (cee_of kd_X11_here (by decide +kernel) (ct_X11_here l) rfl), fun _ h => absurd h List.not_mem_nil⟩⟩⟩⟩
theorem kd_X11_closePiece : ab_okY y_X11_closePiece b_X11_closePiece 5 none 1 4 11 = true := by decide +kernel
theorem ct_X11_closePiece (l : Launch) : ab_spec l y_X11_closePiece b_X11_closePiece 5 none 1 23 1 4 11 g_X11_closePiece := by
  intro as st k r h
  unfold g_X11_closePiece at h
  split at h
  · obtain ⟨t, hf, hk⟩ := rv_e h
    obtain ⟨hs, hf⟩ := rc_e hf
    obtain ⟨he, hc⟩ := ct_of (y := y_X11_closePiece) (ret := none) (rs := []) one_X11_closePiece (mk_X11_closePiece l) rfl (by decide +kernel) (fun h => by cases h) (Or.inl ⟨rfl, rfl⟩) rfl (Nat.le_of_ble_eq_true rfl) rfl (Nat.le_of_ble_eq_true rfl) hf
    exact ⟨rfl, fun _ => ⟨_, _, rfl, hs⟩, _, t, hk, Nat.le_of_ble_eq_true rfl, he, hc⟩
  · cases h
theorem kc_X11_fill : ab_okC b_X11_fill RX11 false m_X11_fill = true := by decide +kernel
theorem kf_X11_fill : ab_okF RX11 m_X11_fill = true := by decide +kernel
theorem mk_X11_fill (l : Launch) : mok l b_X11_fill RX11 false 0 0 m_X11_fill := ⟨okC_e kc_X11_fill, okF_e kf_X11_fill, fun _ h => absurd h List.not_mem_nil⟩
theorem kd_X11_fill : ab_okY y_X11_fill b_X11_fill 4 none 1 3 11 = true := by decide +kernel
theorem ct_X11_fill (l : Launch) : ab_spec l y_X11_fill b_X11_fill 4 none 0 0 1 3 11 g_X11_fill := by
  intro as st k r h
  unfold g_X11_fill at h
  split at h
  · obtain ⟨t, hf, hk⟩ := rv_e h
    obtain ⟨hs, hf⟩ := rc_e hf
    obtain ⟨he, hc⟩ := ct_of (y := y_X11_fill) (ret := none) (rs := []) one_X11_fill (mk_X11_fill l) rfl (by decide +kernel) (fun h => by cases h) (Or.inl ⟨rfl, rfl⟩) rfl (Nat.le_of_ble_eq_true rfl) rfl (Nat.le_of_ble_eq_true rfl) hf
    exact ⟨rfl, fun _ => ⟨_, _, rfl, hs⟩, _, t, hk, Nat.le_of_ble_eq_true rfl, he, hc⟩
  · cases h
theorem kc_X11_oneOf : ab_okC b_X11_oneOf RX11 false m_X11_oneOf = true := by decide +kernel
theorem kf_X11_oneOf : ab_okF RX11 m_X11_oneOf = true := by decide +kernel
theorem mk_X11_oneOf (l : Launch) : mok l b_X11_oneOf RX11 false 1 23 m_X11_oneOf := ⟨okC_e kc_X11_oneOf, okF_e kf_X11_oneOf, List.forall_mem_cons.mpr ⟨Or.inl (cee_of kd_X11_spot (by decide +kernel) (ct_X11_spot l) rfl), List.forall_mem_cons.mpr ⟨Or.inl (cee_of kd_X11_step (by decide +kernel) (ct_X11_step l) rfl), fun _ h => absurd h List.not_mem_nil⟩⟩⟩
theorem kd_X11_oneOf : ab_okY y_X11_oneOf b_X11_oneOf 3 (some .int) 1 2 11 = true := by decide +kernel
theorem ct_X11_oneOf (l : Launch) : ab_spec l y_X11_oneOf b_X11_oneOf 3 (some .int) 1 23 1 2 11 g_X11_oneOf := by
  intro as st k r h
  unfold g_X11_oneOf at h
  split at h
  · obtain ⟨x, t, hf, hk⟩ := ri_e h
    obtain ⟨hs, hf⟩ := rc_e hf
    obtain ⟨he, hc⟩ := ct_of (y := y_X11_oneOf) (ret := (some .int)) (rs := [.int x]) one_X11_oneOf (mk_X11_oneOf l) rfl (by decide +kernel) (fun h => by cases h) (Or.inr (Or.inl ⟨rfl, rfl⟩)) rfl (Nat.le_of_ble_eq_true rfl) rfl (Nat.le_of_ble_eq_true rfl) hf
    exact ⟨rfl, fun _ => ⟨_, _, rfl, hs⟩, _, t, hk, Nat.le_of_ble_eq_true rfl, he, hc⟩
  · cases h
theorem kc_X11_setSign : ab_okC b_X11_setSign RX11 false m_X11_setSign = true := by decide +kernel
theorem kf_X11_setSign : ab_okF RX11 m_X11_setSign = true := by decide +kernel
theorem mk_X11_setSign (l : Launch) : mok l b_X11_setSign RX11 false 1 21 m_X11_setSign := ⟨okC_e kc_X11_setSign, okF_e kf_X11_setSign, List.forall_mem_cons.mpr ⟨Or.inl (cee_of kd_X11_here (by decide +kernel) (ct_X11_here l) rfl), List.forall_mem_cons.mpr ⟨Or.inl (cee_of kd_X11_fail (by decide +kernel) (ct_X11_fail l) rfl), fun _ h => absurd h List.not_mem_nil⟩⟩⟩
theorem kd_X11_setSign : ab_okY y_X11_setSign b_X11_setSign 2 (some .int) 1 1 11 = true := by decide +kernel
theorem ct_X11_setSign (l : Launch) : ab_spec l y_X11_setSign b_X11_setSign 2 (some .int) 1 21 1 1 11 g_X11_setSign := by
  intro as st k r h
  unfold g_X11_setSign at h
  split at h
  · obtain ⟨x, t, hf, hk⟩ := ri_e h
    obtain ⟨hs, hf⟩ := rc_e hf
    obtain ⟨he, hc⟩ := ct_of (y := y_X11_setSign) (ret := (some .int)) (rs := [.int x]) one_X11_setSign (mk_X11_setSign l) rfl (by decide +kernel) (fun h => by cases h) (Or.inr (Or.inl ⟨rfl, rfl⟩)) rfl (Nat.le_of_ble_eq_true rfl) rfl (Nat.le_of_ble_eq_true rfl) hf
    exact ⟨rfl, fun _ => ⟨_, _, rfl, hs⟩, _, t, hk, Nat.le_of_ble_eq_true rfl, he, hc⟩
  · cases h
theorem kc_X11_parseSet : ab_okC b_X11_parseSet RX11 false m_X11_parseSet = true := by decide +kernel
theorem kf_X11_parseSet : ab_okF RX11 m_X11_parseSet = true := by decide +kernel
theorem mk_X11_parseSet (l : Launch) : mok l b_X11_parseSet RX11 false 2 42 m_X11_parseSet := ⟨okC_e kc_X11_parseSet, okF_e kf_X11_parseSet, List.forall_mem_cons.mpr ⟨Or.inl (cee_of kd_X11_here (by decide +kernel) (ct_X11_here l) rfl), List.forall_mem_cons.mpr ⟨Or.inl (cee_of kd_X11_fail (by decide +kernel) (ct_X11_fail l) rfl), List.forall_mem_cons.mpr ⟨Or.inl (cee_of kd_X11_fill (by decide +kernel) (ct_X11_fill l) rfl), List.forall_mem_cons.mpr ⟨Or.inl (cee_of kd_X11_setSign (by decide +kernel) (ct_X11_setSign l) rfl), fun _ h => absurd h List.not_mem_nil⟩⟩⟩⟩⟩
theorem kd_X11_parseSet : ab_okY y_X11_parseSet b_X11_parseSet 4 none 1 1 11 = true := by decide +kernel
theorem ct_X11_parseSet (l : Launch) : ab_spec l y_X11_parseSet b_X11_parseSet 4 none 2 42 1 1 11 g_X11_parseSet := by
  intro as st k r h
  unfold g_X11_parseSet at h
  split at h
  · obtain ⟨t, hf, hk⟩ := rv_e h
    obtain ⟨hs, hf⟩ := rc_e hf
    obtain ⟨he, hc⟩ := ct_of (y := y_X11_parseSet) (ret := none) (rs := []) one_X11_parseSet (mk_X11_parseSet l) rfl (by decide +kernel) (fun h => by cases h) (Or.inl ⟨rfl, rfl⟩) rfl (Nat.le_of_ble_eq_true rfl) rfl (Nat.le_of_ble_eq_true rfl) hf
    exact ⟨rfl, fun _ => ⟨_, _, rfl, hs⟩, _, t, hk, Nat.le_of_ble_eq_true rfl, he, hc⟩
  · cases h
theorem kc_X11_parseAtom : ab_okC b_X11_parseAtom RX11 false m_X11_parseAtom = true := by decide +kernel
theorem kf_X11_parseAtom : ab_okF RX11 m_X11_parseAtom = true := by decide +kernel
theorem mk_X11_parseAtom (l : Launch) : mok l b_X11_parseAtom RX11 false 3 65 m_X11_parseAtom := ⟨okC_e kc_X11_parseAtom, okF_e kf_X11_parseAtom, List.forall_mem_cons.mpr ⟨Or.inl (cee_of kd_X11_here (by decide +kernel) (ct_X11_here l) rfl), List.forall_mem_cons.mpr ⟨Or.inl (cee_of kd_X11_fail (by decide +kernel) (ct_X11_fail l) rfl), List.forall_mem_cons.mpr ⟨Or.inl (cee_of kd_X11_fill (by decide +kernel) (ct_X11_fill l) rfl), List.forall_mem_cons.mpr ⟨Or.inl (cee_of kd_X11_oneOf (by decide +kernel) (ct_X11_oneOf l) rfl), List.forall_mem_cons.mpr ⟨Or.inl (cee_of kd_X11_parseSet (by decide +kernel) (ct_X11_parseSet l) rfl), fun _ h => absurd h List.not_mem_nil⟩⟩⟩⟩⟩⟩
theorem kd_X11_parseAtom : ab_okY y_X11_parseAtom b_X11_parseAtom 4 (some .int) 1 2 11 = true := by decide +kernel
theorem ct_X11_parseAtom (l : Launch) : ab_spec l y_X11_parseAtom b_X11_parseAtom 4 (some .int) 3 65 1 2 11 g_X11_parseAtom := by
  intro as st k r h
  unfold g_X11_parseAtom at h
  split at h
  · obtain ⟨x, t, hf, hk⟩ := ri_e h
    obtain ⟨hs, hf⟩ := rc_e hf
    obtain ⟨he, hc⟩ := ct_of (y := y_X11_parseAtom) (ret := (some .int)) (rs := [.int x]) one_X11_parseAtom (mk_X11_parseAtom l) rfl (by decide +kernel) (fun h => by cases h) (Or.inr (Or.inl ⟨rfl, rfl⟩)) rfl (Nat.le_of_ble_eq_true rfl) rfl (Nat.le_of_ble_eq_true rfl) hf
    exact ⟨rfl, fun _ => ⟨_, _, rfl, hs⟩, _, t, hk, Nat.le_of_ble_eq_true rfl, he, hc⟩
  · cases h
theorem kc_X11_parseAll : ab_okC b_X11_parseAll RX11 false m_X11_parseAll = true := by decide +kernel
theorem kf_X11_parseAll : ab_okF RX11 m_X11_parseAll = true := by decide +kernel
theorem mk_X11_parseAll (l : Launch) : mok l b_X11_parseAll RX11 false 4 88 m_X11_parseAll := ⟨okC_e kc_X11_parseAll, okF_e kf_X11_parseAll, List.forall_mem_cons.mpr ⟨Or.inl (cee_of kd_X11_spot (by decide +kernel) (ct_X11_spot l) rfl), List.forall_mem_cons.mpr ⟨Or.inl (cee_of kd_X11_openSequence (by decide +kernel) (ct_X11_openSequence l) rfl), List.forall_mem_cons.mpr ⟨Or.inl (cee_of kd_X11_step (by decide +kernel) (ct_X11_step l) rfl), List.forall_mem_cons.mpr ⟨Or.inl (cee_of kd_X11_here (by decide +kernel) (ct_X11_here l) rfl), List.forall_mem_cons.mpr ⟨Or.inl (cee_of kd_X11_openAlt (by decide +kernel) (ct_X11_openAlt l) rfl), List.forall_mem_cons.mpr ⟨Or.inl (cee_of kd_X11_fail (by decide +kernel) (ct_X11_fail l) rfl), List.forall_mem_cons.mpr ⟨Or.inl (cee_of kd_X11_closePiece (by decide +kernel) (ct_X11_closePiece l) rfl), List.forall_mem_cons.mpr ⟨Or.inl (cee_of kd_X11_parseAtom (by decide +kernel) (ct_X11_parseAtom l) rfl), fun _ h => absurd h List.not_mem_nil⟩⟩⟩⟩⟩⟩⟩⟩⟩
theorem kd_X11_parseAll : ab_okY y_X11_parseAll b_X11_parseAll 6 none 1 1 11 = true := by decide +kernel
theorem ct_X11_parseAll (l : Launch) : ab_spec l y_X11_parseAll b_X11_parseAll 6 none 4 88 1 1 11 g_X11_parseAll := by
  intro as st k r h
  unfold g_X11_parseAll at h
  split at h
  · obtain ⟨t, hf, hk⟩ := rv_e h
    obtain ⟨hs, hf⟩ := rc_e hf
    obtain ⟨he, hc⟩ := ct_of (y := y_X11_parseAll) (ret := none) (rs := []) one_X11_parseAll (mk_X11_parseAll l) rfl (by decide +kernel) (fun h => by cases h) (Or.inl ⟨rfl, rfl⟩) rfl (Nat.le_of_ble_eq_true rfl) rfl (Nat.le_of_ble_eq_true rfl) hf
    exact ⟨rfl, fun _ => ⟨_, _, rfl, hs⟩, _, t, hk, Nat.le_of_ble_eq_true rfl, he, hc⟩
  · cases h
theorem kc_X11_parsePattern : ab_okC b_X11_parsePattern RX11 false m_X11_parsePattern = true := by decide +kernel
theorem kf_X11_parsePattern : ab_okF RX11 m_X11_parsePattern = true := by decide +kernel
theorem mk_X11_parsePattern (l : Launch) : mok l b_X11_parsePattern RX11 false 5 113 m_X11_parsePattern := ⟨okC_e kc_X11_parsePattern, okF_e kf_X11_parsePattern, List.forall_mem_cons.mpr ⟨Or.inl (cee_of kd_X11_parseAll (by decide +kernel) (ct_X11_parseAll l) rfl), fun _ h => absurd h List.not_mem_nil⟩⟩
theorem kd_X11_parsePattern : ab_okY y_X11_parsePattern b_X11_parsePattern 2 none 1 2 11 = true := by decide +kernel
theorem ct_X11_parsePattern (l : Launch) : ab_spec l y_X11_parsePattern b_X11_parsePattern 2 none 5 113 1 2 11 g_X11_parsePattern := by
  intro as st k r h
  unfold g_X11_parsePattern at h
  split at h
  · obtain ⟨t, hf, hk⟩ := rv_e h
    obtain ⟨hs, hf⟩ := rc_e hf
    obtain ⟨he, hc⟩ := ct_of (y := y_X11_parsePattern) (ret := none) (rs := []) one_X11_parsePattern (mk_X11_parsePattern l) rfl (by decide +kernel) (fun h => by cases h) (Or.inl ⟨rfl, rfl⟩) rfl (Nat.le_of_ble_eq_true rfl) rfl (Nat.le_of_ble_eq_true rfl) hf
    exact ⟨rfl, fun _ => ⟨_, _, rfl, hs⟩, _, t, hk, Nat.le_of_ble_eq_true rfl, he, hc⟩
  · cases h
