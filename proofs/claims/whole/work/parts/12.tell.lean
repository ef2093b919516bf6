section
variable {x_time x_partCount x_wrongAt x_changeCount x_transactions x_logStart x_snapshotStart x_placesLeft : Int32} {x_tree x_treeBefore x_timeouts x_deadlines x_events x_eventCounts x_watchSessions x_watchKinds x_watchPaths x_partKinds x_partPaths x_partAs x_partBs x_changePaths x_changeKinds : Nat → Int32}
variable {y_time y_last y_watchCount y_partCount y_wrong y_changes y_log y_since y_placesLeft : Int32} {y_paths y_values y_open y_timeouts y_deadlines y_events y_eventCounts y_watchers y_watchKinds y_watchPaths y_parts y_happened y_how : Nat → Int32}
theorem wt_tell_lp {a : Nat} {b e kd : Int32} (ha : a < 2 ^ 31) (he : e = nI a + (kd <<< ((21 : Int32) &&& 31))) : ∀ d i, i + d = 4 → ∀ (ws ev ec yev yec ya yk yp : Nat → Int32) (wc : Int32), wt_WR y_open ws x_watchKinds x_watchPaths ya yk yp wc → wt_E y_open ev ec yev yec → ∃ (ws' ev' ec' yev' yec' ya' yk' yp' : Nat → Int32) (wc' : Int32), (∀ post : SX → Prop, post (x_time, x_partCount, x_wrongAt, x_changeCount, x_transactions, x_logStart, x_snapshotStart, x_placesLeft, x_tree, x_treeBefore, x_timeouts, x_deadlines, ev', ec', ws', x_watchKinds, x_watchPaths, x_partKinds, x_partPaths, x_partAs, x_partBs, x_changePaths, x_changeKinds) → wX_tell_11 post (nI a) b e (d + 1) (nI i) x_time x_partCount x_wrongAt x_changeCount x_transactions x_logStart x_snapshotStart x_placesLeft x_tree x_treeBefore x_timeouts x_deadlines ev ec ws x_watchKinds x_watchPaths x_partKinds x_partPaths x_partAs x_partBs x_changePaths x_changeKinds) ∧ (∀ post : SY → Prop, post (y_time, y_last, wc', y_partCount, y_wrong, y_changes, y_log, y_since, y_placesLeft, y_paths, y_values, y_open, y_timeouts, y_deadlines, yev', yec', ya', yk', yp', y_parts, y_happened, y_how) → wY_tell_3 post (nI a) b kd (d + 1) (nI i) y_time y_last wc y_partCount y_wrong y_changes y_log y_since y_placesLeft y_paths y_values y_open y_timeouts y_deadlines yev yec ya yk yp y_parts y_happened y_how) ∧ wt_WR y_open ws' x_watchKinds x_watchPaths ya' yk' yp' wc' ∧ wt_E y_open ev' ec' yev' yec' := by
  intro d
  induction d with
  | zero =>
    intro i hi ws ev ec yev yec ya yk yp wc hW hE
    have e4 : i = 4 := by omega
    subst e4
    have l : (4 : Int32) ≤ nI 4 := nI_le (a := 4) (b := 4) (by omega) (by omega)
    exact ⟨ws, ev, ec, yev, yec, ya, yk, yp, wc, fun post hp => br_t l hp, fun post hp => br_t l hp, hW, hE⟩
  | succ d ih =>
    intro i hi ws ev ec yev yec ya yk yp wc hW hE
    obtain ⟨c, hc, rfl, h3, h4⟩ := hW
    obtain ⟨hW', hiff, hle, hno⟩ := wt_WR_dr (o := y_open) (G := wt_G (nI i) (nI a) b) (H := wt_H (nI i) (nI a) b) hc h3 h4 (fun j hj => wt_GH (nI_pos ha) _ _ _)
    have hX : wt_ct (fun j => wt_G (nI i) (nI a) b (ws j) (x_watchKinds j) (x_watchPaths j)) 16 = wt_X ws x_watchKinds x_watchPaths (wt_G (nI i) (nI a) b) := wt_ct_cg 16 (fun j hj => by
      show wt_G (nI i) (nI a) b (ws j) (x_watchKinds j) (x_watchPaths j) = (!decide (ws j = -1) && wt_G (nI i) (nI a) b (ws j) (x_watchKinds j) (x_watchPaths j))
      by_cases z : ws j = -1
      · have f : wt_G (nI i) (nI a) b (ws j) (x_watchKinds j) (x_watchPaths j) = false := by
          unfold wt_G
          have q : ¬ ws j = nI i := fun y => wt_nn (n := i) (by omega) (y.symm.trans z)
          rw [decide_eq_false q]
          cases decide (¬ ((b >>> (x_watchKinds j &&& 31)) &&& 1) = 0) <;> rfl
        rw [f, Bool.and_false]
      · rw [decide_eq_false z]
        rfl)
    obtain ⟨n, n1, n2, n3, n4, n5⟩ := hE i (by omega)
    have ci : (nI i).toNatClampNeg = i := nI_clamp (by omega)
    have vi : vp_in (nI i) 4 := vp_in_nI (by omega) (by omega)
    have l4 : ¬ (4 : Int32) ≤ nI i := nI_ge (b := 4) (by omega) (by omega)
    have ex : ec (nI i).toNatClampNeg = nI n := by rw [ci]; exact n2
    have ey : yec (nI i).toNatClampNeg = nI n := by rw [ci]; exact n3
    by_cases told : (wt_cp (wt_H (nI i) (nI a) b) ya yk yp c).1 < c
    · have tx : 0 < wt_X ws x_watchKinds x_watchPaths (wt_G (nI i) (nI a) b) := Nat.pos_of_ne_zero (fun z => by
        have := hiff.mp z
        omega)
      have ho : y_open i = 1 := Decidable.byContradiction (fun z => by
        have q : wt_X ws x_watchKinds x_watchPaths (wt_G (nI i) (nI a) b) = 0 := by
          rw [h3]
          exact wt_W_0.mpr (fun j hj y => z (by
            obtain ⟨⟨s, s1, s2, s3⟩, _⟩ := h4 j hj
            have y2 : ya j = nI i := of_decide_eq_true (wt_and (wt_and y).2).1
            have : s = i := (nI_eq (by omega) (by omega)).mp (s2.symm.trans y2)
            rw [← this]
            exact s3))
        omega)
      by_cases full : n < 8
      · obtain ⟨ws', ev', ec', yev', yec', ya', yk', yp', wc', hXs, hYs, R1, R2⟩ := ih (i + 1) (by omega) _ _ _ _ _ _ _ _ _ hW' (wt_E_pu (x := e) hE (by omega) full n3 ho)
        refine ⟨ws', ev', ec', yev', yec', ya', yk', yp', wc', fun post hp => ?_, fun post hp => ?_, R1, R2⟩
        · refine br_f l4 (wx_away ?_)
          rw [hX, wt_bt tx]
          have x8 : nI i * 8 + nI n = nI (8 * i + n) := by
            rw [show (8 : Int32) = nI 8 from rfl, pk_mul, nI_add, Nat.mul_comm]
          refine ⟨vi, nm_r ex (br_f (by decide) (br_f (nI_pos (by omega)) (br_f (nI_ge (b := 8) full (by omega)) ⟨by rw [x8]; exact vp_in_nI (by omega) (by omega), nm_r (e' := upd ev (8 * i + n) e) (by rw [x8, nI_clamp (by omega)]) ⟨vi, nm_r (e' := upd ec i (nI (n + 1))) (by rw [ci, nI_1]) (nm_r (nI_1 i) (hXs post hp))⟩⟩)))⟩
        · refine br_f l4 (wy_drop hc ?_)
          rw [wt_bt told]
          have y8 : 8 * nI i + nI n = nI (8 * i + n) := by
            rw [show (8 : Int32) = nI 8 from rfl, pk_mul, nI_add]
          refine br_f (by decide) ⟨vi, br_f (by rw [ey]; exact nI_ge (b := 8) full (by omega)) ⟨vi, vi, nm_r (e' := upd yec i (nI (n + 1))) (by rw [ci, n3, nI_1]) ⟨by rw [ey, y8]; exact vp_in_nI (by omega) (by omega), nm_r (e' := upd yev (8 * i + n) e) (by rw [ey, y8, nI_clamp (by omega), he]) (nm_r (nI_1 i) (hYs post hp))⟩⟩⟩
      · obtain ⟨ws', ev', ec', yev', yec', ya', yk', yp', wc', hXs, hYs, R1, R2⟩ := ih (i + 1) (by omega) _ _ _ _ _ _ _ _ _ hW' hE
        refine ⟨ws', ev', ec', yev', yec', ya', yk', yp', wc', fun post hp => ?_, fun post hp => ?_, R1, R2⟩
        · refine br_f l4 (wx_away ?_)
          rw [hX, wt_bt tx]
          exact ⟨vi, nm_r ex (br_f (by decide) (br_f (nI_pos (by omega)) (br_t (nI_le (a := 8) (by omega) (by omega)) (nm_r (nI_1 i) (hXs post hp)))))⟩
        · refine br_f l4 (wy_drop hc ?_)
          rw [wt_bt told]
          exact br_f (by decide) ⟨vi, br_t (by rw [ey]; exact nI_le (a := 8) (by omega) (by omega)) (nm_r (nI_1 i) (hYs post hp))⟩
    · have tx : ¬ 0 < wt_X ws x_watchKinds x_watchPaths (wt_G (nI i) (nI a) b) := by
        have := hiff.mpr (by omega)
        omega
      obtain ⟨ws', ev', ec', yev', yec', ya', yk', yp', wc', hXs, hYs, R1, R2⟩ := ih (i + 1) (by omega) _ _ _ _ _ _ _ _ _ hW' hE
      refine ⟨ws', ev', ec', yev', yec', ya', yk', yp', wc', fun post hp => ?_, fun post hp => ?_, R1, R2⟩
      · refine br_f l4 (wx_away ?_)
        rw [hX, wt_bf tx]
        exact ⟨vi, nm_e (br_t rfl (nm_r (nI_1 i) (hXs post hp)))⟩
      · refine br_f l4 (wy_drop hc ?_)
        rw [wt_bf told]
        exact br_t rfl (nm_r (nI_1 i) (hYs post hp))
theorem wt_tell {a : Nat} {b kd : Int32} (ha : a < 2 ^ 31) (hk : kd = 1 ∨ kd = 2 ∨ kd = 3 ∨ kd = 4) {ws ev ec yev yec ya yk yp : Nat → Int32} {wc : Int32} (hW : wt_WR y_open ws x_watchKinds x_watchPaths ya yk yp wc) (hE : wt_E y_open ev ec yev yec) : ∃ (ws' ev' ec' yev' yec' ya' yk' yp' : Nat → Int32) (wc' : Int32), (∀ post : SX → Prop, post (x_time, x_partCount, x_wrongAt, x_changeCount, x_transactions, x_logStart, x_snapshotStart, x_placesLeft, x_tree, x_treeBefore, x_timeouts, x_deadlines, ev', ec', ws', x_watchKinds, x_watchPaths, x_partKinds, x_partPaths, x_partAs, x_partBs, x_changePaths, x_changeKinds) → wpX_tell post (x_time, x_partCount, x_wrongAt, x_changeCount, x_transactions, x_logStart, x_snapshotStart, x_placesLeft, x_tree, x_treeBefore, x_timeouts, x_deadlines, ev, ec, ws, x_watchKinds, x_watchPaths, x_partKinds, x_partPaths, x_partAs, x_partBs, x_changePaths, x_changeKinds) kd (nI a) b) ∧ (∀ post : SY → Prop, post (y_time, y_last, wc', y_partCount, y_wrong, y_changes, y_log, y_since, y_placesLeft, y_paths, y_values, y_open, y_timeouts, y_deadlines, yev', yec', ya', yk', yp', y_parts, y_happened, y_how) → wpY_tell post (y_time, y_last, wc, y_partCount, y_wrong, y_changes, y_log, y_since, y_placesLeft, y_paths, y_values, y_open, y_timeouts, y_deadlines, yev, yec, ya, yk, yp, y_parts, y_happened, y_how) (nI a) b kd) ∧ wt_WR y_open ws' x_watchKinds x_watchPaths ya' yk' yp' wc' ∧ wt_E y_open ev' ec' yev' yec' := by
  have e : (2097152 : Int32) * kd = kd <<< ((21 : Int32) &&& 31) := by
    rcases hk with h | h | h | h <;> subst h <;> decide
  obtain ⟨ws', ev', ec', yev', yec', ya', yk', yp', wc', hX, hY, R1, R2⟩ := wt_tell_lp (x_time := x_time) (x_partCount := x_partCount) (x_wrongAt := x_wrongAt) (x_changeCount := x_changeCount) (x_transactions := x_transactions) (x_logStart := x_logStart) (x_snapshotStart := x_snapshotStart) (x_placesLeft := x_placesLeft) (x_tree := x_tree) (x_treeBefore := x_treeBefore) (x_timeouts := x_timeouts) (x_deadlines := x_deadlines) (x_watchKinds := x_watchKinds) (x_watchPaths := x_watchPaths) (x_partKinds := x_partKinds) (x_partPaths := x_partPaths) (x_partAs := x_partAs) (x_partBs := x_partBs) (x_changePaths := x_changePaths) (x_changeKinds := x_changeKinds) (y_time := y_time) (y_last := y_last) (y_partCount := y_partCount) (y_wrong := y_wrong) (y_changes := y_changes) (y_log := y_log) (y_since := y_since) (y_placesLeft := y_placesLeft) (y_paths := y_paths) (y_values := y_values) (y_open := y_open) (y_timeouts := y_timeouts) (y_deadlines := y_deadlines) (y_parts := y_parts) (y_happened := y_happened) (y_how := y_how) (b := b) (e := nI a + 2097152 * kd) (kd := kd) ha (by rw [e]) 4 0 rfl ws ev ec yev yec ya yk yp wc hW hE
  exact ⟨ws', ev', ec', yev', yec', ya', yk', yp', wc', fun post hp => nm_e ⟨5, hX post hp⟩, fun post hp => ⟨5, hY post hp⟩, R1, R2⟩
theorem wt_all_lp {c : Nat} (hC : wt_C c x_changeKinds x_changePaths y_happened y_how) : ∀ d i, i + d = c → ∀ (ws ev ec yev yec ya yk yp : Nat → Int32) (wc : Int32), wt_WR y_open ws x_watchKinds x_watchPaths ya yk yp wc → wt_E y_open ev ec yev yec → ∃ (ws' ev' ec' yev' yec' ya' yk' yp' : Nat → Int32) (wc' : Int32), (∀ post : SX → Prop, post (x_time, x_partCount, x_wrongAt, 0, x_transactions, x_logStart, x_snapshotStart, x_placesLeft, x_tree, x_treeBefore, x_timeouts, x_deadlines, ev', ec', ws', x_watchKinds, x_watchPaths, x_partKinds, x_partPaths, x_partAs, x_partBs, x_changePaths, x_changeKinds) → wX_finishTransaction_12 post (d + 1) (nI i) x_time x_partCount x_wrongAt (nI c) x_transactions x_logStart x_snapshotStart x_placesLeft x_tree x_treeBefore x_timeouts x_deadlines ev ec ws x_watchKinds x_watchPaths x_partKinds x_partPaths x_partAs x_partBs x_changePaths x_changeKinds) ∧ (∀ post : SY → Prop, post (y_time, y_last, wc', y_partCount, y_wrong, (nI c), y_log, y_since, y_placesLeft, y_paths, y_values, y_open, y_timeouts, y_deadlines, yev', yec', ya', yk', yp', y_parts, y_happened, y_how) → wY_tellAll_2 post (d + 1) (nI i) y_time y_last wc y_partCount y_wrong (nI c) y_log y_since y_placesLeft y_paths y_values y_open y_timeouts y_deadlines yev yec ya yk yp y_parts y_happened y_how) ∧ wt_WR y_open ws' x_watchKinds x_watchPaths ya' yk' yp' wc' ∧ wt_E y_open ev' ec' yev' yec' := by
  intro d
  induction d with
  | zero =>
    intro i hi ws ev ec yev yec ya yk yp wc hW hE
    have e4 : i = c := by omega
    subst e4
    have h20 := hC.1
    have l : nI i ≤ nI i := nI_le (Nat.le_refl _) (by omega)
    exact ⟨ws, ev, ec, yev, yec, ya, yk, yp, wc, fun post hp => br_t l hp, fun post hp => br_t l hp, hW, hE⟩
  | succ d ih =>
    intro i hi ws ev ec yev yec ya yk yp wc hW hE
    have h20 := hC.1
    obtain ⟨k1, k2, k3, a, ha, k4⟩ := hC.2 i (by omega)
    have ci : (nI i).toNatClampNeg = i := nI_clamp (by omega)
    have v20 : vp_in (nI i) 20 := vp_in_nI (by omega) (by omega)
    have v21 : vp_in (nI i) 21 := vp_in_nI (by omega) (by omega)
    have lc : ¬ nI c ≤ nI i := nI_ge (by omega) (by omega)
    have l20 : ¬ (20 : Int32) ≤ nI i := nI_ge (b := 20) (by omega) (by omega)
    have xk : x_changeKinds (nI i).toNatClampNeg = y_how i := by rw [ci]; exact k1
    have xp : x_changePaths (nI i).toNatClampNeg = nI a := by rw [ci, k2]; exact k4
    have yw : y_how (nI i).toNatClampNeg = y_how i := by rw [ci]
    have yh : y_happened (nI i).toNatClampNeg = nI a := by rw [ci]; exact k4
    have ed : nI a / 101 = nI (a / 101) := wt_d101 (by omega)
    by_cases t3 : y_how i = 3
    · obtain ⟨ws1, ev1, ec1, yev1, yec1, ya1, yk1, yp1, wc1, hX1, hY1, R1, R2⟩ := wt_tell (x_time := x_time) (x_partCount := x_partCount) (x_wrongAt := x_wrongAt) (x_transactions := x_transactions) (x_logStart := x_logStart) (x_snapshotStart := x_snapshotStart) (x_placesLeft := x_placesLeft) (x_tree := x_tree) (x_treeBefore := x_treeBefore) (x_timeouts := x_timeouts) (x_deadlines := x_deadlines) (x_watchKinds := x_watchKinds) (x_watchPaths := x_watchPaths) (x_partKinds := x_partKinds) (x_partPaths := x_partPaths) (x_partAs := x_partAs) (x_partBs := x_partBs) (x_changePaths := x_changePaths) (x_changeKinds := x_changeKinds) (x_changeCount := nI c) (y_time := y_time) (y_last := y_last) (y_partCount := y_partCount) (y_wrong := y_wrong) (y_log := y_log) (y_since := y_since) (y_placesLeft := y_placesLeft) (y_paths := y_paths) (y_values := y_values) (y_open := y_open) (y_timeouts := y_timeouts) (y_deadlines := y_deadlines) (y_parts := y_parts) (y_happened := y_happened) (y_how := y_how) (y_changes := nI c) (a := a) (b := 5) (kd := 3) (by omega) (Or.inr (Or.inr (Or.inl rfl))) hW hE
      obtain ⟨ws', ev', ec', yev', yec', ya', yk', yp', wc', hXs, hYs, S1, S2⟩ := ih (i + 1) (by omega) _ _ _ _ _ _ _ _ _ R1 R2
      refine ⟨ws', ev', ec', yev', yec', ya', yk', yp', wc', fun post hp => ?_, fun post hp => ?_, S1, S2⟩
      · refine br_f lc (br_f l20 ⟨v20, v20, ?_⟩)
        rw [xk, xp, t3]
        exact br_t rfl (hX1 _ (nm_r (nI_1 i) (hXs post hp)))
      · refine br_f lc ⟨v21, v21, br_f (by rw [yw, t3]; decide) ⟨v21, br_f (by rw [yw, t3]; decide) ?_⟩⟩
        rw [yh]
        unfold wY_tellAll_47
        rw [yw, t3]
        exact ⟨v21, hY1 _ ⟨v21, br_t (by rw [yw]; exact t3) (nm_r (nI_1 i) (hYs post hp))⟩⟩
    · obtain ⟨b, hb⟩ : ∃ b : Int32, b = if y_how i = 1 then 4 else 7 := ⟨_, rfl⟩
      have hk : y_how i = 1 ∨ y_how i = 2 ∨ y_how i = 3 ∨ y_how i = 4 := by
        rcases k3 with h | h | h
        · exact Or.inl h
        · exact Or.inr (Or.inl h)
        · exact absurd h t3
      obtain ⟨ws1, ev1, ec1, yev1, yec1, ya1, yk1, yp1, wc1, hX1, hY1, R1, R2⟩ := wt_tell (x_time := x_time) (x_partCount := x_partCount) (x_wrongAt := x_wrongAt) (x_transactions := x_transactions) (x_logStart := x_logStart) (x_snapshotStart := x_snapshotStart) (x_placesLeft := x_placesLeft) (x_tree := x_tree) (x_treeBefore := x_treeBefore) (x_timeouts := x_timeouts) (x_deadlines := x_deadlines) (x_watchKinds := x_watchKinds) (x_watchPaths := x_watchPaths) (x_partKinds := x_partKinds) (x_partPaths := x_partPaths) (x_partAs := x_partAs) (x_partBs := x_partBs) (x_changePaths := x_changePaths) (x_changeKinds := x_changeKinds) (x_changeCount := nI c) (y_time := y_time) (y_last := y_last) (y_partCount := y_partCount) (y_wrong := y_wrong) (y_log := y_log) (y_since := y_since) (y_placesLeft := y_placesLeft) (y_paths := y_paths) (y_values := y_values) (y_open := y_open) (y_timeouts := y_timeouts) (y_deadlines := y_deadlines) (y_parts := y_parts) (y_happened := y_happened) (y_how := y_how) (y_changes := nI c) (a := a) (b := b) (kd := y_how i) (by omega) hk hW hE
      obtain ⟨ws2, ev2, ec2, yev2, yec2, ya2, yk2, yp2, wc2, hX2, hY2, Q1, Q2⟩ := wt_tell (x_time := x_time) (x_partCount := x_partCount) (x_wrongAt := x_wrongAt) (x_transactions := x_transactions) (x_logStart := x_logStart) (x_snapshotStart := x_snapshotStart) (x_placesLeft := x_placesLeft) (x_tree := x_tree) (x_treeBefore := x_treeBefore) (x_timeouts := x_timeouts) (x_deadlines := x_deadlines) (x_watchKinds := x_watchKinds) (x_watchPaths := x_watchPaths) (x_partKinds := x_partKinds) (x_partPaths := x_partPaths) (x_partAs := x_partAs) (x_partBs := x_partBs) (x_changePaths := x_changePaths) (x_changeKinds := x_changeKinds) (x_changeCount := nI c) (y_time := y_time) (y_last := y_last) (y_partCount := y_partCount) (y_wrong := y_wrong) (y_log := y_log) (y_since := y_since) (y_placesLeft := y_placesLeft) (y_paths := y_paths) (y_values := y_values) (y_open := y_open) (y_timeouts := y_timeouts) (y_deadlines := y_deadlines) (y_parts := y_parts) (y_happened := y_happened) (y_how := y_how) (y_changes := nI c) (a := a / 101) (b := 2) (kd := 4) (by omega) (Or.inr (Or.inr (Or.inr rfl))) R1 R2
      obtain ⟨ws', ev', ec', yev', yec', ya', yk', yp', wc', hXs, hYs, S1, S2⟩ := ih (i + 1) (by omega) _ _ _ _ _ _ _ _ _ Q1 Q2
      refine ⟨ws', ev', ec', yev', yec', ya', yk', yp', wc', fun post hp => ?_, fun post hp => ?_, S1, S2⟩
      · refine br_f lc (br_f l20 ⟨v20, v20, ?_⟩)
        rw [xk, xp]
        refine br_f t3 ?_
        unfold wX_tellChange_27
        rw [ed]
        by_cases t1 : y_how i = 1
        · rw [if_pos t1] at hb
          subst hb
          exact br_t t1 (hX1 _ ⟨wt_ne101, hX2 _ (nm_r (nI_1 i) (hXs post hp))⟩)
        · rw [if_neg t1] at hb
          subst hb
          exact br_f t1 (hX1 _ ⟨wt_ne101, hX2 _ (nm_r (nI_1 i) (hXs post hp))⟩)
      · have K : wY_tellAll_47 post (wY_tellAll_2 post (d + 1)) (nI i) b (nI a) y_time y_last wc y_partCount y_wrong (nI c) y_log y_since y_placesLeft y_paths y_values y_open y_timeouts y_deadlines yev yec ya yk yp y_parts y_happened y_how := by
          unfold wY_tellAll_47
          rw [yw]
          refine ⟨v21, hY1 _ ⟨v21, br_f (by rw [yw]; exact t3) ⟨v21, wt_ne101, ?_⟩⟩⟩
          rw [yh, ed]
          exact hY2 _ (nm_r (nI_1 i) (hYs post hp))
        refine br_f lc ⟨v21, v21, ?_⟩
        rw [yh, yw]
        by_cases t1 : y_how i = 1
        · rw [if_pos t1] at hb
          subst hb
          exact br_t t1 K
        · rw [if_neg t1] at hb
          subst hb
          refine br_f t1 ⟨v21, br_t ?_ K⟩
          rcases k3 with h | h | h
          · exact absurd h t1
          · exact h
          · exact absurd h t3
/-- finishTransaction against done and tellAll -/
theorem wt_finish {c : Nat} {n : Int32} (hC : wt_C c x_changeKinds x_changePaths y_happened y_how) {ws ev ec yev yec ya yk yp : Nat → Int32} {wc : Int32} (hW : wt_WR y_open ws x_watchKinds x_watchPaths ya yk yp wc) (hE : wt_E y_open ev ec yev yec) : ∃ (ws' ev' ec' yev' yec' ya' yk' yp' : Nat → Int32) (wc' : Int32), (∀ post : SX → Prop, post (x_time, x_partCount, x_wrongAt, 0, (n + 1), x_logStart, x_snapshotStart, x_placesLeft, x_tree, x_treeBefore, x_timeouts, x_deadlines, ev', ec', ws', x_watchKinds, x_watchPaths, x_partKinds, x_partPaths, x_partAs, x_partBs, x_changePaths, x_changeKinds) → wpX_finishTransaction post (x_time, x_partCount, x_wrongAt, (nI c), n, x_logStart, x_snapshotStart, x_placesLeft, x_tree, x_treeBefore, x_timeouts, x_deadlines, ev, ec, ws, x_watchKinds, x_watchPaths, x_partKinds, x_partPaths, x_partAs, x_partBs, x_changePaths, x_changeKinds)) ∧ (∀ post : SY → Prop, post (y_time, y_last, wc', y_partCount, y_wrong, (nI c), y_log, y_since, y_placesLeft, y_paths, y_values, y_open, y_timeouts, y_deadlines, yev', yec', ya', yk', yp', y_parts, y_happened, y_how) → wpY_tellAll post (y_time, y_last, wc, y_partCount, y_wrong, (nI c), y_log, y_since, y_placesLeft, y_paths, y_values, y_open, y_timeouts, y_deadlines, yev, yec, ya, yk, yp, y_parts, y_happened, y_how)) ∧ wt_WR y_open ws' x_watchKinds x_watchPaths ya' yk' yp' wc' ∧ wt_E y_open ev' ec' yev' yec' := by
  obtain ⟨ws', ev', ec', yev', yec', ya', yk', yp', wc', hX, hY, R1, R2⟩ := wt_all_lp (x_time := x_time) (x_partCount := x_partCount) (x_wrongAt := x_wrongAt) (x_logStart := x_logStart) (x_snapshotStart := x_snapshotStart) (x_placesLeft := x_placesLeft) (x_tree := x_tree) (x_treeBefore := x_treeBefore) (x_timeouts := x_timeouts) (x_deadlines := x_deadlines) (x_watchKinds := x_watchKinds) (x_watchPaths := x_watchPaths) (x_partKinds := x_partKinds) (x_partPaths := x_partPaths) (x_partAs := x_partAs) (x_partBs := x_partBs) (x_changePaths := x_changePaths) (x_changeKinds := x_changeKinds) (x_transactions := n + 1) (y_time := y_time) (y_last := y_last) (y_partCount := y_partCount) (y_wrong := y_wrong) (y_log := y_log) (y_since := y_since) (y_placesLeft := y_placesLeft) (y_paths := y_paths) (y_values := y_values) (y_open := y_open) (y_timeouts := y_timeouts) (y_deadlines := y_deadlines) (y_parts := y_parts) (y_happened := y_happened) (y_how := y_how) hC c 0 (by omega) ws ev ec yev yec ya yk yp wc hW hE
  exact ⟨ws', ev', ec', yev', yec', ya', yk', yp', wc', fun post hp => nm_e ⟨c + 1, hX post hp⟩, fun post hp => ⟨c + 1, hY post hp⟩, R1, R2⟩
end
