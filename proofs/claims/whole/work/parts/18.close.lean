/-- one owned node less -/
theorem wt_oc_s {p w w' : Nat → Int32} {s : Int32} {f d : Nat} (hf : f < 21) (h1 : w (6 * f + 5) = s) (h2 : 0 < p f) (e : ∀ j, j < 21 → w' (6 * j + 5) = w (6 * j + 5)) (hd : wt_oc p w s = d + 1) : wt_oc (upd p f (-1)) w' s = d := by
  have q := wt_ct_one (P := fun k => decide (w' (6 * k + 5) = s ∧ 0 < upd p f (-1) k)) (Q := fun k => decide (w (6 * k + 5) = s ∧ 0 < p k)) (f := f) (fun z => by
    have z2 := (of_decide_eq_true z).2
    rw [pk_us] at z2
    exact absurd z2 (by decide)) 21 hf (fun j hj hn => by
    show decide (w (6 * j + 5) = s ∧ 0 < p j) = decide (w' (6 * j + 5) = s ∧ 0 < upd p f (-1) j)
    rw [pk_un hn, e j hj])
  have t : (decide (w (6 * f + 5) = s ∧ 0 < p f)) = true := decide_eq_true ⟨h1, h2⟩
  have q2 : wt_oc p w s = wt_oc (upd p f (-1)) w' s + (if (decide (w (6 * f + 5) = s ∧ 0 < p f)) = true then 1 else 0) := q
  rw [if_pos t] at q2
  omega
section
variable {x_time x_partCount x_wrongAt x_changeCount x_transactions x_logStart x_snapshotStart x_placesLeft : Int32} {x_tree x_treeBefore x_timeouts x_deadlines x_events x_eventCounts x_watchSessions x_watchKinds x_watchPaths x_partKinds x_partPaths x_partAs x_partBs x_changePaths x_changeKinds : Nat → Int32}
variable {y_time y_last y_watchCount y_partCount y_wrong y_changes y_log y_since y_placesLeft : Int32} {y_paths y_values y_open y_timeouts y_deadlines y_events y_eventCounts y_watchers y_watchKinds y_watchPaths y_parts y_happened y_how : Nat → Int32}
theorem wt_own_lp {s : Nat} (hs : s < 4) : ∀ d c, c + d ≤ 20 → ∀ (B : Nat) (t p w xk xp yh yw : Nat → Int32), wt_oc p w (nI s) = d → B + d < 2 ^ 30 → wt_T t p w → wt_I p w → wt_V B w → wt_C c xk xp yh yw → ∃ (t' p' w' xk' xp' yh' yw' : Nat → Int32) (c' : Nat), (∀ post : Int32 → SX → Prop, post (nI c') (x_time, x_partCount, x_wrongAt, (nI c'), x_transactions, x_logStart, x_snapshotStart, x_placesLeft, t', x_treeBefore, x_timeouts, x_deadlines, x_events, x_eventCounts, x_watchSessions, x_watchKinds, x_watchPaths, x_partKinds, x_partPaths, x_partAs, x_partBs, xp', xk') → wX_takeOwnedAway_4 post (nI s) (d + 1) (nI c) (nI c) x_time x_partCount x_wrongAt (nI c) x_transactions x_logStart x_snapshotStart x_placesLeft t x_treeBefore x_timeouts x_deadlines x_events x_eventCounts x_watchSessions x_watchKinds x_watchPaths x_partKinds x_partPaths x_partAs x_partBs xp xk) ∧ (∀ post : Int32 → SY → Prop, wY_close_48 post (nI s) 1 (-1) y_time y_last y_watchCount y_partCount y_wrong (nI c') y_log y_since y_placesLeft p' w' y_open y_timeouts y_deadlines y_events y_eventCounts y_watchers y_watchKinds y_watchPaths y_parts yh' yw' → wY_close_48 post (nI s) (d + 1) (wt_r 1 (wt_ow p w (nI s) 21)) y_time y_last y_watchCount y_partCount y_wrong (nI c) y_log y_since y_placesLeft p w y_open y_timeouts y_deadlines y_events y_eventCounts y_watchers y_watchKinds y_watchPaths y_parts yh yw) ∧ wt_T t' p' w' ∧ wt_I p' w' ∧ wt_V (B + d) w' ∧ wt_C c' xk' xp' yh' yw' := by
  intro d
  induction d with
  | zero =>
    intro c hc B t p w xk xp yh yw hd hB hT hI hV hC
    have e21 : wt_ow p w (nI s) 21 = 21 := by
      rcases wt_ow_spec p w (nI s) 21 (by omega) with ⟨e, _⟩ | ⟨e, a, b⟩
      · exact e
      · exact absurd (decide_eq_true ⟨a, b⟩) ((wt_ct_0 21).mp hd _ e)
    refine ⟨t, p, w, xk, xp, yh, yw, c, fun post hp => ?_, fun post hp => ?_, hT, hI, hV, hC⟩
    · refine br_c (fun _ => hp) (fun _ => wx_greatest hT ?_)
      rw [e21]
      exact br_t rfl hp
    · rw [e21]
      exact hp
  | succ d ih =>
    intro c hc B t p w xk xp yh yw hd hB hT hI hV hC
    have hsp := wt_ow_spec p w (nI s) 21 (by omega)
    generalize hF : wt_ow p w (nI s) 21 = f at hsp
    rcases hsp with ⟨e, q⟩ | ⟨hf, a, b⟩
    · exfalso
      have z : wt_oc p w (nI s) = 0 := (wt_ct_0 21).mpr (fun j hj y => q j hj (of_decide_eq_true y))
      omega
    · have f1 : 1 ≤ f := by
        apply Nat.pos_of_ne_zero
        intro z
        subst z
        exact wt_I_0 hI b
      have fn : ¬ p f = -1 := fun z => by
        rw [z] at b
        exact absurd b (by decide)
      have ho : ¬ w (6 * f + 5) = -1 := by rw [a]; exact wt_nn (by omega)
      obtain ⟨g1, g2, g3, g4, g5⟩ := wt_taken hT hI hV hC (by omega) (by omega) f1 hf fn (Or.inl ho)
      have hq := (wt_I_pa hI f1 hf fn).1
      have hd' := wt_oc_s (w' := upd w (6 * wt_fd p (p f / 101) + 2) (w (6 * wt_fd p (p f / 101) + 2) + 1)) hf a b (fun j hj => pk_un (by omega)) hd
      obtain ⟨t', p', w', xk', xp', yh', yw', c', hX, hY, r1, r2, r3, r4⟩ := ih (c + 1) (by omega) (B + 1) _ _ _ _ _ _ _ hd' (by omega) g1 g2 g3 g4
      refine ⟨t', p', w', xk', xp', yh', yw', c', fun post hp => ?_, fun post hp => ?_, r1, r2, wt_V_up r3 (by omega), r4⟩
      · refine br_f (nI_ge (b := 20) (by omega) (by omega)) (wx_greatest hT ?_)
        rw [hF, wt_r_t hf]
        exact br_f (wt_nn (by omega)) (wx_take hT hI f1 hf fn (by omega) (nm_r (nI_1 c) (nm_r (nI_1 c) (hX post hp))))
      · rw [wt_r_t hf, Nat.one_mul]
        exact br_f (nI_pos (by omega)) (wy_take hI f1 hf fn (by omega) (wy_owned g2 (hY post hp)))
/-- closeOpen against close, of an open session -/
theorem wt_close {B s : Nat} (hs : s < 4) (ho : y_open s = 1) (hB : B < 2 ^ 29) (hR : wt_R B (x_time, x_partCount, x_wrongAt, x_changeCount, x_transactions, x_logStart, x_snapshotStart, x_placesLeft, x_tree, x_treeBefore, x_timeouts, x_deadlines, x_events, x_eventCounts, x_watchSessions, x_watchKinds, x_watchPaths, x_partKinds, x_partPaths, x_partAs, x_partBs, x_changePaths, x_changeKinds) (y_time, y_last, y_watchCount, y_partCount, y_wrong, y_changes, y_log, y_since, y_placesLeft, y_paths, y_values, y_open, y_timeouts, y_deadlines, y_events, y_eventCounts, y_watchers, y_watchKinds, y_watchPaths, y_parts, y_happened, y_how)) : ∃ (r : Int32) (u' : SX) (v' : SY), (∀ post : Int32 → SX → Prop, post r u' → wpX_closeOpen post (x_time, x_partCount, x_wrongAt, x_changeCount, x_transactions, x_logStart, x_snapshotStart, x_placesLeft, x_tree, x_treeBefore, x_timeouts, x_deadlines, x_events, x_eventCounts, x_watchSessions, x_watchKinds, x_watchPaths, x_partKinds, x_partPaths, x_partAs, x_partBs, x_changePaths, x_changeKinds) (nI s)) ∧ (∀ post : Int32 → SY → Prop, post r v' → wpY_close post (y_time, y_last, y_watchCount, y_partCount, y_wrong, y_changes, y_log, y_since, y_placesLeft, y_paths, y_values, y_open, y_timeouts, y_deadlines, y_events, y_eventCounts, y_watchers, y_watchKinds, y_watchPaths, y_parts, y_happened, y_how) (nI s)) ∧ wt_R (B + 20) u' v' := by
  obtain ⟨hT, hI, hV, hS, ⟨t, ht, et, et'⟩, hE, ⟨c, hc16, hwc, h3, h4⟩, hP, hw, hN, hc⟩ := hR
  subst hwc
  have hc0 : x_changeCount = nI 0 := hc
  subst hc0
  have hGH : ∀ j, j < c → wt_G0 (nI s) (y_watchers j) (y_watchKinds j) (y_watchPaths j) = wt_H (nI s) (-1) 7 (y_watchers j) (y_watchKinds j) (y_watchPaths j) := fun j hj => by
    obtain ⟨_, b, b1, b2⟩ := h4 j hj
    by_cases z : y_watchers j = nI s
    · have k7 := wt_k7 b (by omega)
      rw [← b2] at k7
      rw [wt_H_t z k7 (Or.inl wt_m1)]
      exact decide_eq_true z
    · unfold wt_H wt_G0
      rw [decide_eq_false z]
      rfl
  obtain ⟨hW', hiff, hle, hno⟩ := wt_WR_dr (o := y_open) hc16 h3 h4 hGH
  have hW2 := wt_WR_cl (s := s) hW' (by omega) (fun j hj z => by
    obtain ⟨c', c1, c2, c3, c4⟩ := hW'
    have ec : (wt_cp (wt_H (nI s) (-1) 7) y_watchers y_watchKinds y_watchPaths c).1 = c' := (nI_eq (by omega) (by omega)).mp c2
    obtain ⟨_, b, b1, b2⟩ := c4 j (by omega)
    have k7 := wt_k7 b (by omega)
    rw [← b2] at k7
    exact hno j hj (wt_H_t z k7 (Or.inl wt_m1)))
  have hE2 := wt_E_cl (s := s) hE
  have hS2 := wt_S_cl (s := s) hS
  have v4 : vp_in (nI s) 4 := vp_in_nI hs (by omega)
  have cs : (nI s).toNatClampNeg = s := nI_clamp (by omega)
  have oc20 : wt_oc y_paths y_values (nI s) ≤ 20 := wt_ct_le20 (fun z => wt_I_0 hI (of_decide_eq_true z).2)
  obtain ⟨t', p', w', xk', xp', yh', yw', c', hX, hY, r1, r2, r3, r4⟩ := wt_own_lp (x_time := x_time) (x_partCount := x_partCount) (x_wrongAt := x_wrongAt) (x_transactions := x_transactions) (x_logStart := x_logStart) (x_snapshotStart := x_snapshotStart) (x_placesLeft := x_placesLeft) (x_treeBefore := x_treeBefore) (x_deadlines := x_deadlines) (x_events := x_events) (x_watchKinds := x_watchKinds) (x_watchPaths := x_watchPaths) (x_partKinds := x_partKinds) (x_partPaths := x_partPaths) (x_partAs := x_partAs) (x_partBs := x_partBs) (x_timeouts := upd x_timeouts s 0) (x_eventCounts := upd x_eventCounts s 0) (x_watchSessions := wt_dr (wt_G0 (nI s)) x_watchSessions x_watchKinds x_watchPaths 16) (y_time := y_time) (y_partCount := y_partCount) (y_wrong := y_wrong) (y_placesLeft := y_placesLeft) (y_timeouts := y_timeouts) (y_deadlines := y_deadlines) (y_events := y_events) (y_parts := y_parts) (y_open := upd y_open s 0) (y_eventCounts := upd y_eventCounts s 0) (y_watchCount := nI (wt_cp (wt_H (nI s) (-1) 7) y_watchers y_watchKinds y_watchPaths c).1) (y_watchers := (wt_cp (wt_H (nI s) (-1) 7) y_watchers y_watchKinds y_watchPaths c).2.1) (y_watchKinds := (wt_cp (wt_H (nI s) (-1) 7) y_watchers y_watchKinds y_watchPaths c).2.2.1) (y_watchPaths := (wt_cp (wt_H (nI s) (-1) 7) y_watchers y_watchKinds y_watchPaths c).2.2.2) (y_last := y_last + 1) (y_log := y_log + 1) (y_since := y_since + 1) hs _ 0 (by omega) B x_tree y_paths y_values x_changeKinds x_changePaths y_happened y_how rfl (by omega) hT hI hV (wt_C_0 _ _ _ _)
  obtain ⟨ws', ev', ec', yev', yec', ya', yk', yp', wc', hXf, hYf, R1, R2⟩ := wt_finish (x_time := x_time) (x_partCount := x_partCount) (x_wrongAt := x_wrongAt) (x_logStart := x_logStart) (x_snapshotStart := x_snapshotStart) (x_placesLeft := x_placesLeft) (x_treeBefore := x_treeBefore) (x_deadlines := x_deadlines) (x_watchKinds := x_watchKinds) (x_watchPaths := x_watchPaths) (x_partKinds := x_partKinds) (x_partPaths := x_partPaths) (x_partAs := x_partAs) (x_partBs := x_partBs) (x_tree := t') (x_changeKinds := xk') (x_changePaths := xp') (x_timeouts := upd x_timeouts s 0) (y_time := y_time) (y_partCount := y_partCount) (y_wrong := y_wrong) (y_placesLeft := y_placesLeft) (y_timeouts := y_timeouts) (y_deadlines := y_deadlines) (y_parts := y_parts) (y_paths := p') (y_values := w') (y_happened := yh') (y_how := yw') (y_open := upd y_open s 0) (y_last := y_last + 1) (y_log := y_log + 1) (y_since := y_since + 1) (n := x_transactions) r4 hW2 hE2
  refine ⟨nI c', (x_time, x_partCount, x_wrongAt, 0, (x_transactions + 1), x_logStart, x_snapshotStart, x_placesLeft, t', x_treeBefore, (upd x_timeouts s 0), x_deadlines, ev', ec', ws', x_watchKinds, x_watchPaths, x_partKinds, x_partPaths, x_partAs, x_partBs, xp', xk'), (y_time, (y_last + 1), wc', y_partCount, y_wrong, (nI c'), (y_log + 1), (y_since + 1), y_placesLeft, p', w', (upd y_open s 0), y_timeouts, y_deadlines, yev', yec', ya', yk', yp', y_parts, yh', yw'), fun post hp => ?_, fun post hp => ?_, ?_⟩
  · refine ⟨v4, nm_r (wt_ui _ _ cs) ⟨v4, nm_r (wt_ui _ _ cs) (wx_dropOf ⟨_, hX _ (hXf _ hp)⟩)⟩⟩
  · unfold wpY_close
    refine wy_open_t hs ho (br_f (by decide) (wy_done ⟨v4, nm_r (e' := upd y_open s 0) (by rw [cs]; rfl) (wy_drop hc16 ⟨v4, nm_r (wt_ui _ _ cs) (wy_owned hI ⟨_, hY _ (br_t (by decide) (hYf _ hp))⟩)⟩)⟩))
  · exact ⟨r1, r2, wt_V_up r3 (by omega), wt_S_up hS2 (by omega), ⟨t, by omega, et, et'⟩, R2, R1, hP, hw, wt_N_s hN, rfl⟩
end
theorem i_vc_close {k : Nat} {u : SX} {v : SY} (I : i_Rel k u v) (hk : k + 5 ≤ 2560) (v1 : Int32) : wpX_close (fun r u' => wpY_close (fun r' v' => r' = r ∧ i_Rel (k + 5) u' v') v v1) u v1 := by
  have I' := i_up I
  obtain ⟨x_time, x_partCount, x_wrongAt, x_changeCount, x_transactions, x_logStart, x_snapshotStart, x_placesLeft, x_tree, x_treeBefore, x_timeouts, x_deadlines, x_events, x_eventCounts, x_watchSessions, x_watchKinds, x_watchPaths, x_partKinds, x_partPaths, x_partAs, x_partBs, x_changePaths, x_changeKinds⟩ := u
  obtain ⟨y_time, y_last, y_watchCount, y_partCount, y_wrong, y_changes, y_log, y_since, y_placesLeft, y_paths, y_values, y_open, y_timeouts, y_deadlines, y_events, y_eventCounts, y_watchers, y_watchKinds, y_watchPaths, y_parts, y_happened, y_how⟩ := v
  have hS := I.2.2.2.1
  unfold wpX_close
  rcases wt_cases hS v1 with ⟨s, hs, rfl, ho, hx⟩ | ⟨hx, hy⟩
  · obtain ⟨r, u', v', hX, hY, hR⟩ := wt_close hs ho (by omega) I
    refine wx_open_t hs hx (br_f (by decide) (hX _ (hY _ ⟨rfl, wt_R_up hR (by omega)⟩)))
  · refine wx_open_f hx (br_t rfl ?_)
    unfold wpY_close
    exact wy_open_f hy (br_t rfl ⟨rfl, I'⟩)
theorem wt_pass_lp : ∀ d i, i + d = 4 → ∀ (x_time x_partCount x_wrongAt x_changeCount x_transactions x_logStart x_snapshotStart x_placesLeft : Int32) (x_tree x_treeBefore x_timeouts x_deadlines x_events x_eventCounts x_watchSessions x_watchKinds x_watchPaths x_partKinds x_partPaths x_partAs x_partBs x_changePaths x_changeKinds : Nat → Int32) (y_time y_last y_watchCount y_partCount y_wrong y_changes y_log y_since y_placesLeft : Int32) (y_paths y_values y_open y_timeouts y_deadlines y_events y_eventCounts y_watchers y_watchKinds y_watchPaths y_parts y_happened y_how : Nat → Int32) (B : Nat) (m : Int32), B + 20 * d < 2 ^ 29 → wt_R B (x_time, x_partCount, x_wrongAt, x_changeCount, x_transactions, x_logStart, x_snapshotStart, x_placesLeft, x_tree, x_treeBefore, x_timeouts, x_deadlines, x_events, x_eventCounts, x_watchSessions, x_watchKinds, x_watchPaths, x_partKinds, x_partPaths, x_partAs, x_partBs, x_changePaths, x_changeKinds) (y_time, y_last, y_watchCount, y_partCount, y_wrong, y_changes, y_log, y_since, y_placesLeft, y_paths, y_values, y_open, y_timeouts, y_deadlines, y_events, y_eventCounts, y_watchers, y_watchKinds, y_watchPaths, y_parts, y_happened, y_how) → ∃ (r : Int32) (u' : SX) (v' : SY), (∀ post : Int32 → SX → Prop, post r u' → wX_pass_26 post (d + 1) m (nI i) x_time x_partCount x_wrongAt x_changeCount x_transactions x_logStart x_snapshotStart x_placesLeft x_tree x_treeBefore x_timeouts x_deadlines x_events x_eventCounts x_watchSessions x_watchKinds x_watchPaths x_partKinds x_partPaths x_partAs x_partBs x_changePaths x_changeKinds) ∧ (∀ post : Int32 → SY → Prop, post r v' → wY_pass_26 post (d + 1) m (nI i) y_time y_last y_watchCount y_partCount y_wrong y_changes y_log y_since y_placesLeft y_paths y_values y_open y_timeouts y_deadlines y_events y_eventCounts y_watchers y_watchKinds y_watchPaths y_parts y_happened y_how) ∧ wt_R (B + 20 * d) u' v' := by
  intro d
  induction d with
  | zero =>
    intro i hi x_time x_partCount x_wrongAt x_changeCount x_transactions x_logStart x_snapshotStart x_placesLeft x_tree x_treeBefore x_timeouts x_deadlines x_events x_eventCounts x_watchSessions x_watchKinds x_watchPaths x_partKinds x_partPaths x_partAs x_partBs x_changePaths x_changeKinds y_time y_last y_watchCount y_partCount y_wrong y_changes y_log y_since y_placesLeft y_paths y_values y_open y_timeouts y_deadlines y_events y_eventCounts y_watchers y_watchKinds y_watchPaths y_parts y_happened y_how B m hB hR
    have e : i = 4 := by omega
    subst e
    have l : (4 : Int32) ≤ nI 4 := nI_le (a := 4) (b := 4) (by omega) (by omega)
    exact ⟨m, (x_time, x_partCount, x_wrongAt, x_changeCount, x_transactions, x_logStart, x_snapshotStart, x_placesLeft, x_tree, x_treeBefore, x_timeouts, x_deadlines, x_events, x_eventCounts, x_watchSessions, x_watchKinds, x_watchPaths, x_partKinds, x_partPaths, x_partAs, x_partBs, x_changePaths, x_changeKinds), (y_time, y_last, y_watchCount, y_partCount, y_wrong, y_changes, y_log, y_since, y_placesLeft, y_paths, y_values, y_open, y_timeouts, y_deadlines, y_events, y_eventCounts, y_watchers, y_watchKinds, y_watchPaths, y_parts, y_happened, y_how), fun post hp => br_t l hp, fun post hp => br_t l hp, hR⟩
  | succ d ih =>
    intro i hi x_time x_partCount x_wrongAt x_changeCount x_transactions x_logStart x_snapshotStart x_placesLeft x_tree x_treeBefore x_timeouts x_deadlines x_events x_eventCounts x_watchSessions x_watchKinds x_watchPaths x_partKinds x_partPaths x_partAs x_partBs x_changePaths x_changeKinds y_time y_last y_watchCount y_partCount y_wrong y_changes y_log y_since y_placesLeft y_paths y_values y_open y_timeouts y_deadlines y_events y_eventCounts y_watchers y_watchKinds y_watchPaths y_parts y_happened y_how B m hB hR
    have l : ¬ (4 : Int32) ≤ nI i := nI_ge (b := 4) (by omega) (by omega)
    have v4 : vp_in (nI i) 4 := vp_in_nI (by omega) (by omega)
    have ci : (nI i).toNatClampNeg = i := nI_clamp (by omega)
    have hS := hR.2.2.2.1
    obtain ⟨t, ht, et, et'⟩ := hR.2.2.2.2.1
    rcases wt_S_o hS (s := i) (by omega) with ho | ho
    · obtain ⟨_, dl, d1, d2, d3⟩ := wt_S_in hS (by omega) ho
      have hx : ¬ x_timeouts i = 0 := fun z => by
        rw [wt_S_xt hS (by omega), ho] at z
        exact absurd z (by decide)
      have yo : ¬ y_open (nI i).toNatClampNeg = 0 := by rw [ci, ho]; decide
      by_cases le : dl ≤ t
      · obtain ⟨r1, u1, v1, hX1, hY1, hR1⟩ := wt_close (s := i) (by omega) ho (by omega) hR
        obtain ⟨x_time, x_partCount, x_wrongAt, x_changeCount, x_transactions, x_logStart, x_snapshotStart, x_placesLeft, x_tree, x_treeBefore, x_timeouts, x_deadlines, x_events, x_eventCounts, x_watchSessions, x_watchKinds, x_watchPaths, x_partKinds, x_partPaths, x_partAs, x_partBs, x_changePaths, x_changeKinds⟩ := u1
        obtain ⟨y_time, y_last, y_watchCount, y_partCount, y_wrong, y_changes, y_log, y_since, y_placesLeft, y_paths, y_values, y_open, y_timeouts, y_deadlines, y_events, y_eventCounts, y_watchers, y_watchKinds, y_watchPaths, y_parts, y_happened, y_how⟩ := v1
        obtain ⟨r, u', v', hX, hY, hR2⟩ := ih (i + 1) (by omega) x_time x_partCount x_wrongAt x_changeCount x_transactions x_logStart x_snapshotStart x_placesLeft x_tree x_treeBefore x_timeouts x_deadlines x_events x_eventCounts x_watchSessions x_watchKinds x_watchPaths x_partKinds x_partPaths x_partAs x_partBs x_changePaths x_changeKinds y_time y_last y_watchCount y_partCount y_wrong y_changes y_log y_since y_placesLeft y_paths y_values y_open y_timeouts y_deadlines y_events y_eventCounts y_watchers y_watchKinds y_watchPaths y_parts y_happened y_how (B + 20) (m + 1) (by omega) hR1
        refine ⟨r, u', v', fun post hp => ?_, fun post hp => ?_, wt_R_up hR2 (by omega)⟩
        · refine br_f l (wx_open_t (by omega) hx (br_f (by decide) ⟨v4, br_f ?_ (hX1 _ (nm_e (nm_r (nI_1 i) (hX post hp))))⟩))
          rw [ci, d2, et]
          exact nI_nlt le (by omega)
        · refine br_f l ⟨v4, br_f yo ⟨v4, br_f ?_ (nm_e (hY1 _ (nm_r (nI_1 i) (hY post hp))))⟩⟩
          rw [ci, d3, et']
          exact Int32.not_lt.mpr (wt_subneg le (by omega))
      · obtain ⟨r, u', v', hX, hY, hR2⟩ := ih (i + 1) (by omega) x_time x_partCount x_wrongAt x_changeCount x_transactions x_logStart x_snapshotStart x_placesLeft x_tree x_treeBefore x_timeouts x_deadlines x_events x_eventCounts x_watchSessions x_watchKinds x_watchPaths x_partKinds x_partPaths x_partAs x_partBs x_changePaths x_changeKinds y_time y_last y_watchCount y_partCount y_wrong y_changes y_log y_since y_placesLeft y_paths y_values y_open y_timeouts y_deadlines y_events y_eventCounts y_watchers y_watchKinds y_watchPaths y_parts y_happened y_how B m (by omega) hR
        refine ⟨r, u', v', fun post hp => ?_, fun post hp => ?_, wt_R_up hR2 (by omega)⟩
        · refine br_f l (wx_open_t (by omega) hx (br_f (by decide) ⟨v4, br_t ?_ (nm_r (nI_1 i) (hX post hp))⟩))
          rw [ci, d2, et]
          exact nI_lt (by omega) (by omega)
        · refine br_f l ⟨v4, br_f yo ⟨v4, br_t ?_ (nm_r (nI_1 i) (hY post hp))⟩⟩
          rw [ci, d3, et', pk_sub (by omega)]
          exact nI_lt (a := 0) (by omega) (by omega)
    · obtain ⟨r, u', v', hX, hY, hR2⟩ := ih (i + 1) (by omega) x_time x_partCount x_wrongAt x_changeCount x_transactions x_logStart x_snapshotStart x_placesLeft x_tree x_treeBefore x_timeouts x_deadlines x_events x_eventCounts x_watchSessions x_watchKinds x_watchPaths x_partKinds x_partPaths x_partAs x_partBs x_changePaths x_changeKinds y_time y_last y_watchCount y_partCount y_wrong y_changes y_log y_since y_placesLeft y_paths y_values y_open y_timeouts y_deadlines y_events y_eventCounts y_watchers y_watchKinds y_watchPaths y_parts y_happened y_how B m (by omega) hR
      refine ⟨r, u', v', fun post hp => ?_, fun post hp => ?_, wt_R_up hR2 (by omega)⟩
      · refine br_f l (wx_open_f (fun s hs e => ?_) (br_t rfl (nm_r (nI_1 i) (hX post hp))))
        have e2 : i = s := (nI_eq (by omega) (by omega)).mp e
        subst e2
        exact (wt_S_xt hS hs).mpr ho
      · exact br_f l ⟨v4, br_t (by rw [ci]; exact ho) (nm_r (nI_1 i) (hY post hp))⟩
theorem i_vc_pass {k : Nat} {u : SX} {v : SY} (I : i_Rel k u v) (hk : k + 5 ≤ 2560) (v1 : Int32) : wpX_pass (fun r u' => wpY_pass (fun r' v' => r' = r ∧ i_Rel (k + 5) u' v') v v1) u v1 := by
  have I' := i_up I
  obtain ⟨x_time, x_partCount, x_wrongAt, x_changeCount, x_transactions, x_logStart, x_snapshotStart, x_placesLeft, x_tree, x_treeBefore, x_timeouts, x_deadlines, x_events, x_eventCounts, x_watchSessions, x_watchKinds, x_watchPaths, x_partKinds, x_partPaths, x_partAs, x_partBs, x_changePaths, x_changeKinds⟩ := u
  obtain ⟨y_time, y_last, y_watchCount, y_partCount, y_wrong, y_changes, y_log, y_since, y_placesLeft, y_paths, y_values, y_open, y_timeouts, y_deadlines, y_events, y_eventCounts, y_watchers, y_watchKinds, y_watchPaths, y_parts, y_happened, y_how⟩ := v
  obtain ⟨hT, hI, hV, hS, ⟨t, ht, et, et'⟩, hE, hW, hP, hw, hN, hc⟩ := I
  by_cases h0 : v1 < 0
  · exact br_t h0 (br_t h0 ⟨rfl, I'⟩)
  · by_cases h2 : v1 ≤ 30
    · obtain ⟨b, hb, rfl⟩ := nI_of2 (M := 30) (n := 30) (by decide) h0 h2
      have hR : wt_R (100 * k + 30) ((nI (t + b)), x_partCount, x_wrongAt, x_changeCount, x_transactions, x_logStart, x_snapshotStart, x_placesLeft, x_tree, x_treeBefore, x_timeouts, x_deadlines, x_events, x_eventCounts, x_watchSessions, x_watchKinds, x_watchPaths, x_partKinds, x_partPaths, x_partAs, x_partBs, x_changePaths, x_changeKinds) ((nI (t + b)), y_last, y_watchCount, y_partCount, y_wrong, y_changes, y_log, y_since, y_placesLeft, y_paths, y_values, y_open, y_timeouts, y_deadlines, y_events, y_eventCounts, y_watchers, y_watchKinds, y_watchPaths, y_parts, y_happened, y_how) := ⟨hT, hI, wt_V_up hV (by omega), wt_S_up hS (by omega), ⟨t + b, by omega, rfl, rfl⟩, hE, hW, hP, hw, hN, hc⟩
      obtain ⟨r, u', v', hX, hY, hR2⟩ := wt_pass_lp 4 0 rfl (nI (t + b)) x_partCount x_wrongAt x_changeCount x_transactions x_logStart x_snapshotStart x_placesLeft x_tree x_treeBefore x_timeouts x_deadlines x_events x_eventCounts x_watchSessions x_watchKinds x_watchPaths x_partKinds x_partPaths x_partAs x_partBs x_changePaths x_changeKinds (nI (t + b)) y_last y_watchCount y_partCount y_wrong y_changes y_log y_since y_placesLeft y_paths y_values y_open y_timeouts y_deadlines y_events y_eventCounts y_watchers y_watchKinds y_watchPaths y_parts y_happened y_how _ 0 (by omega) hR
      refine br_f h0 (br_t h2 (nm_r (e' := nI (t + b)) (by rw [et, nI_add]) ⟨5, hX _ (br_f h0 (br_t h2 (nm_r (e' := nI (t + b)) (by rw [et', nI_add]) ⟨5, hY _ ⟨rfl, wt_R_up hR2 (by omega)⟩⟩)))⟩))
    · exact br_f h0 (br_f h2 (br_f h0 (br_f h2 ⟨rfl, I'⟩)))
