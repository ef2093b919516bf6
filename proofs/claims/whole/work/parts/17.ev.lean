section
variable {x_time x_partCount x_wrongAt x_changeCount x_transactions x_logStart x_snapshotStart x_placesLeft : Int32} {x_tree x_treeBefore x_timeouts x_deadlines x_events x_eventCounts x_watchSessions x_watchKinds x_watchPaths x_partKinds x_partPaths x_partAs x_partBs x_changePaths x_changeKinds : Nat → Int32}
variable {y_time y_last y_watchCount y_partCount y_wrong y_changes y_log y_since y_placesLeft : Int32} {y_paths y_values y_open y_timeouts y_deadlines y_events y_eventCounts y_watchers y_watchKinds y_watchPaths y_parts y_happened y_how : Nat → Int32}
theorem wx_event_lp {post : Int32 → SX → Prop} {s n : Nat} {r : Int32} (hs : s < 4) (hn : x_eventCounts s = nI (n + 1)) (hp : post r (x_time, x_partCount, x_wrongAt, x_changeCount, x_transactions, x_logStart, x_snapshotStart, x_placesLeft, x_tree, x_treeBefore, x_timeouts, x_deadlines, (wt_sh (8 * s) 7 x_events), (upd x_eventCounts s (nI n)), x_watchSessions, x_watchKinds, x_watchPaths, x_partKinds, x_partPaths, x_partAs, x_partBs, x_changePaths, x_changeKinds)) : ∀ d i, i + d = 7 → wX_event_34 post (nI s) (nI (8 * s)) r x_time x_partCount x_wrongAt x_changeCount x_transactions x_logStart x_snapshotStart x_placesLeft (d + 1) (nI (i + 1)) x_tree x_treeBefore x_timeouts x_deadlines (wt_sh (8 * s) i x_events) x_eventCounts x_watchSessions x_watchKinds x_watchPaths x_partKinds x_partPaths x_partAs x_partBs x_changePaths x_changeKinds := by
  have vs : vp_in (nI s) 4 := vp_in_nI hs (by omega)
  have cs : (nI s).toNatClampNeg = s := nI_clamp (by omega)
  intro d
  induction d with
  | zero =>
    intro i hi
    have e : i = 7 := by omega
    subst e
    refine br_t (nI_le (a := 8) (b := 8) (by omega) (by omega)) ⟨vs, vs, nm_r (e' := upd x_eventCounts s (nI n)) ?_ hp⟩
    rw [cs, hn, nI_pred]
  | succ d ih =>
    intro i hi
    have hn' := ih (i + 1) (by omega)
    rw [← wt_sh_s] at hn'
    have e1 : nI (8 * s) + nI (i + 1) = nI (8 * s + i + 1) := nI_add (8 * s) (i + 1)
    refine br_f (nI_ge (b := 8) (by omega) (by omega)) ⟨by rw [e1]; exact vp_in_nI (by omega) (by omega), by rw [e1, nI_pred]; exact vp_in_nI (by omega) (by omega), nm_r (e' := upd (wt_sh (8 * s) i x_events) (8 * s + i) (wt_sh (8 * s) i x_events (8 * s + i + 1))) ?_ (nm_r (nI_1 _) hn')⟩
    rw [e1, nI_pred, nI_clamp (by omega), nI_clamp (by omega)]
theorem wy_event_lp {post : Int32 → SY → Prop} {s n : Nat} {r : Int32} (hs : s < 4) (hn8 : n < 8) (hn : y_eventCounts s = nI n) (hp : post r (y_time, y_last, y_watchCount, y_partCount, y_wrong, y_changes, y_log, y_since, y_placesLeft, y_paths, y_values, y_open, y_timeouts, y_deadlines, (wt_sh (8 * s) n y_events), y_eventCounts, y_watchers, y_watchKinds, y_watchPaths, y_parts, y_happened, y_how)) : ∀ d i, i + d = n → wY_event_41 post (nI s) r y_time y_last y_watchCount y_partCount y_wrong y_changes y_log y_since y_placesLeft (d + 1) (nI i) y_paths y_values y_open y_timeouts y_deadlines (wt_sh (8 * s) i y_events) y_eventCounts y_watchers y_watchKinds y_watchPaths y_parts y_happened y_how := by
  have vs : vp_in (nI s) 4 := vp_in_nI hs (by omega)
  have cs : (nI s).toNatClampNeg = s := nI_clamp (by omega)
  have ec : y_eventCounts (nI s).toNatClampNeg = nI n := by rw [cs]; exact hn
  intro d
  induction d with
  | zero =>
    intro i hi
    have e : i = n := by omega
    subst e
    exact ⟨vs, br_t (by rw [ec]; exact nI_le (Nat.le_refl _) (by omega)) hp⟩
  | succ d ih =>
    intro i hi
    have hn' := ih (i + 1) (by omega)
    rw [← wt_sh_s] at hn'
    have e1 : 8 * nI s + nI i = nI (8 * s + i) := by
      rw [show (8 : Int32) = nI 8 from rfl, pk_mul, nI_add]
    have e2 : 8 * nI s + nI i + 1 = nI (8 * s + i + 1) := by rw [e1, nI_1]
    refine ⟨vs, br_f (by rw [ec]; exact nI_ge (by omega) (by omega)) ⟨by rw [e2]; exact vp_in_nI (by omega) (by omega), by rw [e1]; exact vp_in_nI (by omega) (by omega), nm_r (e' := upd (wt_sh (8 * s) i y_events) (8 * s + i) (wt_sh (8 * s) i y_events (8 * s + i + 1))) ?_ (nm_r (nI_1 i) hn')⟩⟩
    rw [e2, e1, nI_clamp (by omega), nI_clamp (by omega)]
theorem wx_crash_lp {post : Int32 → SX → Prop} (hp : post (x_transactions - x_logStart) (x_time, 0, x_wrongAt, x_changeCount, x_transactions, x_logStart, x_snapshotStart, 0, x_tree, x_treeBefore, x_timeouts, (wt_mx 4 (fun j => x_time + x_timeouts j) x_deadlines), x_events, (wt_fl 4 0 x_eventCounts), (wt_fl 16 (-1) x_watchSessions), x_watchKinds, x_watchPaths, x_partKinds, x_partPaths, x_partAs, x_partBs, x_changePaths, x_changeKinds)) : ∀ d i, i + d = 4 → wX_crash_2 post x_time x_partCount x_wrongAt x_changeCount x_transactions x_logStart x_snapshotStart x_placesLeft (d + 1) (nI i) x_tree x_treeBefore x_timeouts (wt_mx i (fun j => x_time + x_timeouts j) x_deadlines) x_events (wt_fl i 0 x_eventCounts) x_watchSessions x_watchKinds x_watchPaths x_partKinds x_partPaths x_partAs x_partBs x_changePaths x_changeKinds := by
  intro d
  induction d with
  | zero =>
    intro i hi
    have e : i = 4 := by omega
    subst e
    exact br_t (nI_le (a := 4) (b := 4) (by omega) (by omega)) (wx_dropAll hp)
  | succ d ih =>
    intro i hi
    have hn := ih (i + 1) (by omega)
    rw [← wt_fl_s, ← wt_mx_s] at hn
    have vi : vp_in (nI i) 4 := vp_in_nI (by omega) (by omega)
    have ci : (nI i).toNatClampNeg = i := nI_clamp (by omega)
    refine br_f (nI_ge (b := 4) (by omega) (by omega)) ⟨vi, nm_r (wt_ui _ _ ci) ⟨vi, vi, nm_r (e' := upd (wt_mx i (fun j => x_time + x_timeouts j) x_deadlines) i (x_time + x_timeouts i)) (by rw [ci]) (nm_r (nI_1 i) hn)⟩⟩
theorem wy_crash_lp {post : Int32 → SY → Prop} (hp : post y_log (y_time, y_last, y_watchCount, y_partCount, y_wrong, y_changes, y_log, y_since, y_placesLeft, y_paths, y_values, y_open, y_timeouts, (wt_mx 4 (fun j => y_time + y_timeouts j) y_deadlines), y_events, (wt_fl 4 0 y_eventCounts), y_watchers, y_watchKinds, y_watchPaths, y_parts, y_happened, y_how)) : ∀ d i, i + d = 4 → wY_crash_17 post y_time y_last y_watchCount y_partCount y_wrong y_changes y_log y_since y_placesLeft (d + 1) (nI i) y_paths y_values y_open y_timeouts (wt_mx i (fun j => y_time + y_timeouts j) y_deadlines) y_events (wt_fl i 0 y_eventCounts) y_watchers y_watchKinds y_watchPaths y_parts y_happened y_how := by
  intro d
  induction d with
  | zero =>
    intro i hi
    have e : i = 4 := by omega
    subst e
    exact br_t (nI_le (a := 4) (b := 4) (by omega) (by omega)) hp
  | succ d ih =>
    intro i hi
    have hn := ih (i + 1) (by omega)
    rw [← wt_fl_s, ← wt_mx_s] at hn
    have vi : vp_in (nI i) 4 := vp_in_nI (by omega) (by omega)
    have ci : (nI i).toNatClampNeg = i := nI_clamp (by omega)
    refine br_f (nI_ge (b := 4) (by omega) (by omega)) ⟨vi, nm_r (wt_ui _ _ ci) ⟨vi, vi, nm_r (e' := upd (wt_mx i (fun j => y_time + y_timeouts j) y_deadlines) i (y_time + y_timeouts i)) (by rw [ci]) (nm_r (nI_1 i) hn)⟩⟩
theorem wx_finish0 {post : SX → Prop} (hp : post (x_time, x_partCount, x_wrongAt, 0, (x_transactions + 1), x_logStart, x_snapshotStart, x_placesLeft, x_tree, x_treeBefore, x_timeouts, x_deadlines, x_events, x_eventCounts, x_watchSessions, x_watchKinds, x_watchPaths, x_partKinds, x_partPaths, x_partAs, x_partBs, x_changePaths, x_changeKinds)) : wpX_finishTransaction post (x_time, x_partCount, x_wrongAt, 0, x_transactions, x_logStart, x_snapshotStart, x_placesLeft, x_tree, x_treeBefore, x_timeouts, x_deadlines, x_events, x_eventCounts, x_watchSessions, x_watchKinds, x_watchPaths, x_partKinds, x_partPaths, x_partAs, x_partBs, x_changePaths, x_changeKinds) := nm_e ⟨1, br_t (by decide) hp⟩
theorem wx_log_t {post : Int32 → Prop} (h : x_transactions - x_logStart < 40) (hp : post 0) : wpX_isLogFull post (x_time, x_partCount, x_wrongAt, x_changeCount, x_transactions, x_logStart, x_snapshotStart, x_placesLeft, x_tree, x_treeBefore, x_timeouts, x_deadlines, x_events, x_eventCounts, x_watchSessions, x_watchKinds, x_watchPaths, x_partKinds, x_partPaths, x_partAs, x_partBs, x_changePaths, x_changeKinds) := br_t h hp
theorem wx_log_f {post : Int32 → Prop} (h : ¬ x_transactions - x_logStart < 40) (hp : post 1) : wpX_isLogFull post (x_time, x_partCount, x_wrongAt, x_changeCount, x_transactions, x_logStart, x_snapshotStart, x_placesLeft, x_tree, x_treeBefore, x_timeouts, x_deadlines, x_events, x_eventCounts, x_watchSessions, x_watchKinds, x_watchPaths, x_partKinds, x_partPaths, x_partAs, x_partBs, x_changePaths, x_changeKinds) := br_f h hp
theorem wy_open_lp {post : Int32 → SY → Prop} {x : Int32} : ∀ d i, i + d = 4 → wY_open_22 post x (nI (wt_fs (fun k => decide (y_open k = 0)) d i)) y_time y_last y_watchCount y_partCount y_wrong y_changes y_log y_since y_placesLeft y_paths y_values y_open y_timeouts y_deadlines y_events y_eventCounts y_watchers y_watchKinds y_watchPaths y_parts y_happened y_how → wY_open_2 post x y_time y_last y_watchCount y_partCount y_wrong y_changes y_log y_since y_placesLeft y_paths y_values y_open y_timeouts y_deadlines y_events y_eventCounts y_watchers y_watchKinds y_watchPaths y_parts y_happened y_how (d + 1) (nI i) := by
  intro d
  induction d with
  | zero =>
    intro i hi hp
    have e : i = 4 := by omega
    subst e
    exact br_t (nI_le (a := 4) (b := 4) (by omega) (by omega)) hp
  | succ d ih =>
    intro i hi hp
    refine br_f (nI_ge (b := 4) (by omega) (by omega)) ⟨vp_in_nI (by omega) (by omega), ?_⟩
    rw [nI_clamp (by omega)]
    by_cases e : y_open i = 0
    · rw [wt_fs_t (decide_eq_true e)] at hp
      exact br_t e hp
    · rw [wt_fs_f (fun z => e (of_decide_eq_true z))] at hp
      exact br_f e (nm_r (nI_1 i) (ih (i + 1) (by omega) hp))
end
theorem i_vc_event {k : Nat} {u : SX} {v : SY} (I : i_Rel k u v) (hk : k + 5 ≤ 2560) (v1 : Int32) : wpX_event (fun r u' => wpY_event (fun r' v' => r' = r ∧ i_Rel (k + 5) u' v') v v1) u v1 := by
  have I' := i_up I
  obtain ⟨x_time, x_partCount, x_wrongAt, x_changeCount, x_transactions, x_logStart, x_snapshotStart, x_placesLeft, x_tree, x_treeBefore, x_timeouts, x_deadlines, x_events, x_eventCounts, x_watchSessions, x_watchKinds, x_watchPaths, x_partKinds, x_partPaths, x_partAs, x_partBs, x_changePaths, x_changeKinds⟩ := u
  obtain ⟨y_time, y_last, y_watchCount, y_partCount, y_wrong, y_changes, y_log, y_since, y_placesLeft, y_paths, y_values, y_open, y_timeouts, y_deadlines, y_events, y_eventCounts, y_watchers, y_watchKinds, y_watchPaths, y_parts, y_happened, y_how⟩ := v
  have I2 := I'
  obtain ⟨hT, hI, hV, hS, hti, hE, hW, hP, hw, hN, hc⟩ := I2
  unfold wpX_event wpY_event
  rcases wt_cases hS v1 with ⟨s, hs, rfl, ho, hx⟩ | ⟨hx, hy⟩
  · have vi : vp_in (nI s) 4 := vp_in_nI hs (by omega)
    have ci : (nI s).toNatClampNeg = s := nI_clamp (by omega)
    obtain ⟨m, m1, m2, m3, m4, m5⟩ := hE s hs
    have ex : x_eventCounts (nI s).toNatClampNeg = nI m := by rw [ci]; exact m2
    have ey : y_eventCounts (nI s).toNatClampNeg = nI m := by rw [ci]; exact m3
    refine wx_open_t hs hx (br_f (by decide) ⟨vi, ?_⟩)
    by_cases m0 : m = 0
    · subst m0
      exact br_t ex (wy_open_t hs ho (br_f (by decide) ⟨vi, br_t ey ⟨rfl, I'⟩⟩))
    · obtain ⟨n, rfl⟩ : ∃ n, m = n + 1 := ⟨m - 1, by omega⟩
      have nx : ¬ nI (n + 1) = 0 := nI_ne0 (by omega) (by omega)
      have e8 : nI s * 8 = nI (8 * s) := by rw [show (8 : Int32) = nI 8 from rfl, pk_mul, Nat.mul_comm]
      have e8' : 8 * nI s = nI (8 * s) := pk_mul 8 s
      have v8 : vp_in (nI (8 * s)) 32 := vp_in_nI (by omega) (by omega)
      have c8 : (nI (8 * s)).toNatClampNeg = 8 * s := nI_clamp (by omega)
      have ev : x_events (8 * s) = y_events (8 * s) := m5 0 (by omega)
      have hyl : ∀ post : Int32 → SY → Prop, post (y_events (8 * s)) (y_time, y_last, y_watchCount, y_partCount, y_wrong, y_changes, y_log, y_since, y_placesLeft, y_paths, y_values, y_open, y_timeouts, y_deadlines, (wt_sh (8 * s) n y_events), (upd y_eventCounts s (nI n)), y_watchers, y_watchKinds, y_watchPaths, y_parts, y_happened, y_how) → wY_event_41 post (nI s) (y_events (8 * s)) y_time y_last y_watchCount y_partCount y_wrong y_changes y_log y_since y_placesLeft (n + 1) (nI 0) y_paths y_values y_open y_timeouts y_deadlines (wt_sh (8 * s) 0 y_events) (upd y_eventCounts s (nI n)) y_watchers y_watchKinds y_watchPaths y_parts y_happened y_how := fun post hp => wy_event_lp (y_time := y_time) (y_last := y_last) (y_watchCount := y_watchCount) (y_partCount := y_partCount) (y_wrong := y_wrong) (y_changes := y_changes) (y_log := y_log) (y_since := y_since) (y_placesLeft := y_placesLeft) (y_paths := y_paths) (y_values := y_values) (y_open := y_open) (y_timeouts := y_timeouts) (y_deadlines := y_deadlines) (y_events := y_events) (y_watchers := y_watchers) (y_watchKinds := y_watchKinds) (y_watchPaths := y_watchPaths) (y_parts := y_parts) (y_happened := y_happened) (y_how := y_how) (y_eventCounts := upd y_eventCounts s (nI n)) hs (by omega) pk_us hp n 0 (by omega)
      rw [wt_sh_0] at hyl
      have hxl : ∀ post : Int32 → SX → Prop, post (x_events (8 * s)) (x_time, x_partCount, x_wrongAt, x_changeCount, x_transactions, x_logStart, x_snapshotStart, x_placesLeft, x_tree, x_treeBefore, x_timeouts, x_deadlines, (wt_sh (8 * s) 7 x_events), (upd x_eventCounts s (nI n)), x_watchSessions, x_watchKinds, x_watchPaths, x_partKinds, x_partPaths, x_partAs, x_partBs, x_changePaths, x_changeKinds) → wX_event_34 post (nI s) (nI (8 * s)) (x_events (8 * s)) x_time x_partCount x_wrongAt x_changeCount x_transactions x_logStart x_snapshotStart x_placesLeft 8 (nI 1) x_tree x_treeBefore x_timeouts x_deadlines (wt_sh (8 * s) 0 x_events) x_eventCounts x_watchSessions x_watchKinds x_watchPaths x_partKinds x_partPaths x_partAs x_partBs x_changePaths x_changeKinds := fun post hp => wx_event_lp hs m2 hp 7 0 rfl
      rw [wt_sh_0] at hxl
      refine br_f (by rw [ex]; exact nx) (nm_r e8 ⟨v8, nm_r (e' := x_events (8 * s)) (by rw [c8]) ⟨8, hxl _ ?_⟩⟩)
      refine wy_open_t hs ho (br_f (by decide) ⟨vi, br_f (by rw [ey]; exact nx) ⟨by rw [e8']; exact v8, nm_r (e' := y_events (8 * s)) (by rw [e8', c8]) ⟨vi, vi, nm_r (e' := upd y_eventCounts s (nI n)) (by rw [ci, m3, nI_pred]) ⟨n + 1, hyl _ ⟨ev.symm, ?_⟩⟩⟩⟩⟩)
      exact ⟨hT, hI, hV, hS, hti, wt_E_ev hE hs m1 m3, hW, hP, hw, hN, hc⟩
  · exact wx_open_f hx (br_t rfl (wy_open_f hy (br_t rfl ⟨rfl, I'⟩)))
theorem i_vc_crash {k : Nat} {u : SX} {v : SY} (I : i_Rel k u v) (hk : k + 5 ≤ 2560) : wpX_crash (fun r u' => wpY_crash (fun r' v' => r' = r ∧ i_Rel (k + 5) u' v') v) u := by
  have I' := i_up I
  obtain ⟨x_time, x_partCount, x_wrongAt, x_changeCount, x_transactions, x_logStart, x_snapshotStart, x_placesLeft, x_tree, x_treeBefore, x_timeouts, x_deadlines, x_events, x_eventCounts, x_watchSessions, x_watchKinds, x_watchPaths, x_partKinds, x_partPaths, x_partAs, x_partBs, x_changePaths, x_changeKinds⟩ := u
  obtain ⟨y_time, y_last, y_watchCount, y_partCount, y_wrong, y_changes, y_log, y_since, y_placesLeft, y_paths, y_values, y_open, y_timeouts, y_deadlines, y_events, y_eventCounts, y_watchers, y_watchKinds, y_watchPaths, y_parts, y_happened, y_how⟩ := v
  obtain ⟨hT, hI, hV, hS, ⟨t, ht, et, et'⟩, hE, hW, hP, hw, hN, hc⟩ := I'
  have hy : ∀ post : Int32 → SY → Prop, post y_log (y_time, y_last, 0, 0, y_wrong, y_changes, y_log, y_since, 0, y_paths, y_values, y_open, y_timeouts, (wt_mx 4 (fun j => y_time + y_timeouts j) y_deadlines), y_events, (wt_fl 4 0 y_eventCounts), y_watchers, y_watchKinds, y_watchPaths, y_parts, y_happened, y_how) → wY_crash_17 post y_time y_last 0 0 y_wrong y_changes y_log y_since 0 5 (nI 0) y_paths y_values y_open y_timeouts (wt_mx 0 (fun j => y_time + y_timeouts j) y_deadlines) y_events (wt_fl 0 0 y_eventCounts) y_watchers y_watchKinds y_watchPaths y_parts y_happened y_how := fun post hp => wy_crash_lp (y_time := y_time) (y_last := y_last) (y_wrong := y_wrong) (y_changes := y_changes) (y_log := y_log) (y_since := y_since) (y_paths := y_paths) (y_values := y_values) (y_open := y_open) (y_timeouts := y_timeouts) (y_deadlines := y_deadlines) (y_events := y_events) (y_eventCounts := y_eventCounts) (y_watchers := y_watchers) (y_watchKinds := y_watchKinds) (y_watchPaths := y_watchPaths) (y_parts := y_parts) (y_happened := y_happened) (y_how := y_how) (y_watchCount := 0) (y_partCount := 0) (y_placesLeft := 0) hp 4 0 rfl
  rw [wt_mx_0, wt_fl_0] at hy
  have hx : ∀ post : Int32 → SX → Prop, post (x_transactions - x_logStart) (x_time, 0, x_wrongAt, x_changeCount, x_transactions, x_logStart, x_snapshotStart, 0, x_tree, x_treeBefore, x_timeouts, (wt_mx 4 (fun j => x_time + x_timeouts j) x_deadlines), x_events, (wt_fl 4 0 x_eventCounts), (wt_fl 16 (-1) x_watchSessions), x_watchKinds, x_watchPaths, x_partKinds, x_partPaths, x_partAs, x_partBs, x_changePaths, x_changeKinds) → wX_crash_2 post x_time x_partCount x_wrongAt x_changeCount x_transactions x_logStart x_snapshotStart x_placesLeft 5 (nI 0) x_tree x_treeBefore x_timeouts (wt_mx 0 (fun j => x_time + x_timeouts j) x_deadlines) x_events (wt_fl 0 0 x_eventCounts) x_watchSessions x_watchKinds x_watchPaths x_partKinds x_partPaths x_partAs x_partBs x_changePaths x_changeKinds := fun post hp => wx_crash_lp hp 4 0 rfl
  rw [wt_mx_0, wt_fl_0] at hx
  refine ⟨5, hx _ ⟨5, hy _ ⟨hN.2.1.symm, ?_⟩⟩⟩
  exact ⟨hT, hI, hV, wt_S_cr hS ht (fun s hs => by rw [wt_mx_at hs, et]) (fun s hs => by rw [wt_mx_at hs, et']), ⟨t, ht, et, et'⟩, wt_E_0 (fun s hs => wt_fl_at hs) (fun s hs => wt_fl_at hs), wt_WR_0 (fun j hj => wt_fl_at hj), ⟨0, by omega, rfl, rfl, fun i hi => absurd hi (Nat.not_lt_zero _)⟩, hw, ⟨hN.1, hN.2.1, rfl, ⟨0, by omega, rfl⟩, fun z => absurd rfl z⟩, hc⟩
theorem i_vc_open {k : Nat} {u : SX} {v : SY} (I : i_Rel k u v) (hk : k + 5 ≤ 2560) (v1 : Int32) : wpX_open (fun r u' => wpY_open (fun r' v' => r' = r ∧ i_Rel (k + 5) u' v') v v1) u v1 := by
  have I' := i_up I
  obtain ⟨x_time, x_partCount, x_wrongAt, x_changeCount, x_transactions, x_logStart, x_snapshotStart, x_placesLeft, x_tree, x_treeBefore, x_timeouts, x_deadlines, x_events, x_eventCounts, x_watchSessions, x_watchKinds, x_watchPaths, x_partKinds, x_partPaths, x_partAs, x_partBs, x_changePaths, x_changeKinds⟩ := u
  obtain ⟨y_time, y_last, y_watchCount, y_partCount, y_wrong, y_changes, y_log, y_since, y_placesLeft, y_paths, y_values, y_open, y_timeouts, y_deadlines, y_events, y_eventCounts, y_watchers, y_watchKinds, y_watchPaths, y_parts, y_happened, y_how⟩ := v
  have I2 := I'
  obtain ⟨hT, hI, hV, hS, ⟨t, ht, et, et'⟩, hE, hW, hP, hw, hN, hc⟩ := I2
  have Y : ∀ post : Int32 → SY → Prop, wY_open_22 post v1 (nI (wt_fs (fun k => decide (y_open k = 0)) 4 0)) y_time y_last y_watchCount y_partCount y_wrong y_changes y_log y_since y_placesLeft y_paths y_values y_open y_timeouts y_deadlines y_events y_eventCounts y_watchers y_watchKinds y_watchPaths y_parts y_happened y_how → wpY_open post (y_time, y_last, y_watchCount, y_partCount, y_wrong, y_changes, y_log, y_since, y_placesLeft, y_paths, y_values, y_open, y_timeouts, y_deadlines, y_events, y_eventCounts, y_watchers, y_watchKinds, y_watchPaths, y_parts, y_happened, y_how) v1 := fun post h => ⟨5, wy_open_lp 4 0 rfl h⟩
  have efs : wt_fs (fun k => decide (x_timeouts k = 0)) 4 0 = wt_fs (fun k => decide (y_open k = 0)) 4 0 := wt_fs_cg 4 0 (fun j _ hj => decide_eq_decide.mpr (wt_S_xt hS (by omega)))
  obtain ⟨_, b1, b2, b3⟩ := wt_fs_spec (fun k => decide (y_open k = 0)) 4 0
  by_cases h1 : v1 < 1
  · exact br_t h1 (Y _ (br_t h1 ⟨rfl, I'⟩))
  · by_cases h2 : v1 ≤ 20
    · have h2' : ¬ 20 < v1 := Int32.not_lt.mpr h2
      obtain ⟨a, a1, a2, rfl⟩ := wt_rng (n := 20) (by decide) h1 h2
      refine br_f h1 (br_t h2 (wx_least ?_))
      rw [efs]
      generalize hF : wt_fs (fun k => decide (y_open k = 0)) 4 0 = f at *
      by_cases hf : f < 4
      · rw [if_pos hf]
        have of : y_open f = 0 := of_decide_eq_true (b2 (by omega))
        have n4 : ¬ nI f = 4 := fun z => by
          have := (nI_eq (a := f) (b := 4) (by omega) (by omega)).mp z
          omega
        have v4 : vp_in (nI f) 4 := vp_in_nI hf (by omega)
        have cf : (nI f).toNatClampNeg = f := nI_clamp (by omega)
        refine br_f (wt_nn (by omega)) ?_
        by_cases hl : y_log < 40
        · refine wx_log_t (by rw [hN.2.1]; exact hl) (br_t rfl ⟨v4, nm_r (wt_ui _ _ cf) ⟨v4, nm_r (e' := upd x_deadlines f (nI (t + a))) (by rw [cf, et, nI_add]) ?_⟩⟩)
          subst hc
          refine wx_finish0 (Y _ (br_f h1 (br_f h2' (br_f n4 (br_t hl (wy_done ⟨v4, nm_r (e' := upd y_open f 1) (by rw [cf]; rfl) ⟨v4, nm_r (wt_ui _ _ cf) ⟨v4, nm_r (e' := upd y_deadlines f (nI (t + a))) (by rw [cf, et', nI_add]) ⟨v4, nm_r (wt_ui _ _ cf) ⟨rfl, ?_⟩⟩⟩⟩⟩))))))
          exact ⟨hT, hI, hV, wt_S_op hS a1 a2 ht, ⟨t, ht, et, et'⟩, wt_E_op hE hf of, wt_WR_op hW, hP, hw, wt_N_s hN, rfl⟩
        · exact wx_log_f (by rw [hN.2.1]; exact hl) (br_f (by decide) (Y _ (br_f h1 (br_f h2' (br_f n4 (br_f hl ⟨rfl, I'⟩))))))
      · have e4 : f = 4 := by omega
        subst e4
        exact br_t rfl (Y _ (br_f h1 (br_f h2' (br_t rfl ⟨rfl, I'⟩))))
    · exact br_f h1 (br_f h2 (Y _ (br_f h1 (br_t (Int32.not_le.mp h2) ⟨rfl, I'⟩))))
