section
variable {x_time x_partCount x_wrongAt x_changeCount x_transactions x_logStart x_snapshotStart x_placesLeft : Int32} {x_tree x_treeBefore x_timeouts x_deadlines x_events x_eventCounts x_watchSessions x_watchKinds x_watchPaths x_partKinds x_partPaths x_partAs x_partBs x_changePaths x_changeKinds : Nat → Int32}
variable {y_time y_last y_watchCount y_partCount y_wrong y_changes y_log y_since y_placesLeft : Int32} {y_paths y_values y_open y_timeouts y_deadlines y_events y_eventCounts y_watchers y_watchKinds y_watchPaths y_parts y_happened y_how : Nat → Int32}
theorem wt_single {B s : Nat} {kd x d b : Int32} (hs : s < 4) (hx : ¬ x_timeouts s = 0) (hk3 : ¬ kd = 3) (hR : wt_R B (x_time, x_partCount, x_wrongAt, x_changeCount, x_transactions, x_logStart, x_snapshotStart, x_placesLeft, x_tree, x_treeBefore, x_timeouts, x_deadlines, x_events, x_eventCounts, x_watchSessions, x_watchKinds, x_watchPaths, x_partKinds, x_partPaths, x_partAs, x_partBs, x_changePaths, x_changeKinds) (y_time, y_last, y_watchCount, y_partCount, y_wrong, y_changes, y_log, y_since, y_placesLeft, y_paths, y_values, y_open, y_timeouts, y_deadlines, y_events, y_eventCounts, y_watchers, y_watchKinds, y_watchPaths, y_parts, y_happened, y_how))
    (H : ∃ (r : Int32) (t' p' w' xk' xp' yh' yw' : Nat → Int32) (c' : Nat), (∀ post : Int32 → SX → Prop, post r (x_time, x_partCount, x_wrongAt, (nI c'), y_last, x_logStart, x_snapshotStart, x_placesLeft, t', x_treeBefore, x_timeouts, x_deadlines, x_events, x_eventCounts, x_watchSessions, x_watchKinds, x_watchPaths, x_partKinds, x_partPaths, x_partAs, x_partBs, xp', xk') → wpX_perform post (x_time, x_partCount, x_wrongAt, (nI 0), y_last, x_logStart, x_snapshotStart, x_placesLeft, x_tree, x_treeBefore, x_timeouts, x_deadlines, x_events, x_eventCounts, x_watchSessions, x_watchKinds, x_watchPaths, x_partKinds, x_partPaths, x_partAs, x_partBs, x_changePaths, x_changeKinds) (nI s) kd x d b) ∧ (∀ post : Int32 → SY → Prop, post r (y_time, y_last, y_watchCount, y_partCount, y_wrong, (nI c'), y_log, y_since, y_placesLeft, p', w', y_open, y_timeouts, y_deadlines, y_events, y_eventCounts, y_watchers, y_watchKinds, y_watchPaths, y_parts, yh', yw') → wpY_request post (y_time, y_last, y_watchCount, y_partCount, y_wrong, (nI 0), y_log, y_since, y_placesLeft, y_paths, y_values, y_open, y_timeouts, y_deadlines, y_events, y_eventCounts, y_watchers, y_watchKinds, y_watchPaths, y_parts, y_happened, y_how) (nI s) kd x d b (y_last + 1)) ∧ wt_O B 0 y_paths y_values kd r r t' p' w' xk' xp' yh' yw' c') :
    ∃ (r : Int32) (u' : SX) (v' : SY), (∀ post : Int32 → SX → Prop, post r u' → wpX_single post (x_time, x_partCount, x_wrongAt, x_changeCount, x_transactions, x_logStart, x_snapshotStart, x_placesLeft, x_tree, x_treeBefore, x_timeouts, x_deadlines, x_events, x_eventCounts, x_watchSessions, x_watchKinds, x_watchPaths, x_partKinds, x_partPaths, x_partAs, x_partBs, x_changePaths, x_changeKinds) (nI s) kd x d b) ∧ (∀ post : Int32 → SY → Prop, post r v' → wpY_single post (y_time, y_last, y_watchCount, y_partCount, y_wrong, y_changes, y_log, y_since, y_placesLeft, y_paths, y_values, y_open, y_timeouts, y_deadlines, y_events, y_eventCounts, y_watchers, y_watchKinds, y_watchPaths, y_parts, y_happened, y_how) (nI s) kd x d b) ∧ wt_R (B + 1) u' v' := by
  have hRu := wt_R_up hR (C := B + 1) (by omega)
  obtain ⟨hT, hI, hV, hS, hti, hE, hW, hP, hw, hN, hc⟩ := hRu
  have hc0 : x_changeCount = nI 0 := hc
  subst hc0
  have hn := hN.1
  subst hn
  obtain ⟨r, t', p', w', xk', xp', yh', yw', c', hX, hY, hO⟩ := H
  by_cases hl : y_log < 40
  · have hlx : x_transactions - x_logStart < 40 := by rw [hN.2.1]; exact hl
    obtain ⟨o1, o2, o3, o4, _, _, o5⟩ := hO
    rcases o5 with ⟨q1, _, q2⟩ | ⟨q1, _, _, _⟩
    · subst q2
      refine ⟨r, (x_time, x_partCount, x_wrongAt, 0, x_transactions, x_logStart, x_snapshotStart, x_placesLeft, t', x_treeBefore, x_timeouts, x_deadlines, x_events, x_eventCounts, x_watchSessions, x_watchKinds, x_watchPaths, x_partKinds, x_partPaths, x_partAs, x_partBs, xp', xk'), (y_time, x_transactions, y_watchCount, y_partCount, y_wrong, 0, y_log, y_since, y_placesLeft, p', w', y_open, y_timeouts, y_deadlines, y_events, y_eventCounts, y_watchers, y_watchKinds, y_watchPaths, y_parts, yh', yw'), fun post hp => ?_, fun post hp => ?_, ?_⟩
      · unfold wpX_single
        exact wx_open_t hs hx (br_f (by decide) (wx_log_t hlx (br_t rfl (hX _ (br_t q1 hp)))))
      · exact br_t hl (hY _ (br_t q1 hp))
      · exact ⟨o1, o2, o3, hS, hti, hE, hW, hP, hw, hN, rfl⟩
    · obtain ⟨ws', ev', ec', yev', yec', ya', yk', yp', wc', hXf, hYf, R1, R2⟩ := wt_finish (x_time := x_time) (x_partCount := x_partCount) (x_wrongAt := x_wrongAt) (x_logStart := x_logStart) (x_snapshotStart := x_snapshotStart) (x_placesLeft := x_placesLeft) (x_treeBefore := x_treeBefore) (x_timeouts := x_timeouts) (x_deadlines := x_deadlines) (x_watchKinds := x_watchKinds) (x_watchPaths := x_watchPaths) (x_partKinds := x_partKinds) (x_partPaths := x_partPaths) (x_partAs := x_partAs) (x_partBs := x_partBs) (x_tree := t') (x_changeKinds := xk') (x_changePaths := xp') (y_time := y_time) (y_partCount := y_partCount) (y_wrong := y_wrong) (y_placesLeft := y_placesLeft) (y_open := y_open) (y_timeouts := y_timeouts) (y_deadlines := y_deadlines) (y_parts := y_parts) (y_paths := p') (y_values := w') (y_happened := yh') (y_how := yw') (y_last := x_transactions + 1) (y_log := y_log + 1) (y_since := y_since + 1) (n := x_transactions) o4 hW hE
      refine ⟨r, (x_time, x_partCount, x_wrongAt, 0, (x_transactions + 1), x_logStart, x_snapshotStart, x_placesLeft, t', x_treeBefore, x_timeouts, x_deadlines, ev', ec', ws', x_watchKinds, x_watchPaths, x_partKinds, x_partPaths, x_partAs, x_partBs, xp', xk'), (y_time, (x_transactions + 1), wc', y_partCount, y_wrong, (nI c'), (y_log + 1), (y_since + 1), y_placesLeft, p', w', y_open, y_timeouts, y_deadlines, yev', yec', ya', yk', yp', y_parts, yh', yw'), fun post hp => ?_, fun post hp => ?_, ?_⟩
      · unfold wpX_single
        exact wx_open_t hs hx (br_f (by decide) (wx_log_t hlx (br_t rfl (hX _ (br_f q1 (hXf _ hp))))))
      · exact br_t hl (hY _ (br_f q1 (wy_done (hYf _ hp))))
      · exact ⟨o1, o2, o3, hS, hti, R2, R1, hP, hw, wt_N_s hN, rfl⟩
  · have hlx : ¬ x_transactions - x_logStart < 40 := by rw [hN.2.1]; exact hl
    refine ⟨-9, (x_time, x_partCount, x_wrongAt, 0, x_transactions, x_logStart, x_snapshotStart, x_placesLeft, x_tree, x_treeBefore, x_timeouts, x_deadlines, x_events, x_eventCounts, x_watchSessions, x_watchKinds, x_watchPaths, x_partKinds, x_partPaths, x_partAs, x_partBs, x_changePaths, x_changeKinds), (y_time, x_transactions, y_watchCount, y_partCount, y_wrong, y_changes, y_log, y_since, y_placesLeft, y_paths, y_values, y_open, y_timeouts, y_deadlines, y_events, y_eventCounts, y_watchers, y_watchKinds, y_watchPaths, y_parts, y_happened, y_how), fun post hp => ?_, fun post hp => ?_, ?_⟩
    · unfold wpX_single
      exact wx_open_t hs hx (br_f (by decide) (wx_log_f hlx (br_f (by decide) hp)))
    · exact br_f hl hp
    · exact ⟨hT, hI, hV, hS, hti, hE, hW, hP, hw, hN, rfl⟩
theorem wx_single_f {post : Int32 → SX → Prop} {v kd x d b : Int32} (hx : ∀ s, s < 4 → v = nI s → x_timeouts s = 0) (hp : post (-1) (x_time, x_partCount, x_wrongAt, x_changeCount, x_transactions, x_logStart, x_snapshotStart, x_placesLeft, x_tree, x_treeBefore, x_timeouts, x_deadlines, x_events, x_eventCounts, x_watchSessions, x_watchKinds, x_watchPaths, x_partKinds, x_partPaths, x_partAs, x_partBs, x_changePaths, x_changeKinds)) : wpX_single post (x_time, x_partCount, x_wrongAt, x_changeCount, x_transactions, x_logStart, x_snapshotStart, x_placesLeft, x_tree, x_treeBefore, x_timeouts, x_deadlines, x_events, x_eventCounts, x_watchSessions, x_watchKinds, x_watchPaths, x_partKinds, x_partPaths, x_partAs, x_partBs, x_changePaths, x_changeKinds) v kd x d b := by
  unfold wpX_single
  exact wx_open_f hx (br_t rfl hp)
end
theorem i_vc_create {k : Nat} {u : SX} {v : SY} (I : i_Rel k u v) (hk : k + 5 ≤ 2560) (v1 : Int32) (v2 : Int32) (v3 : Int32) (v4 : Int32) : wpX_create (fun r u' => wpY_create (fun r' v' => r' = r ∧ i_Rel (k + 5) u' v') v v1 v2 v3 v4) u v1 v2 v3 v4 := by
  have I' := i_up I
  obtain ⟨x_time, x_partCount, x_wrongAt, x_changeCount, x_transactions, x_logStart, x_snapshotStart, x_placesLeft, x_tree, x_treeBefore, x_timeouts, x_deadlines, x_events, x_eventCounts, x_watchSessions, x_watchKinds, x_watchPaths, x_partKinds, x_partPaths, x_partAs, x_partBs, x_changePaths, x_changeKinds⟩ := u
  obtain ⟨y_time, y_last, y_watchCount, y_partCount, y_wrong, y_changes, y_log, y_since, y_placesLeft, y_paths, y_values, y_open, y_timeouts, y_deadlines, y_events, y_eventCounts, y_watchers, y_watchKinds, y_watchPaths, y_parts, y_happened, y_how⟩ := v
  have I2 := I
  obtain ⟨hT, hI, hV, hS, hti, hE, hW, hP, hw, hN, hc⟩ := I2
  unfold wpX_create wpY_create
  by_cases hf : ∃ f, f ≤ 3 ∧ v4 = nI f
  · obtain ⟨f, f1, rfl⟩ := hf
    have fp : ¬ nI f < 0 := nI_pos (by omega)
    have fl : nI f ≤ 3 := nI_le (b := 3) f1 (by omega)
    refine wx_flags_t f1 (br_f (by decide) ?_)
    rcases wt_cases hS v1 with ⟨s, hs, rfl, ho, hx⟩ | ⟨hx, hy⟩
    · obtain ⟨r, u', v', hX, hY, hR⟩ := wt_single (kd := 0) (x := v2) (d := v3) (b := nI f) hs hx (by decide) I (wt_create (c := 0) hT hI hV (wt_C_0 _ _ _ _) (by omega) (by omega) (by omega))
      obtain ⟨x_time, x_partCount, x_wrongAt, x_changeCount, x_transactions, x_logStart, x_snapshotStart, x_placesLeft, x_tree, x_treeBefore, x_timeouts, x_deadlines, x_events, x_eventCounts, x_watchSessions, x_watchKinds, x_watchPaths, x_partKinds, x_partPaths, x_partAs, x_partBs, x_changePaths, x_changeKinds⟩ := u'
      obtain ⟨y_time, y_last, y_watchCount, y_partCount, y_wrong, y_changes, y_log, y_since, y_placesLeft, y_paths, y_values, y_open, y_timeouts, y_deadlines, y_events, y_eventCounts, y_watchers, y_watchKinds, y_watchPaths, y_parts, y_happened, y_how⟩ := v'
      exact hX _ (wy_open_t hs ho (br_f (by decide) (br_f fp (br_t fl (hY _ ⟨rfl, wt_R_up hR (by omega)⟩)))))
    · exact wx_single_f hx (wy_open_f hy (br_t rfl ⟨rfl, I'⟩))
  · refine wx_flags_f (fun f f1 f2 => hf ⟨f, f1, f2⟩) (br_t rfl ?_)
    have nf : ¬ v4 < 0 → ¬ v4 ≤ 3 := fun z y => by
      obtain ⟨f, f1, f2⟩ := nI_of2 (M := 3) (n := 3) (by decide) z y
      exact hf ⟨f, f1, f2⟩
    rcases wt_cases hS v1 with ⟨s, hs, rfl, ho, hx⟩ | ⟨hx, hy⟩
    · exact wy_open_t hs ho (br_f (by decide) (br_c (fun _ => ⟨rfl, I'⟩) (fun z => br_f (nf z) ⟨rfl, I'⟩)))
    · exact wy_open_f hy (br_t rfl ⟨rfl, I'⟩)
theorem i_vc_set {k : Nat} {u : SX} {v : SY} (I : i_Rel k u v) (hk : k + 5 ≤ 2560) (v1 : Int32) (v2 : Int32) (v3 : Int32) (v4 : Int32) : wpX_set (fun r u' => wpY_set (fun r' v' => r' = r ∧ i_Rel (k + 5) u' v') v v1 v2 v3 v4) u v1 v2 v3 v4 := by
  have I' := i_up I
  obtain ⟨x_time, x_partCount, x_wrongAt, x_changeCount, x_transactions, x_logStart, x_snapshotStart, x_placesLeft, x_tree, x_treeBefore, x_timeouts, x_deadlines, x_events, x_eventCounts, x_watchSessions, x_watchKinds, x_watchPaths, x_partKinds, x_partPaths, x_partAs, x_partBs, x_changePaths, x_changeKinds⟩ := u
  obtain ⟨y_time, y_last, y_watchCount, y_partCount, y_wrong, y_changes, y_log, y_since, y_placesLeft, y_paths, y_values, y_open, y_timeouts, y_deadlines, y_events, y_eventCounts, y_watchers, y_watchKinds, y_watchPaths, y_parts, y_happened, y_how⟩ := v
  have I2 := I
  obtain ⟨hT, hI, hV, hS, hti, hE, hW, hP, hw, hN, hc⟩ := I2
  unfold wpX_set wpY_set
  rcases wt_cases hS v1 with ⟨s, hs, rfl, ho, hx⟩ | ⟨hx, hy⟩
  · obtain ⟨r, u', v', hX, hY, hR⟩ := wt_single (kd := 1) (x := v2) (d := v3) (b := v4) hs hx (by decide) I (wt_set (c := 0) hT hI hV (wt_C_0 _ _ _ _) (by omega) (by omega))
    obtain ⟨x_time, x_partCount, x_wrongAt, x_changeCount, x_transactions, x_logStart, x_snapshotStart, x_placesLeft, x_tree, x_treeBefore, x_timeouts, x_deadlines, x_events, x_eventCounts, x_watchSessions, x_watchKinds, x_watchPaths, x_partKinds, x_partPaths, x_partAs, x_partBs, x_changePaths, x_changeKinds⟩ := u'
    obtain ⟨y_time, y_last, y_watchCount, y_partCount, y_wrong, y_changes, y_log, y_since, y_placesLeft, y_paths, y_values, y_open, y_timeouts, y_deadlines, y_events, y_eventCounts, y_watchers, y_watchKinds, y_watchPaths, y_parts, y_happened, y_how⟩ := v'
    exact hX _ (wy_open_t hs ho (br_f (by decide) (hY _ ⟨rfl, wt_R_up hR (by omega)⟩)))
  · exact wx_single_f hx (wy_open_f hy (br_t rfl ⟨rfl, I'⟩))
theorem i_vc_remove {k : Nat} {u : SX} {v : SY} (I : i_Rel k u v) (hk : k + 5 ≤ 2560) (v1 : Int32) (v2 : Int32) (v3 : Int32) : wpX_remove (fun r u' => wpY_remove (fun r' v' => r' = r ∧ i_Rel (k + 5) u' v') v v1 v2 v3) u v1 v2 v3 := by
  have I' := i_up I
  obtain ⟨x_time, x_partCount, x_wrongAt, x_changeCount, x_transactions, x_logStart, x_snapshotStart, x_placesLeft, x_tree, x_treeBefore, x_timeouts, x_deadlines, x_events, x_eventCounts, x_watchSessions, x_watchKinds, x_watchPaths, x_partKinds, x_partPaths, x_partAs, x_partBs, x_changePaths, x_changeKinds⟩ := u
  obtain ⟨y_time, y_last, y_watchCount, y_partCount, y_wrong, y_changes, y_log, y_since, y_placesLeft, y_paths, y_values, y_open, y_timeouts, y_deadlines, y_events, y_eventCounts, y_watchers, y_watchKinds, y_watchPaths, y_parts, y_happened, y_how⟩ := v
  have I2 := I
  obtain ⟨hT, hI, hV, hS, hti, hE, hW, hP, hw, hN, hc⟩ := I2
  unfold wpX_remove wpY_remove
  rcases wt_cases hS v1 with ⟨s, hs, rfl, ho, hx⟩ | ⟨hx, hy⟩
  · obtain ⟨r, u', v', hX, hY, hR⟩ := wt_single (kd := 2) (x := v2) (d := 0) (b := v3) hs hx (by decide) I (wt_remove (c := 0) hT hI hV (wt_C_0 _ _ _ _) (by omega) (by omega))
    obtain ⟨x_time, x_partCount, x_wrongAt, x_changeCount, x_transactions, x_logStart, x_snapshotStart, x_placesLeft, x_tree, x_treeBefore, x_timeouts, x_deadlines, x_events, x_eventCounts, x_watchSessions, x_watchKinds, x_watchPaths, x_partKinds, x_partPaths, x_partAs, x_partBs, x_changePaths, x_changeKinds⟩ := u'
    obtain ⟨y_time, y_last, y_watchCount, y_partCount, y_wrong, y_changes, y_log, y_since, y_placesLeft, y_paths, y_values, y_open, y_timeouts, y_deadlines, y_events, y_eventCounts, y_watchers, y_watchKinds, y_watchPaths, y_parts, y_happened, y_how⟩ := v'
    exact hX _ (wy_open_t hs ho (br_f (by decide) (hY _ ⟨rfl, wt_R_up hR (by omega)⟩)))
  · exact wx_single_f hx (wy_open_f hy (br_t rfl ⟨rfl, I'⟩))
