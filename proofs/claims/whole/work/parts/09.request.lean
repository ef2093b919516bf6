theorem wt_num {a b : Nat} (ha : a < 2 ^ 31) : nI a - nI a / 100 * 100 = nI (a % 100) := by
  have e : (100 : Int32) = nI 100 := rfl
  rw [e, pk_rem ha (by decide) (by decide)]
section
variable {x_time x_partCount x_wrongAt x_changeCount x_transactions x_logStart x_snapshotStart x_placesLeft : Int32} {x_tree x_treeBefore x_timeouts x_deadlines x_events x_eventCounts x_watchSessions x_watchKinds x_watchPaths x_partKinds x_partPaths x_partAs x_partBs x_changePaths x_changeKinds : Nat → Int32}
variable {y_time y_last y_watchCount y_partCount y_wrong y_changes y_log y_since y_placesLeft : Int32} {y_paths y_values y_open y_timeouts y_deadlines y_events y_eventCounts y_watchers y_watchKinds y_watchPaths y_parts y_happened y_how : Nat → Int32}
variable {n : Int32}
theorem wt_create {B c fl : Nat} {s d x : Int32} (hT : wt_T x_tree y_paths y_values) (hI : wt_I y_paths y_values) (hV : wt_V B y_values) (hC : wt_C c x_changeKinds x_changePaths y_happened y_how) (hc : c < 20) (hB : B < 2 ^ 30) (hfl : fl < 4) :
    ∃ (r : Int32) (t' p' w' xk' xp' yh' yw' : Nat → Int32) (c' : Nat), (∀ post : Int32 → SX → Prop, post r (x_time, x_partCount, x_wrongAt, (nI c'), n, x_logStart, x_snapshotStart, x_placesLeft, t', x_treeBefore, x_timeouts, x_deadlines, x_events, x_eventCounts, x_watchSessions, x_watchKinds, x_watchPaths, x_partKinds, x_partPaths, x_partAs, x_partBs, xp', xk') → wpX_perform post (x_time, x_partCount, x_wrongAt, (nI c), n, x_logStart, x_snapshotStart, x_placesLeft, x_tree, x_treeBefore, x_timeouts, x_deadlines, x_events, x_eventCounts, x_watchSessions, x_watchKinds, x_watchPaths, x_partKinds, x_partPaths, x_partAs, x_partBs, x_changePaths, x_changeKinds) s 0 x d (nI fl)) ∧ (∀ post : Int32 → SY → Prop, post r (y_time, n, y_watchCount, y_partCount, y_wrong, (nI c'), y_log, y_since, y_placesLeft, p', w', y_open, y_timeouts, y_deadlines, y_events, y_eventCounts, y_watchers, y_watchKinds, y_watchPaths, y_parts, yh', yw') → wpY_request post (y_time, n, y_watchCount, y_partCount, y_wrong, (nI c), y_log, y_since, y_placesLeft, y_paths, y_values, y_open, y_timeouts, y_deadlines, y_events, y_eventCounts, y_watchers, y_watchKinds, y_watchPaths, y_parts, y_happened, y_how) s 0 x d (nI fl) (n + 1)) ∧ wt_O B c y_paths y_values 0 r r t' p' w' xk' xp' yh' yw' c' := by
  by_cases hip : wt_ip x = true
  · obtain ⟨a, ha, rfl⟩ := wt_ip_t hip
    by_cases a0 : a = 0
    · subst a0
      refine ⟨-2, _, _, _, _, _, _, _, _, fun post hp => ?_, fun post hp => ?_, wt_O_f hT hI hV hC (by decide)⟩
      · exact br_f (by decide) (br_f (by decide) (br_t rfl (br_t rfl hp)))
      · unfold wpY_request
        exact wy_isPath_t hip (br_f (by decide) (br_t rfl (br_t rfl hp)))
    · have an : ¬ nI a = 0 := nI_ne0 (by omega) (by omega)
      have ed := wt_d101 (a := a) (by omega)
      by_cases hq : wt_fd y_paths (nI (a / 101)) < 21
      · have hqa := (wt_fd_at hq).1
        generalize hQ : wt_fd y_paths (nI (a / 101)) = q at *
        have xo : x_tree (nI (7 * q) + 5).toNatClampNeg = y_values (6 * q + 5) := (congrArg x_tree (wt_7c q 5 hq (by omega))).trans ((hT q hq).2 5 (by omega))
        have xv : x_tree (nI (7 * q) + 2).toNatClampNeg = y_values (6 * q + 2) := (congrArg x_tree (wt_7c q 2 hq (by omega))).trans ((hT q hq).2 2 (by omega))
        have yo : y_values ((6 : Int32) * nI q + 5).toNatClampNeg = y_values (6 * q + 5) := congrArg y_values (wt_6c q 5 hq (by omega))
        have yv : y_values ((6 : Int32) * nI q + 2).toNatClampNeg = y_values (6 * q + 2) := congrArg y_values (wt_6c q 2 hq (by omega))
        by_cases ho : y_values (6 * q + 5) = -1
        · obtain ⟨v, v1, v2⟩ := hV q hq 2 (Or.inr rfl)
          have ev : y_values (6 * q + 2) - y_values (6 * q + 2) / 100 * 100 = nI (v % 100) := by
            rw [v2]; exact wt_num (b := 0) (by omega)
          have em : nI (a / 101) * 101 + nI (v % 100) + 1 = nI (a / 101 * 101 + v % 100 + 1) := by
            rw [wt_101, pk_mul, nI_add, nI_1]
          by_cases g : nI fl ≤ 1
          · obtain ⟨r, t', p', w', xk', xp', yh', yw', c', hX, hY, hO⟩ := wt_mk (x_time := x_time) (x_partCount := x_partCount) (x_wrongAt := x_wrongAt) (x_logStart := x_logStart) (x_snapshotStart := x_snapshotStart) (x_placesLeft := x_placesLeft) (x_tree := x_tree) (x_treeBefore := x_treeBefore) (x_timeouts := x_timeouts) (x_deadlines := x_deadlines) (x_events := x_events) (x_eventCounts := x_eventCounts) (x_watchSessions := x_watchSessions) (x_watchKinds := x_watchKinds) (x_watchPaths := x_watchPaths) (x_partKinds := x_partKinds) (x_partPaths := x_partPaths) (x_partAs := x_partAs) (x_partBs := x_partBs) (x_changePaths := x_changePaths) (x_changeKinds := x_changeKinds) (y_time := y_time) (y_watchCount := y_watchCount) (y_partCount := y_partCount) (y_wrong := y_wrong) (y_log := y_log) (y_since := y_since) (y_placesLeft := y_placesLeft) (y_paths := y_paths) (y_values := y_values) (y_open := y_open) (y_timeouts := y_timeouts) (y_deadlines := y_deadlines) (y_events := y_events) (y_eventCounts := y_eventCounts) (y_watchers := y_watchers) (y_watchKinds := y_watchKinds) (y_watchPaths := y_watchPaths) (y_parts := y_parts) (y_happened := y_happened) (y_how := y_how) (n := n) (s := s) (d := d) hT hI hV hC hc hq (by omega) ha hqa ho hfl
            refine ⟨r, t', p', w', xk', xp', yh', yw', c', fun post hp => ?_, fun post hp => ?_, hO⟩
            · refine br_f (by decide) (br_f (by decide) (br_t rfl ?_))
              refine br_f an (wx_isPath_t hip (br_f (by decide) ⟨wt_ne101, nm_r ed (wx_find_t hT (by rw [hQ]; exact hq) ?_)⟩))
              rw [hQ]
              refine br_f (wt_nn (by omega)) ⟨wt_7in q 5 hq (by omega), br_t (xo.trans ho) ⟨wt_7in q 2 hq (by omega), wt_ne100, nm_e (br_t ((wt_flag2 fl hfl).mpr g) ?_)⟩⟩
              exact hX _ hp
            · unfold wpY_request
              refine wy_isPath_t hip (br_f (by decide) (br_f an (br_t rfl ⟨wt_ne101, ?_⟩)))
              rw [ed]
              refine wy_find_t (by rw [hQ]; exact hq) ?_
              rw [hQ]
              refine br_t (nI_pos' (by omega)) ⟨wt_6in q 5 hq (by omega), br_t (yo.trans ho) (br_t g ?_)⟩
              exact hY _ hp
          · obtain ⟨r, t', p', w', xk', xp', yh', yw', c', hX, hY, hO⟩ := wt_mk (x_time := x_time) (x_partCount := x_partCount) (x_wrongAt := x_wrongAt) (x_logStart := x_logStart) (x_snapshotStart := x_snapshotStart) (x_placesLeft := x_placesLeft) (x_tree := x_tree) (x_treeBefore := x_treeBefore) (x_timeouts := x_timeouts) (x_deadlines := x_deadlines) (x_events := x_events) (x_eventCounts := x_eventCounts) (x_watchSessions := x_watchSessions) (x_watchKinds := x_watchKinds) (x_watchPaths := x_watchPaths) (x_partKinds := x_partKinds) (x_partPaths := x_partPaths) (x_partAs := x_partAs) (x_partBs := x_partBs) (x_changePaths := x_changePaths) (x_changeKinds := x_changeKinds) (y_time := y_time) (y_watchCount := y_watchCount) (y_partCount := y_partCount) (y_wrong := y_wrong) (y_log := y_log) (y_since := y_since) (y_placesLeft := y_placesLeft) (y_paths := y_paths) (y_values := y_values) (y_open := y_open) (y_timeouts := y_timeouts) (y_deadlines := y_deadlines) (y_events := y_events) (y_eventCounts := y_eventCounts) (y_watchers := y_watchers) (y_watchKinds := y_watchKinds) (y_watchPaths := y_watchPaths) (y_parts := y_parts) (y_happened := y_happened) (y_how := y_how) (n := n) (s := s) (d := d) (a := a / 101 * 101 + v % 100 + 1) hT hI hV hC hc hq (by omega) (by omega) (by rw [hqa]; exact congrArg nI (by omega)) ho hfl
            refine ⟨r, t', p', w', xk', xp', yh', yw', c', fun post hp => ?_, fun post hp => ?_, hO⟩
            · refine br_f (by decide) (br_f (by decide) (br_t rfl ?_))
              refine br_f an (wx_isPath_t hip (br_f (by decide) ⟨wt_ne101, nm_r ed (wx_find_t hT (by rw [hQ]; exact hq) ?_)⟩))
              rw [hQ]
              refine br_f (wt_nn (by omega)) ⟨wt_7in q 5 hq (by omega), br_t (xo.trans ho) ⟨wt_7in q 2 hq (by omega), wt_ne100, nm_r (e' := nI (v % 100)) (by rw [xv]; exact ev) (br_f (fun z => g ((wt_flag2 fl hfl).mp z)) ?_)⟩⟩
              rw [em]
              exact hX _ hp
            · unfold wpY_request
              refine wy_isPath_t hip (br_f (by decide) (br_f an (br_t rfl ⟨wt_ne101, ?_⟩)))
              rw [ed]
              refine wy_find_t (by rw [hQ]; exact hq) ?_
              rw [hQ]
              refine br_t (nI_pos' (by omega)) ⟨wt_6in q 5 hq (by omega), br_t (yo.trans ho) (br_f g ⟨wt_ne101, wt_6in q 2 hq (by omega), wt_ne100, ?_⟩)⟩
              rw [yv, ev, em]
              exact hY _ hp
        · refine ⟨-4, _, _, _, _, _, _, _, _, fun post hp => ?_, fun post hp => ?_, wt_O_f hT hI hV hC (by decide)⟩
          · refine br_f (by decide) (br_f (by decide) (br_t rfl ?_))
            refine br_f an (wx_isPath_t hip (br_f (by decide) ⟨wt_ne101, nm_r ed (wx_find_t hT (by rw [hQ]; exact hq) ?_)⟩))
            rw [hQ]
            exact br_f (wt_nn (by omega)) ⟨wt_7in q 5 hq (by omega), br_f (fun z => ho (xo.symm.trans z)) hp⟩
          · unfold wpY_request
            refine wy_isPath_t hip (br_f (by decide) (br_f an (br_t rfl ⟨wt_ne101, ?_⟩)))
            rw [ed]
            refine wy_find_t (by rw [hQ]; exact hq) ?_
            rw [hQ]
            exact br_t (nI_pos' (by omega)) ⟨wt_6in q 5 hq (by omega), br_f (fun z => ho (yo.symm.trans z)) hp⟩
      · refine ⟨-3, _, _, _, _, _, _, _, _, fun post hp => ?_, fun post hp => ?_, wt_O_f hT hI hV hC (by decide)⟩
        · refine br_f (by decide) (br_f (by decide) (br_t rfl ?_))
          exact br_f an (wx_isPath_t hip (br_f (by decide) ⟨wt_ne101, nm_r ed (wx_find_f hT hq (br_t rfl hp))⟩))
        · unfold wpY_request
          refine wy_isPath_t hip (br_f (by decide) (br_f an (br_t rfl ⟨wt_ne101, ?_⟩)))
          rw [ed]
          exact wy_find_f hq (br_f (by decide) hp)
  · refine ⟨-2, _, _, _, _, _, _, _, _, fun post hp => ?_, fun post hp => ?_, wt_O_f hT hI hV hC (by decide)⟩
    · exact br_f (by decide) (br_f (by decide) (br_t rfl (br_c (fun _ => hp) (fun _ => wx_isPath_f hip (br_t rfl hp)))))
    · unfold wpY_request
      exact wy_isPath_f hip (br_t rfl hp)
/-- findWithVersion -/
theorem wx_fv_np {post : Int32 → Prop} {x b : Int32} (hip : ¬ wt_ip x = true) (hp : post (-2)) : wpX_findWithVersion post (x_time, x_partCount, x_wrongAt, x_changeCount, x_transactions, x_logStart, x_snapshotStart, x_placesLeft, x_tree, x_treeBefore, x_timeouts, x_deadlines, x_events, x_eventCounts, x_watchSessions, x_watchKinds, x_watchPaths, x_partKinds, x_partPaths, x_partAs, x_partBs, x_changePaths, x_changeKinds) x b := by
  unfold wpX_findWithVersion
  exact wx_isPath_f hip (br_t rfl hp)
theorem wx_fv_nn {post : Int32 → Prop} {p w : Nat → Int32} {x b : Int32} (hT : wt_T x_tree p w) (hip : wt_ip x = true) (hq : ¬ wt_fd p x < 21) (hp : post (-3)) : wpX_findWithVersion post (x_time, x_partCount, x_wrongAt, x_changeCount, x_transactions, x_logStart, x_snapshotStart, x_placesLeft, x_tree, x_treeBefore, x_timeouts, x_deadlines, x_events, x_eventCounts, x_watchSessions, x_watchKinds, x_watchPaths, x_partKinds, x_partPaths, x_partAs, x_partBs, x_changePaths, x_changeKinds) x b := by
  unfold wpX_findWithVersion
  exact wx_isPath_t hip (br_f (by decide) (wx_find_f hT hq (br_t rfl hp)))
theorem wx_fv_v {post : Int32 → Prop} {p w : Nat → Int32} {x b : Int32} (hT : wt_T x_tree p w) (hip : wt_ip x = true) (hq : wt_fd p x < 21) (h1 : ¬ b = -1) (h2 : ¬ b = w (6 * wt_fd p x + 1)) (hp : post (-7)) : wpX_findWithVersion post (x_time, x_partCount, x_wrongAt, x_changeCount, x_transactions, x_logStart, x_snapshotStart, x_placesLeft, x_tree, x_treeBefore, x_timeouts, x_deadlines, x_events, x_eventCounts, x_watchSessions, x_watchKinds, x_watchPaths, x_partKinds, x_partPaths, x_partAs, x_partBs, x_changePaths, x_changeKinds) x b := by
  unfold wpX_findWithVersion
  have xv : x_tree (nI (7 * wt_fd p x) + 1).toNatClampNeg = w (6 * wt_fd p x + 1) := (congrArg x_tree (wt_7c _ 1 hq (by omega))).trans ((hT _ hq).2 1 (by omega))
  refine wx_isPath_t hip (br_f (by decide) (wx_find_t hT hq (br_f (wt_nn (by omega)) (br_f h1 ⟨wt_7in _ 1 hq (by omega), br_f (fun z => h2 (z.trans xv)) hp⟩))))
theorem wx_fv_ok {post : Int32 → Prop} {p w : Nat → Int32} {x b : Int32} (hT : wt_T x_tree p w) (hip : wt_ip x = true) (hq : wt_fd p x < 21) (h : b = -1 ∨ b = w (6 * wt_fd p x + 1)) (hp : post (nI (7 * wt_fd p x))) : wpX_findWithVersion post (x_time, x_partCount, x_wrongAt, x_changeCount, x_transactions, x_logStart, x_snapshotStart, x_placesLeft, x_tree, x_treeBefore, x_timeouts, x_deadlines, x_events, x_eventCounts, x_watchSessions, x_watchKinds, x_watchPaths, x_partKinds, x_partPaths, x_partAs, x_partBs, x_changePaths, x_changeKinds) x b := by
  unfold wpX_findWithVersion
  have xv : x_tree (nI (7 * wt_fd p x) + 1).toNatClampNeg = w (6 * wt_fd p x + 1) := (congrArg x_tree (wt_7c _ 1 hq (by omega))).trans ((hT _ hq).2 1 (by omega))
  refine wx_isPath_t hip (br_f (by decide) (wx_find_t hT hq (br_f (wt_nn (by omega)) (br_c (fun _ => hp) (fun z => ⟨wt_7in _ 1 hq (by omega), br_t ?_ hp⟩)))))
  rcases h with h | h
  · exact absurd h z
  · exact h.trans xv.symm
end
