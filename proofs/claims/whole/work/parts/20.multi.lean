section
variable {x_time x_partCount x_wrongAt x_changeCount x_transactions x_logStart x_snapshotStart x_placesLeft : Int32} {x_tree x_treeBefore x_timeouts x_deadlines x_events x_eventCounts x_watchSessions x_watchKinds x_watchPaths x_partKinds x_partPaths x_partAs x_partBs x_changePaths x_changeKinds : Nat → Int32}
variable {y_time y_last y_watchCount y_partCount y_wrong y_changes y_log y_since y_placesLeft : Int32} {y_paths y_values y_open y_timeouts y_deadlines y_events y_eventCounts y_watchers y_watchKinds y_watchPaths y_parts y_happened y_how : Nat → Int32}
variable {n : Int32}
/-- a request of any kind -/
theorem wt_req {B c b : Nat} {s d x fl : Int32} (hb : b ≤ 3) (hf : b = 0 → ∃ f, f ≤ 3 ∧ fl = nI f) (hT : wt_T x_tree y_paths y_values) (hI : wt_I y_paths y_values) (hV : wt_V B y_values) (hC : wt_C c x_changeKinds x_changePaths y_happened y_how) (hc : c < 20) (hB : B < 2 ^ 30) :
    ∃ (r r' : Int32) (t' p' w' xk' xp' yh' yw' : Nat → Int32) (c' : Nat), (∀ post : Int32 → SX → Prop, post r (x_time, x_partCount, x_wrongAt, (nI c'), n, x_logStart, x_snapshotStart, x_placesLeft, t', x_treeBefore, x_timeouts, x_deadlines, x_events, x_eventCounts, x_watchSessions, x_watchKinds, x_watchPaths, x_partKinds, x_partPaths, x_partAs, x_partBs, xp', xk') → wpX_perform post (x_time, x_partCount, x_wrongAt, (nI c), n, x_logStart, x_snapshotStart, x_placesLeft, x_tree, x_treeBefore, x_timeouts, x_deadlines, x_events, x_eventCounts, x_watchSessions, x_watchKinds, x_watchPaths, x_partKinds, x_partPaths, x_partAs, x_partBs, x_changePaths, x_changeKinds) s (nI b) x d fl) ∧ (∀ post : Int32 → SY → Prop, post r' (y_time, n, y_watchCount, y_partCount, y_wrong, (nI c'), y_log, y_since, y_placesLeft, p', w', y_open, y_timeouts, y_deadlines, y_events, y_eventCounts, y_watchers, y_watchKinds, y_watchPaths, y_parts, yh', yw') → wpY_request post (y_time, n, y_watchCount, y_partCount, y_wrong, (nI c), y_log, y_since, y_placesLeft, y_paths, y_values, y_open, y_timeouts, y_deadlines, y_events, y_eventCounts, y_watchers, y_watchKinds, y_watchPaths, y_parts, y_happened, y_how) s (nI b) x d fl (n + 1)) ∧ wt_O B c y_paths y_values (nI b) r r' t' p' w' xk' xp' yh' yw' c' := by
  by_cases b0 : b = 0
  · subst b0
    obtain ⟨f, f1, rfl⟩ := hf rfl
    obtain ⟨r, t', p', w', xk', xp', yh', yw', c', hX, hY, hO⟩ := wt_create (x_time := x_time) (x_partCount := x_partCount) (x_wrongAt := x_wrongAt) (x_logStart := x_logStart) (x_snapshotStart := x_snapshotStart) (x_placesLeft := x_placesLeft) (x_tree := x_tree) (x_treeBefore := x_treeBefore) (x_timeouts := x_timeouts) (x_deadlines := x_deadlines) (x_events := x_events) (x_eventCounts := x_eventCounts) (x_watchSessions := x_watchSessions) (x_watchKinds := x_watchKinds) (x_watchPaths := x_watchPaths) (x_partKinds := x_partKinds) (x_partPaths := x_partPaths) (x_partAs := x_partAs) (x_partBs := x_partBs) (x_changePaths := x_changePaths) (x_changeKinds := x_changeKinds) (y_time := y_time) (y_watchCount := y_watchCount) (y_partCount := y_partCount) (y_wrong := y_wrong) (y_log := y_log) (y_since := y_since) (y_placesLeft := y_placesLeft) (y_paths := y_paths) (y_values := y_values) (y_open := y_open) (y_timeouts := y_timeouts) (y_deadlines := y_deadlines) (y_events := y_events) (y_eventCounts := y_eventCounts) (y_watchers := y_watchers) (y_watchKinds := y_watchKinds) (y_watchPaths := y_watchPaths) (y_parts := y_parts) (y_happened := y_happened) (y_how := y_how) (n := n) (s := s) (d := d) (x := x) hT hI hV hC hc hB (fl := f) (by omega)
    exact ⟨r, r, t', p', w', xk', xp', yh', yw', c', hX, hY, hO⟩
  · by_cases b1 : b = 1
    · subst b1
      obtain ⟨r, t', p', w', xk', xp', yh', yw', c', hX, hY, hO⟩ := wt_set (x_time := x_time) (x_partCount := x_partCount) (x_wrongAt := x_wrongAt) (x_logStart := x_logStart) (x_snapshotStart := x_snapshotStart) (x_placesLeft := x_placesLeft) (x_tree := x_tree) (x_treeBefore := x_treeBefore) (x_timeouts := x_timeouts) (x_deadlines := x_deadlines) (x_events := x_events) (x_eventCounts := x_eventCounts) (x_watchSessions := x_watchSessions) (x_watchKinds := x_watchKinds) (x_watchPaths := x_watchPaths) (x_partKinds := x_partKinds) (x_partPaths := x_partPaths) (x_partAs := x_partAs) (x_partBs := x_partBs) (x_changePaths := x_changePaths) (x_changeKinds := x_changeKinds) (y_time := y_time) (y_watchCount := y_watchCount) (y_partCount := y_partCount) (y_wrong := y_wrong) (y_log := y_log) (y_since := y_since) (y_placesLeft := y_placesLeft) (y_paths := y_paths) (y_values := y_values) (y_open := y_open) (y_timeouts := y_timeouts) (y_deadlines := y_deadlines) (y_events := y_events) (y_eventCounts := y_eventCounts) (y_watchers := y_watchers) (y_watchKinds := y_watchKinds) (y_watchPaths := y_watchPaths) (y_parts := y_parts) (y_happened := y_happened) (y_how := y_how) (n := n) (s := s) (d := d) (x := x) (b := fl) hT hI hV hC hc hB
      exact ⟨r, r, t', p', w', xk', xp', yh', yw', c', hX, hY, hO⟩
    · by_cases b2 : b = 2
      · subst b2
        obtain ⟨r, t', p', w', xk', xp', yh', yw', c', hX, hY, hO⟩ := wt_remove (x_time := x_time) (x_partCount := x_partCount) (x_wrongAt := x_wrongAt) (x_logStart := x_logStart) (x_snapshotStart := x_snapshotStart) (x_placesLeft := x_placesLeft) (x_tree := x_tree) (x_treeBefore := x_treeBefore) (x_timeouts := x_timeouts) (x_deadlines := x_deadlines) (x_events := x_events) (x_eventCounts := x_eventCounts) (x_watchSessions := x_watchSessions) (x_watchKinds := x_watchKinds) (x_watchPaths := x_watchPaths) (x_partKinds := x_partKinds) (x_partPaths := x_partPaths) (x_partAs := x_partAs) (x_partBs := x_partBs) (x_changePaths := x_changePaths) (x_changeKinds := x_changeKinds) (y_time := y_time) (y_watchCount := y_watchCount) (y_partCount := y_partCount) (y_wrong := y_wrong) (y_log := y_log) (y_since := y_since) (y_placesLeft := y_placesLeft) (y_paths := y_paths) (y_values := y_values) (y_open := y_open) (y_timeouts := y_timeouts) (y_deadlines := y_deadlines) (y_events := y_events) (y_eventCounts := y_eventCounts) (y_watchers := y_watchers) (y_watchKinds := y_watchKinds) (y_watchPaths := y_watchPaths) (y_parts := y_parts) (y_happened := y_happened) (y_how := y_how) (n := n) (s := s) (d := d) (x := x) (b := fl) hT hI hV hC hc hB
        exact ⟨r, r, t', p', w', xk', xp', yh', yw', c', hX, hY, hO⟩
      · have b3 : b = 3 := by omega
        subst b3
        obtain ⟨r, r', hX, hY, hO⟩ := wt_check (x_time := x_time) (x_partCount := x_partCount) (x_wrongAt := x_wrongAt) (x_logStart := x_logStart) (x_snapshotStart := x_snapshotStart) (x_placesLeft := x_placesLeft) (x_tree := x_tree) (x_treeBefore := x_treeBefore) (x_timeouts := x_timeouts) (x_deadlines := x_deadlines) (x_events := x_events) (x_eventCounts := x_eventCounts) (x_watchSessions := x_watchSessions) (x_watchKinds := x_watchKinds) (x_watchPaths := x_watchPaths) (x_partKinds := x_partKinds) (x_partPaths := x_partPaths) (x_partAs := x_partAs) (x_partBs := x_partBs) (x_changePaths := x_changePaths) (x_changeKinds := x_changeKinds) (y_time := y_time) (y_watchCount := y_watchCount) (y_partCount := y_partCount) (y_wrong := y_wrong) (y_log := y_log) (y_since := y_since) (y_placesLeft := y_placesLeft) (y_paths := y_paths) (y_values := y_values) (y_open := y_open) (y_timeouts := y_timeouts) (y_deadlines := y_deadlines) (y_events := y_events) (y_eventCounts := y_eventCounts) (y_watchers := y_watchers) (y_watchKinds := y_watchKinds) (y_watchPaths := y_watchPaths) (y_parts := y_parts) (y_happened := y_happened) (y_how := y_how) (n := n) (s := s) (d := d) (x := x) (b := fl) hT hI hV hC
        exact ⟨r, r', _, _, _, _, _, _, _, _, hX, hY, hO⟩
theorem wx_copy1_lp {post : SX → Prop} (hp : post (x_time, x_partCount, x_wrongAt, x_changeCount, x_transactions, x_logStart, x_snapshotStart, x_placesLeft, x_tree, (wt_mx 147 x_tree x_treeBefore), x_timeouts, x_deadlines, x_events, x_eventCounts, x_watchSessions, x_watchKinds, x_watchPaths, x_partKinds, x_partPaths, x_partAs, x_partBs, x_changePaths, x_changeKinds)) : ∀ d i, i + d = 147 → wX_copyTree__tree_treeBefore_2 post x_time x_partCount x_wrongAt x_changeCount x_transactions x_logStart x_snapshotStart x_placesLeft (d + 1) (nI i) x_tree (wt_mx i x_tree x_treeBefore) x_timeouts x_deadlines x_events x_eventCounts x_watchSessions x_watchKinds x_watchPaths x_partKinds x_partPaths x_partAs x_partBs x_changePaths x_changeKinds := by
  intro d
  induction d with
  | zero =>
    intro i hi
    have e : i = 147 := by omega
    subst e
    exact br_t (nI_le (a := 147) (b := 147) (by omega) (by omega)) hp
  | succ d ih =>
    intro i hi
    have hn := ih (i + 1) (by omega)
    rw [← wt_mx_s] at hn
    have vi : vp_in (nI i) 147 := vp_in_nI (by omega) (by omega)
    have ci : (nI i).toNatClampNeg = i := nI_clamp (by omega)
    exact br_f (nI_ge (b := 147) (by omega) (by omega)) ⟨vi, vi, nm_r (e' := upd (wt_mx i x_tree x_treeBefore) i (x_tree i)) (by rw [ci]) (nm_r (nI_1 i) hn)⟩
theorem wx_copy1 {post : SX → Prop} (hp : post (x_time, x_partCount, x_wrongAt, x_changeCount, x_transactions, x_logStart, x_snapshotStart, x_placesLeft, x_tree, (wt_mx 147 x_tree x_treeBefore), x_timeouts, x_deadlines, x_events, x_eventCounts, x_watchSessions, x_watchKinds, x_watchPaths, x_partKinds, x_partPaths, x_partAs, x_partBs, x_changePaths, x_changeKinds)) : wpX_copyTree__tree_treeBefore post (x_time, x_partCount, x_wrongAt, x_changeCount, x_transactions, x_logStart, x_snapshotStart, x_placesLeft, x_tree, x_treeBefore, x_timeouts, x_deadlines, x_events, x_eventCounts, x_watchSessions, x_watchKinds, x_watchPaths, x_partKinds, x_partPaths, x_partAs, x_partBs, x_changePaths, x_changeKinds) := by
  have h := wx_copy1_lp hp 147 0 rfl
  rw [wt_mx_0] at h
  exact ⟨148, h⟩
theorem wx_copy2_lp {post : SX → Prop} (hp : post (x_time, x_partCount, x_wrongAt, x_changeCount, x_transactions, x_logStart, x_snapshotStart, x_placesLeft, (wt_mx 147 x_treeBefore x_tree), x_treeBefore, x_timeouts, x_deadlines, x_events, x_eventCounts, x_watchSessions, x_watchKinds, x_watchPaths, x_partKinds, x_partPaths, x_partAs, x_partBs, x_changePaths, x_changeKinds)) : ∀ d i, i + d = 147 → wX_copyTree__treeBefore_tree_2 post x_time x_partCount x_wrongAt x_changeCount x_transactions x_logStart x_snapshotStart x_placesLeft (d + 1) (nI i) (wt_mx i x_treeBefore x_tree) x_treeBefore x_timeouts x_deadlines x_events x_eventCounts x_watchSessions x_watchKinds x_watchPaths x_partKinds x_partPaths x_partAs x_partBs x_changePaths x_changeKinds := by
  intro d
  induction d with
  | zero =>
    intro i hi
    have e : i = 147 := by omega
    subst e
    exact br_t (nI_le (a := 147) (b := 147) (by omega) (by omega)) hp
  | succ d ih =>
    intro i hi
    have hn := ih (i + 1) (by omega)
    rw [← wt_mx_s] at hn
    have vi : vp_in (nI i) 147 := vp_in_nI (by omega) (by omega)
    have ci : (nI i).toNatClampNeg = i := nI_clamp (by omega)
    exact br_f (nI_ge (b := 147) (by omega) (by omega)) ⟨vi, vi, nm_r (e' := upd (wt_mx i x_treeBefore x_tree) i (x_treeBefore i)) (by rw [ci]) (nm_r (nI_1 i) hn)⟩
theorem wx_copy2 {post : SX → Prop} (hp : post (x_time, x_partCount, x_wrongAt, x_changeCount, x_transactions, x_logStart, x_snapshotStart, x_placesLeft, (wt_mx 147 x_treeBefore x_tree), x_treeBefore, x_timeouts, x_deadlines, x_events, x_eventCounts, x_watchSessions, x_watchKinds, x_watchPaths, x_partKinds, x_partPaths, x_partAs, x_partBs, x_changePaths, x_changeKinds)) : wpX_copyTree__treeBefore_tree post (x_time, x_partCount, x_wrongAt, x_changeCount, x_transactions, x_logStart, x_snapshotStart, x_placesLeft, x_tree, x_treeBefore, x_timeouts, x_deadlines, x_events, x_eventCounts, x_watchSessions, x_watchKinds, x_watchPaths, x_partKinds, x_partPaths, x_partAs, x_partBs, x_changePaths, x_changeKinds) := by
  have h := wx_copy2_lp hp 147 0 rfl
  rw [wt_mx_0] at h
  exact ⟨148, h⟩
theorem wy_copyv_lp {post : SY → Prop} {a b : Nat} (hab : a + 21 ≤ b ∨ b + 21 ≤ a) (ha : a ≤ 21) (hb : b ≤ 21) (hp : post (y_time, y_last, y_watchCount, y_partCount, y_wrong, y_changes, y_log, y_since, y_placesLeft, y_paths, (wt_mv (6 * a) (6 * b) 126 y_values), y_open, y_timeouts, y_deadlines, y_events, y_eventCounts, y_watchers, y_watchKinds, y_watchPaths, y_parts, y_happened, y_how)) : ∀ d i, i + d = 126 → wY_copy_32 post (nI a) (nI b) y_time y_last y_watchCount y_partCount y_wrong y_changes y_log y_since y_placesLeft (d + 1) (nI i) y_paths (wt_mv (6 * a) (6 * b) i y_values) y_open y_timeouts y_deadlines y_events y_eventCounts y_watchers y_watchKinds y_watchPaths y_parts y_happened y_how := by
  intro d
  induction d with
  | zero =>
    intro i hi
    have e : i = 126 := by omega
    subst e
    exact br_t (nI_le (a := 126) (b := 126) (by omega) (by omega)) hp
  | succ d ih =>
    intro i hi
    have hn := ih (i + 1) (by omega)
    rw [← wt_mv_s (n := 126) (by omega) (by omega)] at hn
    have ea : 6 * nI a + nI i = nI (6 * a + i) := wt_6j a i
    have eb : 6 * nI b + nI i = nI (6 * b + i) := wt_6j b i
    exact br_f (nI_ge (b := 126) (by omega) (by omega)) ⟨by rw [ea]; exact vp_in_nI (by omega) (by omega), by rw [eb]; exact vp_in_nI (by omega) (by omega), nm_r (e' := upd (wt_mv (6 * a) (6 * b) i y_values) (6 * b + i) (wt_mv (6 * a) (6 * b) i y_values (6 * a + i))) (by rw [ea, eb, nI_clamp (by omega), nI_clamp (by omega)]) (nm_r (nI_1 i) hn)⟩
theorem wy_copyp_lp {post : SY → Prop} {a b : Nat} (hab : a + 21 ≤ b ∨ b + 21 ≤ a) (ha : a ≤ 21) (hb : b ≤ 21) (hp : post (y_time, y_last, y_watchCount, y_partCount, y_wrong, y_changes, y_log, y_since, y_placesLeft, (wt_mv a b 21 y_paths), (wt_mv (6 * a) (6 * b) 126 y_values), y_open, y_timeouts, y_deadlines, y_events, y_eventCounts, y_watchers, y_watchKinds, y_watchPaths, y_parts, y_happened, y_how)) : ∀ d i, i + d = 21 → wY_copy_2 post (nI a) (nI b) y_time y_last y_watchCount y_partCount y_wrong y_changes y_log y_since y_placesLeft (d + 1) (nI i) (wt_mv a b i y_paths) y_values y_open y_timeouts y_deadlines y_events y_eventCounts y_watchers y_watchKinds y_watchPaths y_parts y_happened y_how := by
  intro d
  induction d with
  | zero =>
    intro i hi
    have e : i = 21 := by omega
    subst e
    have h := wy_copyv_lp (y_time := y_time) (y_last := y_last) (y_watchCount := y_watchCount) (y_partCount := y_partCount) (y_wrong := y_wrong) (y_changes := y_changes) (y_log := y_log) (y_since := y_since) (y_placesLeft := y_placesLeft) (y_values := y_values) (y_open := y_open) (y_timeouts := y_timeouts) (y_deadlines := y_deadlines) (y_events := y_events) (y_eventCounts := y_eventCounts) (y_watchers := y_watchers) (y_watchKinds := y_watchKinds) (y_watchPaths := y_watchPaths) (y_parts := y_parts) (y_happened := y_happened) (y_how := y_how) (y_paths := wt_mv a b 21 y_paths) hab ha hb hp 126 0 rfl
    rw [wt_mv_0] at h
    exact br_t wt_21le ⟨127, h⟩
  | succ d ih =>
    intro i hi
    have hn := ih (i + 1) (by omega)
    rw [← wt_mv_s (n := 21) (by omega) (by omega)] at hn
    have ea : nI a + nI i = nI (a + i) := nI_add a i
    have eb : nI b + nI i = nI (b + i) := nI_add b i
    exact br_f (wt_21ge i (by omega)) ⟨by rw [ea]; exact vp_in_nI (by omega) (by omega), by rw [eb]; exact vp_in_nI (by omega) (by omega), nm_r (e' := upd (wt_mv a b i y_paths) (b + i) (wt_mv a b i y_paths (a + i))) (by rw [ea, eb, nI_clamp (by omega), nI_clamp (by omega)]) (nm_r (nI_1 i) hn)⟩
theorem wy_copy {post : SY → Prop} {a b : Nat} (hab : a + 21 ≤ b ∨ b + 21 ≤ a) (ha : a ≤ 21) (hb : b ≤ 21) (hp : post (y_time, y_last, y_watchCount, y_partCount, y_wrong, y_changes, y_log, y_since, y_placesLeft, (wt_mv a b 21 y_paths), (wt_mv (6 * a) (6 * b) 126 y_values), y_open, y_timeouts, y_deadlines, y_events, y_eventCounts, y_watchers, y_watchKinds, y_watchPaths, y_parts, y_happened, y_how)) : wpY_copy post (y_time, y_last, y_watchCount, y_partCount, y_wrong, y_changes, y_log, y_since, y_placesLeft, y_paths, y_values, y_open, y_timeouts, y_deadlines, y_events, y_eventCounts, y_watchers, y_watchKinds, y_watchPaths, y_parts, y_happened, y_how) (nI a) (nI b) := by
  have h := wy_copyp_lp hab ha hb hp 21 0 rfl
  rw [wt_mv_0] at h
  exact ⟨22, h⟩
end
section
variable {x_time x_partCount x_wrongAt x_changeCount x_transactions x_logStart x_snapshotStart x_placesLeft : Int32} {x_tree x_treeBefore x_timeouts x_deadlines x_events x_eventCounts x_watchSessions x_watchKinds x_watchPaths x_partKinds x_partPaths x_partAs x_partBs x_changePaths x_changeKinds : Nat → Int32}
variable {y_time y_last y_watchCount y_partCount y_wrong y_changes y_log y_since y_placesLeft : Int32} {y_paths y_values y_open y_timeouts y_deadlines y_events y_eventCounts y_watchers y_watchKinds y_watchPaths y_parts y_happened y_how : Nat → Int32}
/-- the parts of a multi request, from the i-th on; t0, p0, w0: the tree before -/
theorem wt_multi_lp {B c s : Nat} {t0 p0 w0 : Nat → Int32} (hB : B + 20 < 2 ^ 29) (hc : c ≤ 6) (hparts : ∀ i, i < c → x_partKinds i = y_parts (4 * i) ∧ x_partPaths i = y_parts (4 * i + 1) ∧ x_partAs i = y_parts (4 * i + 2) ∧ x_partBs i = y_parts (4 * i + 3) ∧ ∃ b, b ≤ 3 ∧ y_parts (4 * i) = nI b ∧ (b = 0 → ∃ f, f ≤ 3 ∧ y_parts (4 * i + 3) = nI f)) (hT0 : wt_T t0 p0 w0) (hI0 : wt_I p0 w0) (hV0 : wt_V B w0) (htb : ∀ j, j < 147 → x_treeBefore j = t0 j) (hE : wt_E y_open x_events x_eventCounts y_events y_eventCounts) (hW : wt_WR y_open x_watchSessions x_watchKinds x_watchPaths y_watchers y_watchKinds y_watchPaths y_watchCount)
    (hR : ∀ (xn xw yw yn yl ys yc : Int32) (t p w xe xc ye yec xs ya yk yp xck xcp yh ywh : Nat → Int32) (wc : Int32), wt_T t p w → wt_I p w → wt_V (B + 20) w → wt_E y_open xe xc ye yec → wt_WR y_open xs x_watchKinds x_watchPaths ya yk yp wc → xw = yw → ((xn = x_transactions ∧ yn = y_last ∧ yl = y_log ∧ ys = y_since) ∨ (xn = x_transactions + 1 ∧ yn = y_last + 1 ∧ yl = y_log + 1 ∧ ys = y_since + 1)) → wt_R (B + 20) (x_time, x_partCount, xw, 0, xn, x_logStart, x_snapshotStart, x_placesLeft, t, x_treeBefore, x_timeouts, x_deadlines, xe, xc, xs, x_watchKinds, x_watchPaths, x_partKinds, x_partPaths, x_partAs, x_partBs, xcp, xck) (y_time, yn, wc, y_partCount, yw, yc, yl, ys, y_placesLeft, p, w, y_open, y_timeouts, y_deadlines, ye, yec, ya, yk, yp, y_parts, yh, ywh)) (hn : x_transactions = y_last) :
    ∀ d i, i + d = c → ∀ (cc : Nat) (t p w xk xp yh yw : Nat → Int32), cc ≤ i → wt_T t p w → wt_I p w → wt_V (B + i) w → wt_C cc xk xp yh yw → (∀ j, j < 21 → p (21 + j) = p0 j) → (∀ j, j < 126 → w (126 + j) = w0 j) → ∃ (r : Int32) (u' : SX) (v' : SY), (∀ post : Int32 → SX → Prop, post r u' → wX_multi_52 post (nI s) (nI c) (d + 1) (nI i) x_time x_partCount (-1) (nI cc) x_transactions x_logStart x_snapshotStart x_placesLeft t x_treeBefore x_timeouts x_deadlines x_events x_eventCounts x_watchSessions x_watchKinds x_watchPaths x_partKinds x_partPaths x_partAs x_partBs xp xk) ∧ (∀ post : Int32 → SY → Prop, post r v' → wY_multi_55 post (nI s) (nI c) (d + 1) (nI i) y_time y_last y_watchCount y_partCount (-1) (nI cc) y_log y_since y_placesLeft p w y_open y_timeouts y_deadlines y_events y_eventCounts y_watchers y_watchKinds y_watchPaths y_parts yh yw) ∧ wt_R (B + 20) u' v' := by
  intro d
  induction d with
  | zero =>
    intro i hi cc t p w xk xp yh yw hcc hT hI hV hC hp hw
    have e : i = c := by omega
    subst e
    have l : nI i ≤ nI i := nI_le (Nat.le_refl _) (by omega)
    obtain ⟨ws', ev', ec', yev', yec', ya', yk', yp', wc', hXf, hYf, R1, R2⟩ := wt_finish (x_time := x_time) (x_partCount := x_partCount) (x_logStart := x_logStart) (x_snapshotStart := x_snapshotStart) (x_placesLeft := x_placesLeft) (x_treeBefore := x_treeBefore) (x_timeouts := x_timeouts) (x_deadlines := x_deadlines) (x_watchKinds := x_watchKinds) (x_watchPaths := x_watchPaths) (x_partKinds := x_partKinds) (x_partPaths := x_partPaths) (x_partAs := x_partAs) (x_partBs := x_partBs) (x_tree := t) (x_changeKinds := xk) (x_changePaths := xp) (x_wrongAt := -1) (y_time := y_time) (y_partCount := y_partCount) (y_placesLeft := y_placesLeft) (y_open := y_open) (y_timeouts := y_timeouts) (y_deadlines := y_deadlines) (y_parts := y_parts) (y_paths := p) (y_values := w) (y_happened := yh) (y_how := yw) (y_last := y_last + 1) (y_log := y_log + 1) (y_since := y_since + 1) (y_wrong := -1) (n := x_transactions) hC hW hE
    refine ⟨x_transactions + 1, (x_time, x_partCount, (-1), 0, (x_transactions + 1), x_logStart, x_snapshotStart, x_placesLeft, t, x_treeBefore, x_timeouts, x_deadlines, ev', ec', ws', x_watchKinds, x_watchPaths, x_partKinds, x_partPaths, x_partAs, x_partBs, xp, xk), (y_time, (y_last + 1), wc', y_partCount, (-1), (nI cc), (y_log + 1), (y_since + 1), y_placesLeft, p, w, y_open, y_timeouts, y_deadlines, yev', yec', ya', yk', yp', y_parts, yh, yw), fun post hp => ?_, fun post hp => ?_, ?_⟩
    · refine br_t l ?_
      unfold wX_multi_129
      exact hXf _ hp
    · refine br_t l (wy_done (hYf _ ?_))
      rw [hn] at hp
      exact hp
    · exact hR _ _ _ _ _ _ _ _ _ _ _ _ _ _ _ _ _ _ _ _ _ _ _ hT hI (wt_V_up hV (by omega)) R2 R1 rfl (Or.inr ⟨rfl, rfl, rfl, rfl⟩)
  | succ d ih =>
    intro i hi cc t p w xk xp yh yw hcc hT hI hV hC hp hw
    obtain ⟨k1, k2, k3, k4, b, b1, b2, b3⟩ := hparts i (by omega)
    have lc : ¬ nI c ≤ nI i := nI_ge (by omega) (by omega)
    have l6 : ¬ (6 : Int32) ≤ nI i := nI_ge (b := 6) (by omega) (by omega)
    have v6 : vp_in (nI i) 6 := vp_in_nI (by omega) (by omega)
    have ci : (nI i).toNatClampNeg = i := nI_clamp (by omega)
    have x1 : x_partKinds (nI i).toNatClampNeg = nI b := by rw [ci, k1]; exact b2
    have x2 : x_partPaths (nI i).toNatClampNeg = y_parts (4 * i + 1) := by rw [ci]; exact k2
    have x3 : x_partAs (nI i).toNatClampNeg = y_parts (4 * i + 2) := by rw [ci]; exact k3
    have x4 : x_partBs (nI i).toNatClampNeg = y_parts (4 * i + 3) := by rw [ci]; exact k4
    have y1 : y_parts ((4 : Int32) * nI i).toNatClampNeg = nI b := (congrArg y_parts (wt_4c0 i (by omega))).trans b2
    have y2 : y_parts ((4 : Int32) * nI i + 1).toNatClampNeg = y_parts (4 * i + 1) := congrArg y_parts (wt_4c i 1 (by omega) (by omega))
    have y3 : y_parts ((4 : Int32) * nI i + 2).toNatClampNeg = y_parts (4 * i + 2) := congrArg y_parts (wt_4c i 2 (by omega) (by omega))
    have y4 : y_parts ((4 : Int32) * nI i + 3).toNatClampNeg = y_parts (4 * i + 3) := congrArg y_parts (wt_4c i 3 (by omega) (by omega))
    obtain ⟨r, r', t', p', w', xk', xp', yh', yw', c', hX, hY, o1, o2, o3, o4, o5, o6, o7⟩ := wt_req (x_time := x_time) (x_partCount := x_partCount) (x_logStart := x_logStart) (x_snapshotStart := x_snapshotStart) (x_placesLeft := x_placesLeft) (x_treeBefore := x_treeBefore) (x_timeouts := x_timeouts) (x_deadlines := x_deadlines) (x_events := x_events) (x_eventCounts := x_eventCounts) (x_watchSessions := x_watchSessions) (x_watchKinds := x_watchKinds) (x_watchPaths := x_watchPaths) (x_partKinds := x_partKinds) (x_partPaths := x_partPaths) (x_partAs := x_partAs) (x_partBs := x_partBs) (x_tree := t) (x_changeKinds := xk) (x_changePaths := xp) (x_wrongAt := -1) (y_time := y_time) (y_watchCount := y_watchCount) (y_partCount := y_partCount) (y_log := y_log) (y_since := y_since) (y_placesLeft := y_placesLeft) (y_open := y_open) (y_timeouts := y_timeouts) (y_deadlines := y_deadlines) (y_events := y_events) (y_eventCounts := y_eventCounts) (y_watchers := y_watchers) (y_watchKinds := y_watchKinds) (y_watchPaths := y_watchPaths) (y_parts := y_parts) (y_paths := p) (y_values := w) (y_happened := yh) (y_how := yw) (y_wrong := -1) (n := y_last) (s := nI s) (d := y_parts (4 * i + 2)) (x := y_parts (4 * i + 1)) (fl := y_parts (4 * i + 3)) b1 b3 hT hI hV hC (by omega) (by omega)
    rcases o7 with ⟨q1, q2, q3⟩ | ⟨q1, q2, _, q4⟩
    · subst q2
      have nr : ¬ 0 ≤ r' := fun z => Int32.not_le.mpr q1 z
      refine ⟨r', (x_time, x_partCount, (nI i), 0, x_transactions, x_logStart, x_snapshotStart, x_placesLeft, (wt_mx 147 x_treeBefore t'), x_treeBefore, x_timeouts, x_deadlines, x_events, x_eventCounts, x_watchSessions, x_watchKinds, x_watchPaths, x_partKinds, x_partPaths, x_partAs, x_partBs, xp', xk'), (y_time, y_last, y_watchCount, y_partCount, (nI i), (nI c'), y_log, y_since, y_placesLeft, (wt_mv 21 0 21 p'), (wt_mv (6 * 21) (6 * 0) 126 w'), y_open, y_timeouts, y_deadlines, y_events, y_eventCounts, y_watchers, y_watchKinds, y_watchPaths, y_parts, yh', yw'), fun post hpo => ?_, fun post hpo => ?_, ?_⟩
      · refine br_f lc (br_f l6 ⟨v6, v6, v6, v6, ?_⟩)
        rw [x1, x2, x3, x4, hn]
        refine hX _ (br_f nr (wx_copy2 ?_))
        rw [← hn]
        exact hpo
      · refine br_f lc ⟨wt_4in0 i (by omega), wt_4in i 1 (by omega) (by omega), wt_4in i 2 (by omega) (by omega), wt_4in i 3 (by omega) (by omega), ?_⟩
        rw [y1, y2, y3, y4]
        exact hY _ (br_f nr (wy_copy (a := 21) (b := 0) (by omega) (by omega) (by omega) hpo))
      · have ep : ∀ j, j < 21 → wt_mv 21 0 21 p' j = p0 j := fun j hj => by
          have h1 := wt_mv_at (a := 21) (b := 0) (n := 21) (p := p') hj
          rw [Nat.zero_add] at h1
          rw [h1, o5 _ (by omega)]
          exact hp j hj
        have ew : ∀ j, j < 126 → wt_mv (6 * 21) (6 * 0) 126 w' j = w0 j := fun j hj => by
          have h1 := wt_mv_at (a := 6 * 21) (b := 6 * 0) (n := 126) (p := w') hj
          rw [Nat.mul_zero, Nat.zero_add] at h1
          rw [h1, o6 _ (by omega)]
          exact hw j hj
        exact hR _ _ _ _ _ _ _ _ _ _ _ _ _ _ _ _ _ _ _ _ _ _ _ (wt_T_cg hT0 (fun j hj => (wt_mx_at hj).trans (htb j hj)) ep ew) (wt_I_cg hI0 ep ew) (wt_V_cg (wt_V_up hV0 (by omega)) ew) hE hW rfl (Or.inl ⟨rfl, rfl, rfl, rfl⟩)
    · have nr : 0 ≤ r := wt_lt_ge q1
      have nr' : 0 ≤ r' := wt_lt_ge q2
      obtain ⟨rr, u', v', hX2, hY2, hR2⟩ := ih (i + 1) (by omega) c' t' p' w' xk' xp' yh' yw' (by omega) o1 o2 o3 o4 (fun j hj => by rw [o5 _ (by omega)]; exact hp j hj) (fun j hj => by rw [o6 _ (by omega)]; exact hw j hj)
      refine ⟨rr, u', v', fun post hpo => ?_, fun post hpo => ?_, hR2⟩
      · refine br_f lc (br_f l6 ⟨v6, v6, v6, v6, ?_⟩)
        have K := hX2 post hpo
        rw [x1, x2, x3, x4]
        rw [hn] at K ⊢
        exact hX _ (br_t nr (nm_r (nI_1 i) K))
      · refine br_f lc ⟨wt_4in0 i (by omega), wt_4in i 1 (by omega) (by omega), wt_4in i 2 (by omega) (by omega), wt_4in i 3 (by omega) (by omega), ?_⟩
        rw [y1, y2, y3, y4]
        exact hY _ (br_t nr' (nm_r (nI_1 i) (hY2 post hpo)))
end
theorem i_vc_multi {k : Nat} {u : SX} {v : SY} (I : i_Rel k u v) (hk : k + 5 ≤ 2560) (v1 : Int32) : wpX_multi (fun r u' => wpY_multi (fun r' v' => r' = r ∧ i_Rel (k + 5) u' v') v v1) u v1 := by
  have I' := i_up I
  obtain ⟨x_time, x_partCount, x_wrongAt, x_changeCount, x_transactions, x_logStart, x_snapshotStart, x_placesLeft, x_tree, x_treeBefore, x_timeouts, x_deadlines, x_events, x_eventCounts, x_watchSessions, x_watchKinds, x_watchPaths, x_partKinds, x_partPaths, x_partAs, x_partBs, x_changePaths, x_changeKinds⟩ := u
  obtain ⟨y_time, y_last, y_watchCount, y_partCount, y_wrong, y_changes, y_log, y_since, y_placesLeft, y_paths, y_values, y_open, y_timeouts, y_deadlines, y_events, y_eventCounts, y_watchers, y_watchKinds, y_watchPaths, y_parts, y_happened, y_how⟩ := v
  obtain ⟨hT', hI', hV', hS', hti', hE', hW', hP', hw', hN', hc'⟩ := I'
  have J : i_Rel (k + 5) (x_time, 0, (-1), x_changeCount, x_transactions, x_logStart, x_snapshotStart, x_placesLeft, x_tree, x_treeBefore, x_timeouts, x_deadlines, x_events, x_eventCounts, x_watchSessions, x_watchKinds, x_watchPaths, x_partKinds, x_partPaths, x_partAs, x_partBs, x_changePaths, x_changeKinds) (y_time, y_last, y_watchCount, 0, (-1), y_changes, y_log, y_since, y_placesLeft, y_paths, y_values, y_open, y_timeouts, y_deadlines, y_events, y_eventCounts, y_watchers, y_watchKinds, y_watchPaths, y_parts, y_happened, y_how) := ⟨hT', hI', hV', hS', hti', hE', hW', ⟨0, by omega, rfl, rfl, fun i hi => absurd hi (Nat.not_lt_zero _)⟩, rfl, hN', hc'⟩
  obtain ⟨hT, hI, hV, hS, ⟨t, ht, et, et'⟩, hE, hW, ⟨c, c1, c2, c3, c4⟩, hw, hN, hc⟩ := I
  unfold wpX_multi wpY_multi
  rcases wt_cases hS v1 with ⟨s, hs, rfl, ho, hx⟩ | ⟨hx, hy⟩
  · refine wx_open_t hs hx (br_f (by decide) ?_)
    by_cases c0 : c = 0
    · subst c0
      exact br_t c2 (wy_open_t hs ho (br_f (by decide) (br_t c3 ⟨rfl, J⟩)))
    · have cn : ¬ nI c = 0 := nI_ne0 (by omega) (by omega)
      have cx : ¬ x_partCount = 0 := by rw [c2]; exact cn
      have cy : ¬ y_partCount = 0 := by rw [c3]; exact cn
      refine br_f cx ?_
      by_cases hl : y_log < 40
      · have hlx : x_transactions - x_logStart < 40 := by rw [hN.2.1]; exact hl
        have ep : ∀ j, j < 21 → wt_mv 0 21 21 y_paths j = y_paths j := fun j hj => wt_mv_out (by omega)
        have ew : ∀ j, j < 126 → wt_mv (6 * 0) (6 * 21) 126 y_values j = y_values j := fun j hj => wt_mv_out (by omega)
        obtain ⟨r, u', v', hX, hY, hR⟩ := wt_multi_lp (x_time := x_time) (x_transactions := x_transactions) (x_logStart := x_logStart) (x_snapshotStart := x_snapshotStart) (x_placesLeft := x_placesLeft) (x_timeouts := x_timeouts) (x_deadlines := x_deadlines) (x_events := x_events) (x_eventCounts := x_eventCounts) (x_watchSessions := x_watchSessions) (x_watchKinds := x_watchKinds) (x_watchPaths := x_watchPaths) (x_partKinds := x_partKinds) (x_partPaths := x_partPaths) (x_partAs := x_partAs) (x_partBs := x_partBs) (x_partCount := 0) (x_treeBefore := wt_mx 147 x_tree x_treeBefore) (y_time := y_time) (y_last := y_last) (y_watchCount := y_watchCount) (y_log := y_log) (y_since := y_since) (y_placesLeft := y_placesLeft) (y_open := y_open) (y_timeouts := y_timeouts) (y_deadlines := y_deadlines) (y_events := y_events) (y_eventCounts := y_eventCounts) (y_watchers := y_watchers) (y_watchKinds := y_watchKinds) (y_watchPaths := y_watchPaths) (y_parts := y_parts) (y_partCount := 0) (B := 100 * k) (c := c) (s := s) (t0 := x_tree) (p0 := y_paths) (w0 := y_values) (by omega) c1 c4 hT hI hV (fun j hj => wt_mx_at hj) hE hW (fun xn xw yw yn yl ys yc t1 p1 w1 xe xc ye yec xs ya yk yp xck xcp yh ywh wc g1 g2 g3 g4 g5 g6 g7 => by
          refine ⟨g1, g2, g3, wt_S_up hS (by omega), ⟨t, by omega, et, et'⟩, g4, g5, ⟨0, by omega, rfl, rfl, fun i hi => absurd hi (Nat.not_lt_zero _)⟩, g6, ?_, rfl⟩
          rcases g7 with ⟨rfl, rfl, rfl, rfl⟩ | ⟨rfl, rfl, rfl, rfl⟩
          · exact hN
          · exact wt_N_s hN) hN.1 c 0 (by omega) 0 x_tree (wt_mv 0 21 21 y_paths) (wt_mv (6 * 0) (6 * 21) 126 y_values) x_changeKinds x_changePaths y_happened y_how (by omega) (wt_T_cg hT (fun _ _ => rfl) ep ew) (wt_I_cg hI ep ew) (wt_V_cg hV ew) (wt_C_0 _ _ _ _) (fun j hj => (wt_mv_at (b := 21) hj).trans (by rw [Nat.zero_add])) (fun j hj => (wt_mv_at (b := 6 * 21) hj).trans (by rw [Nat.mul_zero, Nat.zero_add]))
        have hc0 : x_changeCount = nI 0 := hc
        subst hc0
        subst c2
        subst c3
        refine wx_log_t hlx (br_t rfl (wx_copy1 ⟨_, hX _ (wy_open_t hs ho (br_f (by decide) (br_f cy (br_t hl (wy_copy (a := 0) (b := 21) (by omega) (by omega) (by omega) ⟨_, hY _ ⟨rfl, wt_R_up hR (by omega)⟩⟩)))))⟩))
      · have hlx : ¬ x_transactions - x_logStart < 40 := by rw [hN.2.1]; exact hl
        exact wx_log_f hlx (br_f (by decide) (wy_open_t hs ho (br_f (by decide) (br_f cy (br_f hl ⟨rfl, J⟩)))))
  · exact wx_open_f hx (br_t rfl (wy_open_f hy (br_t rfl ⟨rfl, J⟩)))
