def wt_nt (i : Nat) : Nat → Int32 := fun j => if j % 7 = 6 ∧ j < 7 * i then (-1 : Int32) else 0
theorem wt_nt_0 : wt_nt 0 = fun _ => 0 := by
  funext j
  exact if_neg (by omega)
theorem wt_nt_s (i : Nat) : upd (wt_nt i) (7 * i + 6) (-1) = wt_nt (i + 1) := by
  funext j
  by_cases z : j = 7 * i + 6
  · subst z
    rw [pk_us]
    exact (if_pos (by omega)).symm
  · rw [pk_un z]
    by_cases y : j % 7 = 6 ∧ j < 7 * i
    · exact (if_pos y).trans (if_pos (by omega)).symm
    · exact (if_neg y).trans (if_neg (by omega)).symm
def wt_t0 : Nat → Int32 := upd (upd (wt_nt 21) 6 0) 5 (-1)
def wt_p0 : Nat → Int32 := upd (wt_fl 42 (-1) (fun _ => 0)) 0 0
def wt_w0 : Nat → Int32 := upd (fun _ => 0) 5 (-1)
theorem wt_T_0 : wt_T wt_t0 wt_p0 wt_w0 := by
  unfold wt_T
  decide +kernel
theorem wt_p0_f : ∀ k, 1 ≤ k → k < 21 → wt_p0 k = -1 := by
  have h : ∀ k, k < 21 → 1 ≤ k → wt_p0 k = -1 := by decide +kernel
  exact fun k a b => h k b a
theorem wt_I_0' : wt_I wt_p0 wt_w0 := ⟨by decide +kernel, by decide +kernel, fun k a b => Or.inl (wt_p0_f k a b), fun k a b c => absurd (wt_p0_f k a b) c⟩
theorem wt_V_0' (B : Nat) : wt_V B wt_w0 := by
  have h1 : ∀ k, k < 21 → wt_w0 (6 * k + 1) = 0 := by decide +kernel
  have h2 : ∀ k, k < 21 → wt_w0 (6 * k + 2) = 0 := by decide +kernel
  intro k hk j hj
  rcases hj with e | e
  · subst e; exact ⟨0, by omega, h1 k hk⟩
  · subst e; exact ⟨0, by omega, h2 k hk⟩
theorem wx_init_lp {post : SX → Prop} (hp : post (0, 0, (-1), 0, 0, 0, 0, 0, wt_t0, (fun _ => 0), (fun _ => 0), (fun _ => 0), (fun _ => 0), (fun _ => 0), (wt_fl 16 (-1) (fun _ => 0)), (fun _ => 0), (fun _ => 0), (fun _ => 0), (fun _ => 0), (fun _ => 0), (fun _ => 0), (fun _ => 0), (fun _ => 0))) : ∀ d i, i + d = 21 → wX_init_125 post 0 0 0 0 0 0 0 0 (d + 1) (nI (7 * i)) (wt_nt i) (fun _ => 0) (fun _ => 0) (fun _ => 0) (fun _ => 0) (fun _ => 0) (fun _ => 0) (fun _ => 0) (fun _ => 0) (fun _ => 0) (fun _ => 0) (fun _ => 0) (fun _ => 0) (fun _ => 0) (fun _ => 0) := by
  intro d
  induction d with
  | zero =>
    intro i hi
    have e : i = 21 := by omega
    subst e
    exact br_t wt_7le (nm_e (nm_e (wx_dropAll hp)))
  | succ d ih =>
    intro i hi
    have hn := ih (i + 1) (by omega)
    rw [← wt_nt_s] at hn
    exact br_f (wt_7ge i (by omega)) ⟨wt_7in i 6 (by omega) (by omega), nm_r (wt_ui _ _ (wt_7c i 6 (by omega) (by omega))) (nm_r (wt_7 i) hn)⟩
theorem wy_init_lp {post : SY → Prop} (hp : post (0, 0, 0, 0, (-1), 0, 0, 0, 0, wt_p0, wt_w0, (fun _ => 0), (fun _ => 0), (fun _ => 0), (fun _ => 0), (fun _ => 0), (fun _ => 0), (fun _ => 0), (fun _ => 0), (fun _ => 0), (fun _ => 0), (fun _ => 0))) : ∀ d i, i + d = 42 → wY_init_112 post 0 0 0 0 (-1) 0 0 0 0 (d + 1) (nI i) (wt_fl i (-1) (fun _ => 0)) (fun _ => 0) (fun _ => 0) (fun _ => 0) (fun _ => 0) (fun _ => 0) (fun _ => 0) (fun _ => 0) (fun _ => 0) (fun _ => 0) (fun _ => 0) (fun _ => 0) (fun _ => 0) := by
  intro d
  induction d with
  | zero =>
    intro i hi
    have e : i = 42 := by omega
    subst e
    exact br_t (nI_le (a := 42) (b := 42) (by omega) (by omega)) (nm_e (nm_e hp))
  | succ d ih =>
    intro i hi
    have hn := ih (i + 1) (by omega)
    rw [← wt_fl_s] at hn
    exact br_f (nI_ge (b := 42) (by omega) (by omega)) ⟨vp_in_nI (by omega) (by omega), nm_r (wt_ui _ _ (nI_clamp (by omega))) (nm_r (nI_1 i) hn)⟩
theorem i_vc0 : wpX_init (fun u => wpY_init (fun v => i_Rel 0 u v)) := by
  have hR : i_Rel 0 (0, 0, (-1), 0, 0, 0, 0, 0, wt_t0, (fun _ => 0), (fun _ => 0), (fun _ => 0), (fun _ => 0), (fun _ => 0), (wt_fl 16 (-1) (fun _ => 0)), (fun _ => 0), (fun _ => 0), (fun _ => 0), (fun _ => 0), (fun _ => 0), (fun _ => 0), (fun _ => 0), (fun _ => 0)) (0, 0, 0, 0, (-1), 0, 0, 0, 0, wt_p0, wt_w0, (fun _ => 0), (fun _ => 0), (fun _ => 0), (fun _ => 0), (fun _ => 0), (fun _ => 0), (fun _ => 0), (fun _ => 0), (fun _ => 0), (fun _ => 0), (fun _ => 0)) :=
    ⟨wt_T_0, wt_I_0', wt_V_0' _, fun s _ => Or.inr ⟨rfl, rfl⟩, ⟨0, Nat.zero_le _, rfl, rfl⟩, wt_E_0 (fun _ _ => rfl) (fun _ _ => rfl), wt_WR_0 (fun j hj => wt_fl_at hj), ⟨0, by omega, rfl, rfl, fun i hi => absurd hi (Nat.not_lt_zero _)⟩, rfl, ⟨rfl, by decide, rfl, ⟨0, by omega, rfl⟩, fun z => absurd rfl z⟩, rfl⟩
  have hy := wy_init_lp (post := fun v => i_Rel 0 (0, 0, (-1), 0, 0, 0, 0, 0, wt_t0, (fun _ => 0), (fun _ => 0), (fun _ => 0), (fun _ => 0), (fun _ => 0), (wt_fl 16 (-1) (fun _ => 0)), (fun _ => 0), (fun _ => 0), (fun _ => 0), (fun _ => 0), (fun _ => 0), (fun _ => 0), (fun _ => 0), (fun _ => 0)) v) hR 42 0 rfl
  rw [wt_fl_0] at hy
  have hx := wx_init_lp (post := fun u => wpY_init (fun v => i_Rel 0 u v)) ⟨43, hy⟩ 21 0 rfl
  rw [wt_nt_0] at hx
  exact ⟨22, hx⟩
theorem i_vc_wrongPart {k : Nat} {u : SX} {v : SY} (I : i_Rel k u v) (hk : k + 5 ≤ 2560) : wpX_wrongPart (fun r => wpY_wrongPart (fun r' => r' = r ∧ i_Rel (k + 5) u v) v) u := by
  have I' := i_up I
  obtain ⟨x_time, x_partCount, x_wrongAt, x_changeCount, x_transactions, x_logStart, x_snapshotStart, x_placesLeft, x_tree, x_treeBefore, x_timeouts, x_deadlines, x_events, x_eventCounts, x_watchSessions, x_watchKinds, x_watchPaths, x_partKinds, x_partPaths, x_partAs, x_partBs, x_changePaths, x_changeKinds⟩ := u
  obtain ⟨y_time, y_last, y_watchCount, y_partCount, y_wrong, y_changes, y_log, y_since, y_placesLeft, y_paths, y_values, y_open, y_timeouts, y_deadlines, y_events, y_eventCounts, y_watchers, y_watchKinds, y_watchPaths, y_parts, y_happened, y_how⟩ := v
  obtain ⟨hT, hI, hV, hS, ⟨t, ht, et, et'⟩, hE, hW, hP, hw, hN, hc⟩ := I
  exact ⟨hw.symm, I'⟩
theorem i_vc_latest {k : Nat} {u : SX} {v : SY} (I : i_Rel k u v) (hk : k + 5 ≤ 2560) : wpX_latest (fun r => wpY_latest (fun r' => r' = r ∧ i_Rel (k + 5) u v) v) u := by
  have I' := i_up I
  obtain ⟨x_time, x_partCount, x_wrongAt, x_changeCount, x_transactions, x_logStart, x_snapshotStart, x_placesLeft, x_tree, x_treeBefore, x_timeouts, x_deadlines, x_events, x_eventCounts, x_watchSessions, x_watchKinds, x_watchPaths, x_partKinds, x_partPaths, x_partAs, x_partBs, x_changePaths, x_changeKinds⟩ := u
  obtain ⟨y_time, y_last, y_watchCount, y_partCount, y_wrong, y_changes, y_log, y_since, y_placesLeft, y_paths, y_values, y_open, y_timeouts, y_deadlines, y_events, y_eventCounts, y_watchers, y_watchKinds, y_watchPaths, y_parts, y_happened, y_how⟩ := v
  obtain ⟨hT, hI, hV, hS, ⟨t, ht, et, et'⟩, hE, hW, hP, hw, hN, hc⟩ := I
  exact ⟨hN.1.symm, I'⟩
theorem i_vc_logged {k : Nat} {u : SX} {v : SY} (I : i_Rel k u v) (hk : k + 5 ≤ 2560) : wpX_logged (fun r => wpY_logged (fun r' => r' = r ∧ i_Rel (k + 5) u v) v) u := by
  have I' := i_up I
  obtain ⟨x_time, x_partCount, x_wrongAt, x_changeCount, x_transactions, x_logStart, x_snapshotStart, x_placesLeft, x_tree, x_treeBefore, x_timeouts, x_deadlines, x_events, x_eventCounts, x_watchSessions, x_watchKinds, x_watchPaths, x_partKinds, x_partPaths, x_partAs, x_partBs, x_changePaths, x_changeKinds⟩ := u
  obtain ⟨y_time, y_last, y_watchCount, y_partCount, y_wrong, y_changes, y_log, y_since, y_placesLeft, y_paths, y_values, y_open, y_timeouts, y_deadlines, y_events, y_eventCounts, y_watchers, y_watchKinds, y_watchPaths, y_parts, y_happened, y_how⟩ := v
  obtain ⟨hT, hI, hV, hS, ⟨t, ht, et, et'⟩, hE, hW, hP, hw, hN, hc⟩ := I
  exact ⟨hN.2.1.symm, I'⟩
theorem wt_S_in {B s : Nat} {xt xd yo yt yd : Nat → Int32} (h : wt_S B xt xd yo yt yd) (hs : s < 4) (ho : yo s = 1) : (∃ a, 1 ≤ a ∧ a ≤ 20 ∧ xt s = nI a ∧ yt s = nI a) ∧ (∃ d, d ≤ B + 20 ∧ xd s = nI d ∧ yd s = nI d) := by
  rcases h s hs with c | c
  · exact c.2
  · exact absurd (ho.symm.trans c.1) (by decide)
theorem i_vc_left {k : Nat} {u : SX} {v : SY} (I : i_Rel k u v) (hk : k + 5 ≤ 2560) (v1 : Int32) : wpX_left (fun r => wpY_left (fun r' => r' = r ∧ i_Rel (k + 5) u v) v v1) u v1 := by
  have I' := i_up I
  obtain ⟨x_time, x_partCount, x_wrongAt, x_changeCount, x_transactions, x_logStart, x_snapshotStart, x_placesLeft, x_tree, x_treeBefore, x_timeouts, x_deadlines, x_events, x_eventCounts, x_watchSessions, x_watchKinds, x_watchPaths, x_partKinds, x_partPaths, x_partAs, x_partBs, x_changePaths, x_changeKinds⟩ := u
  obtain ⟨y_time, y_last, y_watchCount, y_partCount, y_wrong, y_changes, y_log, y_since, y_placesLeft, y_paths, y_values, y_open, y_timeouts, y_deadlines, y_events, y_eventCounts, y_watchers, y_watchKinds, y_watchPaths, y_parts, y_happened, y_how⟩ := v
  obtain ⟨hT, hI, hV, hS, ⟨t, ht, et, et'⟩, hE, hW, hP, hw, hN, hc⟩ := I
  unfold wpX_left wpY_left
  rcases wt_cases hS v1 with ⟨s, hs, rfl, ho, hx⟩ | ⟨hx, hy⟩
  · have vi : vp_in (nI s) 4 := vp_in_nI hs (by omega)
    refine wx_open_t hs hx (br_f (by decide) ⟨vi, wy_open_t hs ho (br_f (by decide) ⟨vi, ?_, I'⟩)⟩)
    obtain ⟨_, d, _, d2, d3⟩ := wt_S_in hS hs ho
    rw [nI_clamp (by omega), d2, d3, et, et']
  · exact wx_open_f hx (br_t rfl (wy_open_f hy (br_t rfl ⟨rfl, I'⟩)))
theorem i_vc_touch {k : Nat} {u : SX} {v : SY} (I : i_Rel k u v) (hk : k + 5 ≤ 2560) (v1 : Int32) : wpX_touch (fun r u' => wpY_touch (fun r' v' => r' = r ∧ i_Rel (k + 5) u' v') v v1) u v1 := by
  have I' := i_up I
  obtain ⟨x_time, x_partCount, x_wrongAt, x_changeCount, x_transactions, x_logStart, x_snapshotStart, x_placesLeft, x_tree, x_treeBefore, x_timeouts, x_deadlines, x_events, x_eventCounts, x_watchSessions, x_watchKinds, x_watchPaths, x_partKinds, x_partPaths, x_partAs, x_partBs, x_changePaths, x_changeKinds⟩ := u
  obtain ⟨y_time, y_last, y_watchCount, y_partCount, y_wrong, y_changes, y_log, y_since, y_placesLeft, y_paths, y_values, y_open, y_timeouts, y_deadlines, y_events, y_eventCounts, y_watchers, y_watchKinds, y_watchPaths, y_parts, y_happened, y_how⟩ := v
  have I2 := I'
  obtain ⟨hT, hI, hV, hS, ⟨t, ht, et, et'⟩, hE, hW, hP, hw, hN, hc⟩ := I2
  unfold wpX_touch wpY_touch
  rcases wt_cases hS v1 with ⟨s, hs, rfl, ho, hx⟩ | ⟨hx, hy⟩
  · have vi : vp_in (nI s) 4 := vp_in_nI hs (by omega)
    have ci : (nI s).toNatClampNeg = s := nI_clamp (by omega)
    obtain ⟨⟨a, a1, a2, a3, a4⟩, _⟩ := wt_S_in hS hs ho
    refine wx_open_t hs hx (br_f (by decide) ⟨vi, vi, nm_r (e' := upd x_deadlines s (nI (t + a))) (by rw [ci, a3, et, nI_add]) (wy_open_t hs ho (br_f (by decide) ⟨vi, vi, nm_r (e' := upd y_deadlines s (nI (t + a))) (by rw [ci, a4, et', nI_add]) ⟨rfl, rfl, ?_⟩⟩))⟩)
    exact ⟨hT, hI, hV, wt_S_tc hS ht a2, ⟨t, ht, et, et'⟩, hE, hW, hP, hw, hN, hc⟩
  · exact wx_open_f hx (br_t rfl (wy_open_f hy (br_t rfl ⟨rfl, rfl, I'⟩)))
