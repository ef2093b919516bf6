def wt_bits (o : Nat → Int32) : Nat → Nat
  | 0 => 0
  | i + 1 => wt_bits o i + (if o i = 0 then 0 else 2 ^ i)
theorem wt_bits_lt (o : Nat → Int32) : ∀ i, wt_bits o i < 2 ^ i := by
  intro i
  induction i with
  | zero => exact Nat.zero_lt_one
  | succ i ih =>
    have e : 2 ^ (i + 1) = 2 ^ i * 2 := Nat.pow_succ _ _
    show wt_bits o i + (if o i = 0 then 0 else 2 ^ i) < _
    by_cases h : o i = 0
    · rw [if_pos h]; omega
    · rw [if_neg h]; omega
theorem wt_bits_0 {o : Nat → Int32} {i : Nat} (h : o i = 0) : wt_bits o (i + 1) = wt_bits o i := by
  show wt_bits o i + (if o i = 0 then 0 else 2 ^ i) = _
  rw [if_pos h]; omega
theorem wt_bits_1 {o : Nat → Int32} {i : Nat} (h : ¬ o i = 0) : wt_bits o (i + 1) = wt_bits o i + 2 ^ i := by
  show wt_bits o i + (if o i = 0 then 0 else 2 ^ i) = _
  rw [if_neg h]
theorem wt_bits_8 (o : Nat → Int32) (i : Nat) (h : i < 4) : wt_bits o i < 8 := by
  have a := wt_bits_lt o i
  have b : 2 ^ i ≤ 2 ^ 3 := Nat.pow_le_pow_right (by decide) (by omega)
  omega
section
variable {x_time x_partCount x_wrongAt x_changeCount x_transactions x_logStart x_snapshotStart x_placesLeft : Int32} {x_tree x_treeBefore x_timeouts x_deadlines x_events x_eventCounts x_watchSessions x_watchKinds x_watchPaths x_partKinds x_partPaths x_partAs x_partBs x_changePaths x_changeKinds : Nat → Int32}
variable {y_time y_last y_watchCount y_partCount y_wrong y_changes y_log y_since y_placesLeft : Int32} {y_paths y_values y_open y_timeouts y_deadlines y_events y_eventCounts y_watchers y_watchKinds y_watchPaths y_parts y_happened y_how : Nat → Int32}
theorem wx_state_lp {post : Int32 → Prop} {B : Nat} (hT : wt_T x_tree y_paths y_values) (hS : wt_S B x_timeouts x_deadlines y_open y_timeouts y_deadlines) (hp : post (nI (wt_bits y_open 4) + 16 * nI (wt_ct (wt_nd y_paths) 21))) : ∀ d i, i + d = 4 → wX_state_4 post x_time x_partCount x_wrongAt x_changeCount x_transactions x_logStart x_snapshotStart x_placesLeft x_tree x_treeBefore x_timeouts x_deadlines x_events x_eventCounts x_watchSessions x_watchKinds x_watchPaths x_partKinds x_partPaths x_partAs x_partBs x_changePaths x_changeKinds (d + 1) (nI (wt_bits y_open i)) (nI i) := by
  intro d
  induction d with
  | zero =>
    intro i hi
    have e : i = 4 := by omega
    subst e
    exact br_t (nI_le (a := 4) (b := 4) (by omega) (by omega)) (wx_cnd hT hp)
  | succ d ih =>
    intro i hi
    have hn := ih (i + 1) (by omega)
    refine br_f (nI_ge (b := 4) (by omega) (by omega)) ?_
    by_cases h : y_open i = 0
    · rw [wt_bits_0 h] at hn
      refine wx_open_f (fun s hs e => ?_) (br_t rfl (nm_r (nI_1 i) hn))
      have e2 : i = s := (nI_eq (by omega) (by omega)).mp e
      subst e2
      exact (wt_S_xt hS hs).mpr h
    · rw [wt_bits_1 h] at hn
      refine wx_open_t (by omega) (fun z => h ((wt_S_xt hS (by omega)).mp z)) (br_f (by decide) (nm_r (wt_or0 i (by omega) _ (wt_bits_8 _ _ (by omega)) (wt_bits_lt _ _)) (nm_r (nI_1 i) hn)))
theorem wy_state_lp {post : Int32 → Prop} {c : Nat} (hc : c < 21) (hp : post (nI (16 * c + wt_bits y_open 4))) : ∀ d i, i + d = 4 → wY_state_10 post y_time y_last y_watchCount y_partCount y_wrong y_changes y_log y_since y_placesLeft y_paths y_values y_open y_timeouts y_deadlines y_events y_eventCounts y_watchers y_watchKinds y_watchPaths y_parts y_happened y_how (d + 1) (nI (16 * c + wt_bits y_open i)) (nI i) := by
  intro d
  induction d with
  | zero =>
    intro i hi
    have e : i = 4 := by omega
    subst e
    exact br_t (nI_le (a := 4) (b := 4) (by omega) (by omega)) hp
  | succ d ih =>
    intro i hi
    have hn := ih (i + 1) (by omega)
    have ci : (nI i).toNatClampNeg = i := nI_clamp (by omega)
    refine br_f (nI_ge (b := 4) (by omega) (by omega)) ⟨vp_in_nI (by omega) (by omega), ?_⟩
    rw [ci]
    by_cases h : y_open i = 0
    · rw [wt_bits_0 h] at hn
      exact br_t h (nm_r (nI_1 i) hn)
    · rw [wt_bits_1 h] at hn
      exact br_f h (nm_r (wt_or c hc i (by omega) _ (wt_bits_8 _ _ (by omega)) (wt_bits_lt _ _)) (nm_r (nI_1 i) hn))
end
theorem i_vc_state {k : Nat} {u : SX} {v : SY} (I : i_Rel k u v) (hk : k + 5 ≤ 2560) : wpX_state (fun r => wpY_state (fun r' => r' = r ∧ i_Rel (k + 5) u v) v) u := by
  have I' := i_up I
  obtain ⟨x_time, x_partCount, x_wrongAt, x_changeCount, x_transactions, x_logStart, x_snapshotStart, x_placesLeft, x_tree, x_treeBefore, x_timeouts, x_deadlines, x_events, x_eventCounts, x_watchSessions, x_watchKinds, x_watchPaths, x_partKinds, x_partPaths, x_partAs, x_partBs, x_changePaths, x_changeKinds⟩ := u
  obtain ⟨y_time, y_last, y_watchCount, y_partCount, y_wrong, y_changes, y_log, y_since, y_placesLeft, y_paths, y_values, y_open, y_timeouts, y_deadlines, y_events, y_eventCounts, y_watchers, y_watchKinds, y_watchPaths, y_parts, y_happened, y_how⟩ := v
  obtain ⟨hT, hI, hV, hS, ⟨t, ht, et, et'⟩, hE, hW, hP, hw, hN, hc⟩ := I
  have h20 := wt_ct_le (wt_nd y_paths) 21
  have h21 := wt_ct_le20 (wt_nd0 hI)
  refine ⟨5, wx_state_lp hT hS ?_ 4 0 rfl⟩
  unfold wpY_state
  refine wy_many hI (nm_r (e' := nI (16 * wt_ct (wt_nd y_paths) 21 + wt_bits y_open 0)) (pk_mul 16 _) ⟨5, wy_state_lp (by omega) ⟨?_, I'⟩ 4 0 rfl⟩)
  have e : (16 : Int32) * nI (wt_ct (wt_nd y_paths) 21) = nI (16 * wt_ct (wt_nd y_paths) 21) := pk_mul 16 _
  rw [e, nI_add, Nat.add_comm]
theorem i_vc_watches {k : Nat} {u : SX} {v : SY} (I : i_Rel k u v) (hk : k + 5 ≤ 2560) : wpX_watches (fun r => wpY_watches (fun r' => r' = r ∧ i_Rel (k + 5) u v) v) u := by
  have I' := i_up I
  obtain ⟨x_time, x_partCount, x_wrongAt, x_changeCount, x_transactions, x_logStart, x_snapshotStart, x_placesLeft, x_tree, x_treeBefore, x_timeouts, x_deadlines, x_events, x_eventCounts, x_watchSessions, x_watchKinds, x_watchPaths, x_partKinds, x_partPaths, x_partAs, x_partBs, x_changePaths, x_changeKinds⟩ := u
  obtain ⟨y_time, y_last, y_watchCount, y_partCount, y_wrong, y_changes, y_log, y_since, y_placesLeft, y_paths, y_values, y_open, y_timeouts, y_deadlines, y_events, y_eventCounts, y_watchers, y_watchKinds, y_watchPaths, y_parts, y_happened, y_how⟩ := v
  obtain ⟨hT, hI, hV, hS, ⟨t, ht, et, et'⟩, hE, ⟨c, hc16, hwc, h3, h4⟩, hP, hw, hN, hc⟩ := I
  refine wx_watches ⟨?_, I'⟩
  have e := h3 (fun _ _ _ => true)
  rw [wt_W_all] at e
  have e2 : wt_ct (fun j => decide (¬ x_watchSessions j = -1)) 16 = wt_X x_watchSessions x_watchKinds x_watchPaths (fun _ _ _ => true) := wt_ct_cg 16 (fun j hj => by
    show decide (¬ x_watchSessions j = -1) = (!decide (x_watchSessions j = -1) && true)
    rw [Bool.and_true, decide_not])
  rw [e2, e]
  exact hwc
theorem wt_le5 {v : Int32} (h0 : ¬ v < 0) (h5 : v ≤ 5) : ∃ j, j < 6 ∧ v = nI j := by
  obtain ⟨j, hj, e⟩ := nI_of2 (M := 5) (n := 5) (by decide) h0 h5
  exact ⟨j, by omega, e⟩
theorem i_vc_node {k : Nat} {u : SX} {v : SY} (I : i_Rel k u v) (hk : k + 5 ≤ 2560) (v1 : Int32) (v2 : Int32) : wpX_node (fun r => wpY_node (fun r' => r' = r ∧ i_Rel (k + 5) u v) v v1 v2) u v1 v2 := by
  have I' := i_up I
  obtain ⟨x_time, x_partCount, x_wrongAt, x_changeCount, x_transactions, x_logStart, x_snapshotStart, x_placesLeft, x_tree, x_treeBefore, x_timeouts, x_deadlines, x_events, x_eventCounts, x_watchSessions, x_watchKinds, x_watchPaths, x_partKinds, x_partPaths, x_partAs, x_partBs, x_changePaths, x_changeKinds⟩ := u
  obtain ⟨y_time, y_last, y_watchCount, y_partCount, y_wrong, y_changes, y_log, y_since, y_placesLeft, y_paths, y_values, y_open, y_timeouts, y_deadlines, y_events, y_eventCounts, y_watchers, y_watchKinds, y_watchPaths, y_parts, y_happened, y_how⟩ := v
  obtain ⟨hT, hI, hV, hS, ⟨t, ht, et, et'⟩, hE, hW, hP, hw, hN, hc⟩ := I
  unfold wpX_node wpY_node
  by_cases hq : wt_fd y_paths v1 < 21
  · refine wx_find_t hT hq (br_f (wt_nn (by omega)) ?_)
    by_cases h6 : v2 = 6
    · refine br_t h6 (wx_cch hT (wy_find_t hq (br_f (nI_pos (by omega)) (br_f (by rw [h6]; decide) (br_t (by rw [h6]; decide) (br_t h6 (wy_chi hI ⟨rfl, I'⟩)))))))
    · refine br_f h6 (br_c (fun h0 => ?_) (fun h0 => br_c (fun h5 => ?_) (fun h5 => ?_)))
      · exact wy_find_t hq (br_f (nI_pos (by omega)) (br_t h0 ⟨rfl, I'⟩))
      · obtain ⟨j, hj, rfl⟩ := wt_le5 h0 h5
        refine ⟨wt_7in _ j hq (by omega), wy_find_t hq (br_f (nI_pos (by omega)) (br_f h0 (br_t (nI_le (b := 6) (by omega) (by omega)) (br_f h6 ⟨wt_6in _ j hq hj, ?_, I'⟩))))⟩
        rw [wt_7c _ j hq (by omega), wt_6c _ j hq hj, (hT _ hq).2 j hj]
      · refine wy_find_t hq (br_f (nI_pos (by omega)) (br_f h0 (br_f (fun z => ?_) ⟨rfl, I'⟩)))
        obtain ⟨j, hj, e⟩ := nI_of2 (M := 6) (n := 6) (by decide) h0 z
        subst e
        by_cases j6 : j = 6
        · subst j6; exact h6 rfl
        · exact h5 (nI_le (b := 5) (by omega) (by omega))
  · exact wx_find_f hT hq (br_t rfl (wy_find_f hq (br_t (by decide) ⟨rfl, I'⟩)))
section
variable {x_time x_partCount x_wrongAt x_changeCount x_transactions x_logStart x_snapshotStart x_placesLeft : Int32} {x_tree x_treeBefore x_timeouts x_deadlines x_events x_eventCounts x_watchSessions x_watchKinds x_watchPaths x_partKinds x_partPaths x_partAs x_partBs x_changePaths x_changeKinds : Nat → Int32}
variable {y_time y_last y_watchCount y_partCount y_wrong y_changes y_log y_since y_placesLeft : Int32} {y_paths y_values y_open y_timeouts y_deadlines y_events y_eventCounts y_watchers y_watchKinds y_watchPaths y_parts y_happened y_how : Nat → Int32}
theorem wt_child_lp {a : Nat} {k : Int32} (ha : a ≤ 1030300) (hT : wt_T x_tree y_paths y_values) (hI : wt_I y_paths y_values) : ∀ d i, i + d = 100 → ∀ m : Int32, ∃ r : Int32, (∀ post : Int32 → Prop, post r → wX_child_20 post (nI a) k x_time x_partCount x_wrongAt x_changeCount x_transactions x_logStart x_snapshotStart x_placesLeft x_tree x_treeBefore x_timeouts x_deadlines x_events x_eventCounts x_watchSessions x_watchKinds x_watchPaths x_partKinds x_partPaths x_partAs x_partBs x_changePaths x_changeKinds (d + 1) m (nI i)) ∧ (∀ post : Int32 → Prop, post r → wY_child_19 post (nI a) k y_time y_last y_watchCount y_partCount y_wrong y_changes y_log y_since y_placesLeft y_paths y_values y_open y_timeouts y_deadlines y_events y_eventCounts y_watchers y_watchKinds y_watchPaths y_parts y_happened y_how (d + 1) m (nI i)) := by
  intro d
  induction d with
  | zero =>
    intro i hi m
    have e : i = 100 := by omega
    subst e
    have l : (100 : Int32) ≤ nI 100 := nI_le (a := 100) (b := 100) (by omega) (by omega)
    exact ⟨-1, fun post hp => br_t l hp, fun post hp => br_t l hp⟩
  | succ d ih =>
    intro i hi m
    have l : ¬ (100 : Int32) ≤ nI i := nI_ge (b := 100) (by omega) (by omega)
    have e1 : nI a * 101 + nI i + 1 = nI (a * 101 + i + 1) := by rw [wt_101, pk_mul, nI_add, nI_1]
    by_cases big : 10201 ≤ a
    · obtain ⟨r, hX, hY⟩ := ih (i + 1) (by omega) m
      have lb : (10201 : Int32) ≤ nI a := nI_le (a := 10201) big (by omega)
      have hn : ¬ wt_fd y_paths (nI (a * 101 + i + 1)) < 21 := fun z => by
        have q := (wt_fd_at z).1
        rcases wt_I_any hI z with y | ⟨b, b1, b2⟩
        · rw [q] at y
          exact wt_nn (by omega) y
        · rw [q] at b2
          have := (nI_eq (by omega) (by omega)).mp b2
          omega
      have hn2 : ¬ wt_fd y_paths (-1) < 21 := by
        rw [wt_fd_neg wt_m1]; omega
      refine ⟨r, fun post hp => ?_, fun post hp => ?_⟩
      · exact br_f l (nm_r e1 (wx_find_f hT hn (br_t rfl (nm_r (nI_1 i) (hX post hp)))))
      · refine br_f l (br_t lb ?_)
        exact wy_find_f hn2 (br_t (by decide) (nm_r (nI_1 i) (hY post hp)))
    · have lb : ¬ (10201 : Int32) ≤ nI a := nI_ge (b := 10201) (by omega) (by omega)
      by_cases hq : wt_fd y_paths (nI (a * 101 + i + 1)) < 21
      · by_cases hm : m = k
        · refine ⟨nI (a * 101 + i + 1), fun post hp => ?_, fun post hp => ?_⟩
          · exact br_f l (nm_r e1 (wx_find_t hT hq (br_f (wt_nn (by omega)) (br_t hm hp))))
          · refine br_f l (br_f lb ?_)
            rw [e1]
            exact wy_find_t hq (br_f (nI_pos (by omega)) (nm_e (br_t hm hp)))
        · obtain ⟨r, hX, hY⟩ := ih (i + 1) (by omega) (m + 1)
          refine ⟨r, fun post hp => ?_, fun post hp => ?_⟩
          · exact br_f l (nm_r e1 (wx_find_t hT hq (br_f (wt_nn (by omega)) (br_f hm (nm_e (nm_r (nI_1 i) (hX post hp)))))))
          · refine br_f l (br_f lb ?_)
            rw [e1]
            exact wy_find_t hq (br_f (nI_pos (by omega)) (nm_e (br_f hm (nm_r (nI_1 i) (hY post hp)))))
      · obtain ⟨r, hX, hY⟩ := ih (i + 1) (by omega) m
        refine ⟨r, fun post hp => ?_, fun post hp => ?_⟩
        · exact br_f l (nm_r e1 (wx_find_f hT hq (br_t rfl (nm_r (nI_1 i) (hX post hp)))))
        · refine br_f l (br_f lb ?_)
          rw [e1]
          exact wy_find_f hq (br_t (by decide) (nm_r (nI_1 i) (hY post hp)))
end
theorem i_vc_child {k : Nat} {u : SX} {v : SY} (I : i_Rel k u v) (hk : k + 5 ≤ 2560) (v1 : Int32) (v2 : Int32) : wpX_child (fun r => wpY_child (fun r' => r' = r ∧ i_Rel (k + 5) u v) v v1 v2) u v1 v2 := by
  have I' := i_up I
  obtain ⟨x_time, x_partCount, x_wrongAt, x_changeCount, x_transactions, x_logStart, x_snapshotStart, x_placesLeft, x_tree, x_treeBefore, x_timeouts, x_deadlines, x_events, x_eventCounts, x_watchSessions, x_watchKinds, x_watchPaths, x_partKinds, x_partPaths, x_partAs, x_partBs, x_changePaths, x_changeKinds⟩ := u
  obtain ⟨y_time, y_last, y_watchCount, y_partCount, y_wrong, y_changes, y_log, y_since, y_placesLeft, y_paths, y_values, y_open, y_timeouts, y_deadlines, y_events, y_eventCounts, y_watchers, y_watchKinds, y_watchPaths, y_parts, y_happened, y_how⟩ := v
  obtain ⟨hT, hI, hV, hS, ⟨t, ht, et, et'⟩, hE, hW, hP, hw, hN, hc⟩ := I
  unfold wpX_child wpY_child
  by_cases hq : wt_fd y_paths v1 < 21
  · by_cases h0 : v2 < 0
    · exact br_t h0 (wy_find_t hq (br_f (nI_pos (by omega)) (br_f (fun z => Int32.not_le.mpr h0 z) ⟨rfl, I'⟩)))
    · have q := (wt_fd_at hq).1
      obtain ⟨a, ha, e⟩ : ∃ a, a ≤ 1030300 ∧ v1 = nI a := by
        rcases wt_I_any hI hq with y | ⟨b, b1, b2⟩
        · rw [q] at y
          exact absurd (y ▸ (wt_fd_at hq).2) (by decide)
        · exact ⟨b, b1, q.symm.trans b2⟩
      subst e
      obtain ⟨r, hX, hY⟩ := wt_child_lp (x_time := x_time) (x_partCount := x_partCount) (x_wrongAt := x_wrongAt) (x_changeCount := x_changeCount) (x_transactions := x_transactions) (x_logStart := x_logStart) (x_snapshotStart := x_snapshotStart) (x_placesLeft := x_placesLeft) (x_tree := x_tree) (x_treeBefore := x_treeBefore) (x_timeouts := x_timeouts) (x_deadlines := x_deadlines) (x_events := x_events) (x_eventCounts := x_eventCounts) (x_watchSessions := x_watchSessions) (x_watchKinds := x_watchKinds) (x_watchPaths := x_watchPaths) (x_partKinds := x_partKinds) (x_partPaths := x_partPaths) (x_partAs := x_partAs) (x_partBs := x_partBs) (x_changePaths := x_changePaths) (x_changeKinds := x_changeKinds) (y_time := y_time) (y_last := y_last) (y_watchCount := y_watchCount) (y_partCount := y_partCount) (y_wrong := y_wrong) (y_changes := y_changes) (y_log := y_log) (y_since := y_since) (y_placesLeft := y_placesLeft) (y_paths := y_paths) (y_values := y_values) (y_open := y_open) (y_timeouts := y_timeouts) (y_deadlines := y_deadlines) (y_events := y_events) (y_eventCounts := y_eventCounts) (y_watchers := y_watchers) (y_watchKinds := y_watchKinds) (y_watchPaths := y_watchPaths) (y_parts := y_parts) (y_happened := y_happened) (y_how := y_how) (k := v2) ha hT hI 100 0 rfl 0
      exact br_f h0 (wx_find_t hT hq (br_f (wt_nn (by omega)) ⟨101, hX _ (wy_find_t hq (br_f (nI_pos (by omega)) (br_t (wt_lt_ge h0) ⟨101, hY _ ⟨rfl, I'⟩⟩)))⟩))
  · refine br_c (fun h0 => wy_find_f hq (br_t (by decide) ⟨rfl, I'⟩)) (fun h0 => wx_find_f hT hq (br_t rfl (wy_find_f hq (br_t (by decide) ⟨rfl, I'⟩))))
