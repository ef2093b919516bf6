section
variable {x_time x_partCount x_wrongAt x_changeCount x_transactions x_logStart x_snapshotStart x_placesLeft : Int32} {x_tree x_treeBefore x_timeouts x_deadlines x_events x_eventCounts x_watchSessions x_watchKinds x_watchPaths x_partKinds x_partPaths x_partAs x_partBs x_changePaths x_changeKinds : Nat → Int32}
variable {y_time y_last y_watchCount y_partCount y_wrong y_changes y_log y_since y_placesLeft : Int32} {y_paths y_values y_open y_timeouts y_deadlines y_events y_eventCounts y_watchers y_watchKinds y_watchPaths y_parts y_happened y_how : Nat → Int32}
variable {p w : Nat → Int32}
theorem wx_note {post : SX → Prop} {c : Nat} {k x : Int32} (hc : c < 20) (hp : post (x_time, x_partCount, x_wrongAt, (nI (c + 1)), x_transactions, x_logStart, x_snapshotStart, x_placesLeft, x_tree, x_treeBefore, x_timeouts, x_deadlines, x_events, x_eventCounts, x_watchSessions, x_watchKinds, x_watchPaths, x_partKinds, x_partPaths, x_partAs, x_partBs, (upd x_changePaths c x), (upd x_changeKinds c k))) : wpX_noteChange post (x_time, x_partCount, x_wrongAt, (nI c), x_transactions, x_logStart, x_snapshotStart, x_placesLeft, x_tree, x_treeBefore, x_timeouts, x_deadlines, x_events, x_eventCounts, x_watchSessions, x_watchKinds, x_watchPaths, x_partKinds, x_partPaths, x_partAs, x_partBs, x_changePaths, x_changeKinds) k x := by
  have v : vp_in (nI c) 20 := vp_in_nI hc (by omega)
  have e : (nI c).toNatClampNeg = c := nI_clamp (by omega)
  exact br_f (nI_pos (by omega)) (br_f (nI_ge (b := 20) hc (by omega)) ⟨v, nm_r (by rw [e]) ⟨v, nm_r (by rw [e]) (nm_r (nI_1 c) hp)⟩⟩)
theorem wx_take {post : Int32 → SX → Prop} {f c : Nat} (hT : wt_T x_tree p w) (hI : wt_I p w) (f1 : 1 ≤ f) (hf : f < 21) (hpf : ¬ p f = -1) (hc : c < 20) (h : post (w (6 * wt_fd p (p f / 101) + 2) + 1) (x_time, x_partCount, x_wrongAt, (nI (c + 1)), x_transactions, x_logStart, x_snapshotStart, x_placesLeft, (upd (upd x_tree (7 * f + 6) (-1)) (7 * wt_fd p (p f / 101) + 2) (w (6 * wt_fd p (p f / 101) + 2) + 1)), x_treeBefore, x_timeouts, x_deadlines, x_events, x_eventCounts, x_watchSessions, x_watchKinds, x_watchPaths, x_partKinds, x_partPaths, x_partAs, x_partBs, (upd x_changePaths c (p f)), (upd x_changeKinds c 2))) : wpX_takeNodeAway post (x_time, x_partCount, x_wrongAt, (nI c), x_transactions, x_logStart, x_snapshotStart, x_placesLeft, x_tree, x_treeBefore, x_timeouts, x_deadlines, x_events, x_eventCounts, x_watchSessions, x_watchKinds, x_watchPaths, x_partKinds, x_partPaths, x_partAs, x_partBs, x_changePaths, x_changeKinds) (nI (7 * f)) := by
  obtain ⟨a1, a2, a3, _⟩ := wt_I_pa hI f1 hf hpf
  have ct : x_tree (nI (7 * f) + 6).toNatClampNeg = p f := (congrArg x_tree (wt_7c f 6 hf (by omega))).trans (hT f hf).1
  have cu : upd x_tree (nI (7 * f) + 6).toNatClampNeg (-1) = upd x_tree (7 * f + 6) (-1) := by
    have q := wt_7c f 6 hf (by omega)
    exact congrArg (fun i => upd x_tree i (-1)) q
  have T1 : wt_T (upd x_tree (7 * f + 6) (-1)) (upd p f (-1)) w := wt_T_p hT (-1)
  refine ⟨wt_7in f 6 hf (by omega), nm_r ct ⟨wt_7in f 6 hf (by omega), nm_r cu ?_⟩⟩
  refine wx_note hc ⟨wt_ne101, wx_find_t T1 (by rw [a2]; exact a1) ?_⟩
  rw [a2]
  generalize hq : wt_fd p (p f / 101) = q at *
  have in2 := wt_7in q 2 a1 (by omega)
  have c2 := wt_7c q 2 a1 (by omega)
  have v2 : upd x_tree (7 * f + 6) (-1) (nI (7 * q) + 2).toNatClampNeg = w (6 * q + 2) := (congrArg (upd x_tree (7 * f + 6) (-1)) c2).trans ((T1 q a1).2 2 (by omega))
  have u2 : upd (upd x_tree (7 * f + 6) (-1)) (nI (7 * q) + 2).toNatClampNeg (upd x_tree (7 * f + 6) (-1) (nI (7 * q) + 2).toNatClampNeg + 1) = upd (upd x_tree (7 * f + 6) (-1)) (7 * q + 2) (w (6 * q + 2) + 1) := by
    rw [v2]
    exact congrArg (fun i => upd (upd x_tree (7 * f + 6) (-1)) i (w (6 * q + 2) + 1)) c2
  refine br_f (wt_nn (by omega)) ⟨in2, in2, nm_r u2 ⟨in2, ?_⟩⟩
  have r2 : upd (upd x_tree (7 * f + 6) (-1)) (7 * q + 2) (w (6 * q + 2) + 1) (nI (7 * q) + 2).toNatClampNeg = w (6 * q + 2) + 1 := (congrArg (upd (upd x_tree (7 * f + 6) (-1)) (7 * q + 2) (w (6 * q + 2) + 1)) c2).trans pk_us
  rw [r2]
  exact h
theorem wy_take {post : Int32 → SY → Prop} {f c : Nat} (hI : wt_I y_paths y_values) (f1 : 1 ≤ f) (hf : f < 21) (hpf : ¬ y_paths f = -1) (hc : c < 21) (h : post (y_values (6 * wt_fd y_paths (y_paths f / 101) + 2) + 1) (y_time, y_last, y_watchCount, y_partCount, y_wrong, (nI (c + 1)), y_log, y_since, y_placesLeft, (upd y_paths f (-1)), (upd y_values (6 * wt_fd y_paths (y_paths f / 101) + 2) (y_values (6 * wt_fd y_paths (y_paths f / 101) + 2) + 1)), y_open, y_timeouts, y_deadlines, y_events, y_eventCounts, y_watchers, y_watchKinds, y_watchPaths, y_parts, (upd y_happened c (y_paths f)), (upd y_how c 2))) : wpY_take post (y_time, y_last, y_watchCount, y_partCount, y_wrong, (nI c), y_log, y_since, y_placesLeft, y_paths, y_values, y_open, y_timeouts, y_deadlines, y_events, y_eventCounts, y_watchers, y_watchKinds, y_watchPaths, y_parts, y_happened, y_how) (nI f) := by
  obtain ⟨a1, _, _, _⟩ := wt_I_pa hI f1 hf hpf
  have v : vp_in (nI f) 42 := vp_in_nI (by omega) (by omega)
  have e : (nI f).toNatClampNeg = f := nI_clamp (by omega)
  refine ⟨v, wt_ne101, ?_⟩
  rw [e]
  refine wy_find_t a1 ⟨v, wy_note hc ⟨v, nm_e ?_⟩⟩
  generalize hq : wt_fd y_paths (y_paths f / 101) = q at *
  have in2 := wt_6in q 2 a1 (by omega)
  have c2 := wt_6c q 2 a1 (by omega)
  have v2 : y_values (6 * nI q + 2).toNatClampNeg = y_values (6 * q + 2) := congrArg y_values c2
  refine ⟨in2, in2, nm_r (e' := upd y_values (6 * q + 2) (y_values (6 * q + 2) + 1)) ?_ ?_⟩
  · rw [v2]
    exact congrArg (fun i => upd y_values i (y_values (6 * q + 2) + 1)) c2
  · rw [v2]
    exact h
/-- what holds after both sides have taken a node away -/
theorem wt_taken {B c f : Nat} {t xk xp yh yw : Nat → Int32} (hT : wt_T t p w) (hI : wt_I p w) (hV : wt_V B w) (hC : wt_C c xk xp yh yw) (hc : c < 20) (hB : B < 2 ^ 30) (f1 : 1 ≤ f) (hf : f < 21) (hpf : ¬ p f = -1) (hn : ¬ w (6 * f + 5) = -1 ∨ ∀ j, j < 21 → 0 < p j → ¬ p j / 101 = p f) : wt_T (upd (upd t (7 * f + 6) (-1)) (7 * wt_fd p (p f / 101) + 2) (w (6 * wt_fd p (p f / 101) + 2) + 1)) (upd p f (-1)) (upd w (6 * wt_fd p (p f / 101) + 2) (w (6 * wt_fd p (p f / 101) + 2) + 1)) ∧ wt_I (upd p f (-1)) (upd w (6 * wt_fd p (p f / 101) + 2) (w (6 * wt_fd p (p f / 101) + 2) + 1)) ∧ wt_V (B + 1) (upd w (6 * wt_fd p (p f / 101) + 2) (w (6 * wt_fd p (p f / 101) + 2) + 1)) ∧ wt_C (c + 1) (upd xk c 2) (upd xp c (p f)) (upd yh c (p f)) (upd yw c 2) ∧ ¬ w (6 * wt_fd p (p f / 101) + 2) + 1 < 0 := by
  · obtain ⟨a1, a2, a3, a, b1, b2, b3⟩ := wt_I_pa hI f1 hf hpf
    obtain ⟨z, z1, z2⟩ := hV _ a1 2 (Or.inr rfl)
    refine ⟨wt_T_w (wt_T_p hT (-1)) (by omega) _, wt_I_tk hI f1 hn (fun j hj => pk_un (by omega)), wt_V_i hV a1 (Or.inr rfl), wt_C_s hC hc (Or.inr (Or.inl rfl)) ⟨a, b2, b3⟩, ?_⟩
    rw [z2, nI_1]
    exact nI_pos (by omega)
end
