def wt_Q3 (s k q : Int32) : Int32 → Int32 → Int32 → Bool := fun a b c => decide (a = s ∧ b = k ∧ c = q)
theorem wt_fs_lt {P : Nat → Bool} {n : Nat} : wt_fs P n 0 < n ↔ ∃ j, j < n ∧ P j = true := by
  obtain ⟨_, b, c, e⟩ := wt_fs_spec P n 0
  constructor
  · intro h
    exact ⟨_, h, c (by omega)⟩
  · rintro ⟨j, hj, h⟩
    exact Nat.lt_of_le_of_lt (Nat.not_lt.mp (fun z => e j (by omega) z h)) hj
theorem wt_ct_pos {P : Nat → Bool} {n : Nat} : (∃ j, j < n ∧ P j = true) ↔ ¬ wt_ct P n = 0 := by
  constructor
  · rintro ⟨j, hj, h⟩ z
    exact (wt_ct_0 n).mp z j hj h
  · intro z
    refine Classical.byContradiction (fun y => z ((wt_ct_0 n).mpr (fun j hj h => y ⟨j, hj, h⟩)))
section
variable {x_time x_partCount x_wrongAt x_changeCount x_transactions x_logStart x_snapshotStart x_placesLeft : Int32} {x_tree x_treeBefore x_timeouts x_deadlines x_events x_eventCounts x_watchSessions x_watchKinds x_watchPaths x_partKinds x_partPaths x_partAs x_partBs x_changePaths x_changeKinds : Nat → Int32}
variable {y_time y_last y_watchCount y_partCount y_wrong y_changes y_log y_since y_placesLeft : Int32} {y_paths y_values y_open y_timeouts y_deadlines y_events y_eventCounts y_watchers y_watchKinds y_watchPaths y_parts y_happened y_how : Nat → Int32}
theorem wy_watch_lp {post : Int32 → SY → Prop} {s k q : Int32} {c : Nat} (hc : c ≤ 16) (h0 : (∃ j, j < c ∧ wt_Q3 s k q (y_watchers j) (y_watchKinds j) (y_watchPaths j) = true) → post 0 (y_time, y_last, (nI c), y_partCount, y_wrong, y_changes, y_log, y_since, y_placesLeft, y_paths, y_values, y_open, y_timeouts, y_deadlines, y_events, y_eventCounts, y_watchers, y_watchKinds, y_watchPaths, y_parts, y_happened, y_how)) (hf : (¬ ∃ j, j < c ∧ wt_Q3 s k q (y_watchers j) (y_watchKinds j) (y_watchPaths j) = true) → c = 16 → post (-6) (y_time, y_last, (nI c), y_partCount, y_wrong, y_changes, y_log, y_since, y_placesLeft, y_paths, y_values, y_open, y_timeouts, y_deadlines, y_events, y_eventCounts, y_watchers, y_watchKinds, y_watchPaths, y_parts, y_happened, y_how)) (ha : (¬ ∃ j, j < c ∧ wt_Q3 s k q (y_watchers j) (y_watchKinds j) (y_watchPaths j) = true) → c < 16 → post 1 (y_time, y_last, (nI (c + 1)), y_partCount, y_wrong, y_changes, y_log, y_since, y_placesLeft, y_paths, y_values, y_open, y_timeouts, y_deadlines, y_events, y_eventCounts, (upd y_watchers c s), (upd y_watchKinds c k), (upd y_watchPaths c q), y_parts, y_happened, y_how)) : ∀ d i, i + d = c → (∀ j, j < i → ¬ wt_Q3 s k q (y_watchers j) (y_watchKinds j) (y_watchPaths j) = true) → wY_watch_48 post s k q y_time y_last (nI c) y_partCount y_wrong y_changes y_log y_since y_placesLeft y_paths y_values y_open y_timeouts y_deadlines y_events y_eventCounts y_watchers y_watchKinds y_watchPaths y_parts y_happened y_how (d + 1) (nI i) := by
  intro d
  induction d with
  | zero =>
    intro i hi hno
    have e : i = c := by omega
    subst e
    have no : ¬ ∃ j, j < i ∧ wt_Q3 s k q (y_watchers j) (y_watchKinds j) (y_watchPaths j) = true := fun ⟨j, a, b⟩ => hno j a b
    refine br_t (nI_le (Nat.le_refl _) (by omega)) ?_
    by_cases e16 : i = 16
    · subst e16
      exact br_t rfl (hf no rfl)
    · have v : vp_in (nI i) 16 := vp_in_nI (by omega) (by omega)
      have e : (nI i).toNatClampNeg = i := nI_clamp (by omega)
      refine br_f (fun z => ?_) ⟨v, nm_r (wt_ui _ _ e) ⟨v, nm_r (wt_ui _ _ e) (nm_r (nI_1 i) ⟨v, nm_r (wt_ui _ _ e) (ha no (by omega))⟩)⟩⟩
      have := (nI_eq (a := i) (b := 16) (by omega) (by omega)).mp z
      omega
  | succ d ih =>
    intro i hi hno
    have v : vp_in (nI i) 16 := vp_in_nI (by omega) (by omega)
    have e : (nI i).toNatClampNeg = i := nI_clamp (by omega)
    refine br_f (nI_ge (by omega) (by omega)) ⟨v, ?_⟩
    rw [e]
    by_cases g : y_watchers i = s ∧ y_watchKinds i = k ∧ y_watchPaths i = q
    · exact br_t g.1 ⟨v, br_t g.2.1 ⟨v, br_t g.2.2 (h0 ⟨i, by omega, decide_eq_true g⟩)⟩⟩
    · have hn := ih (i + 1) (by omega) (fun j hj => by
        by_cases z : j = i
        · subst z; exact fun y => g (of_decide_eq_true y)
        · exact hno j (by omega))
      exact br_c (fun g1 => ⟨v, br_c (fun g2 => ⟨v, br_f (fun g3 => g ⟨g1, g2, g3⟩) (nm_r (nI_1 i) hn)⟩) (fun _ => nm_r (nI_1 i) hn)⟩) (fun _ => nm_r (nI_1 i) hn)
end
section
variable {x_time x_partCount x_wrongAt x_changeCount x_transactions x_logStart x_snapshotStart x_placesLeft : Int32} {x_tree x_treeBefore x_timeouts x_deadlines x_events x_eventCounts x_watchSessions x_watchKinds x_watchPaths x_partKinds x_partPaths x_partAs x_partBs x_changePaths x_changeKinds : Nat → Int32}
variable {y_time y_last y_watchCount y_partCount y_wrong y_changes y_log y_since y_placesLeft : Int32} {y_paths y_values y_open y_timeouts y_deadlines y_events y_eventCounts y_watchers y_watchKinds y_watchPaths y_parts y_happened y_how : Nat → Int32}
/-- behind the tests: the session has it, or all places are taken, or it is added -/
theorem wt_watch {B s b : Nat} {q : Int32} (hs : s < 4) (ho : y_open s = 1) (hb : b ≤ 2) (hW : wt_WR y_open x_watchSessions x_watchKinds x_watchPaths y_watchers y_watchKinds y_watchPaths y_watchCount) (hR : ∀ xs xk xp ys yk yp wc, wt_WR y_open xs xk xp ys yk yp wc → wt_R B (x_time, x_partCount, x_wrongAt, x_changeCount, x_transactions, x_logStart, x_snapshotStart, x_placesLeft, x_tree, x_treeBefore, x_timeouts, x_deadlines, x_events, x_eventCounts, xs, xk, xp, x_partKinds, x_partPaths, x_partAs, x_partBs, x_changePaths, x_changeKinds) (y_time, y_last, wc, y_partCount, y_wrong, y_changes, y_log, y_since, y_placesLeft, y_paths, y_values, y_open, y_timeouts, y_deadlines, y_events, y_eventCounts, ys, yk, yp, y_parts, y_happened, y_how)) : ∃ (r : Int32) (u' : SX) (v' : SY), (∀ post : Int32 → SX → Prop, post r u' → wX_watch_46 post (nI s) (nI b) q x_time x_partCount x_wrongAt x_changeCount x_transactions x_logStart x_snapshotStart x_placesLeft x_tree x_treeBefore x_timeouts x_deadlines x_events x_eventCounts x_watchSessions x_watchKinds x_watchPaths x_partKinds x_partPaths x_partAs x_partBs x_changePaths x_changeKinds) ∧ (∀ post : Int32 → SY → Prop, post r v' → ∃ n48 : Nat, wY_watch_48 post (nI s) (nI b) q y_time y_last y_watchCount y_partCount y_wrong y_changes y_log y_since y_placesLeft y_paths y_values y_open y_timeouts y_deadlines y_events y_eventCounts y_watchers y_watchKinds y_watchPaths y_parts y_happened y_how n48 0) ∧ wt_R B u' v' := by
  obtain ⟨c, hc, rfl, h3, h4⟩ := hW
  have hW : wt_WR y_open x_watchSessions x_watchKinds x_watchPaths y_watchers y_watchKinds y_watchPaths (nI c) := ⟨c, hc, rfl, h3, h4⟩
  have hx : (∃ j, j < 16 ∧ decide (x_watchSessions j = nI s ∧ x_watchKinds j = nI b ∧ x_watchPaths j = q) = true) ↔ ∃ j, j < c ∧ wt_Q3 (nI s) (nI b) q (y_watchers j) (y_watchKinds j) (y_watchPaths j) = true := by
    have e1 : wt_ct (fun j => decide (x_watchSessions j = nI s ∧ x_watchKinds j = nI b ∧ x_watchPaths j = q)) 16 = wt_X x_watchSessions x_watchKinds x_watchPaths (wt_Q3 (nI s) (nI b) q) := wt_ct_cg 16 (fun j hj => by
      show decide (x_watchSessions j = nI s ∧ x_watchKinds j = nI b ∧ x_watchPaths j = q) = (!decide (x_watchSessions j = -1) && decide (x_watchSessions j = nI s ∧ x_watchKinds j = nI b ∧ x_watchPaths j = q))
      by_cases z : x_watchSessions j = -1
      · have f : ¬ (x_watchSessions j = nI s ∧ x_watchKinds j = nI b ∧ x_watchPaths j = q) := fun y => wt_nn (n := s) (by omega) (y.1.symm.trans z)
        rw [decide_eq_false f, Bool.and_false]
      · rw [decide_eq_false z]
        rfl)
    have e2 := h3 (wt_Q3 (nI s) (nI b) q)
    exact (wt_ct_pos (P := fun j => decide (x_watchSessions j = nI s ∧ x_watchKinds j = nI b ∧ x_watchPaths j = q))).trans (by
      rw [e1, e2]
      exact (wt_ct_pos (P := fun j => wt_Q3 (nI s) (nI b) q (y_watchers j) (y_watchKinds j) (y_watchPaths j))).symm)
  have hxf : wt_fs (fun j => decide (x_watchSessions j = nI s ∧ x_watchKinds j = nI b ∧ x_watchPaths j = q)) 16 0 < 16 ↔ ∃ j, j < 16 ∧ decide (x_watchSessions j = nI s ∧ x_watchKinds j = nI b ∧ x_watchPaths j = q) = true := wt_fs_lt
  by_cases has : ∃ j, j < c ∧ wt_Q3 (nI s) (nI b) q (y_watchers j) (y_watchKinds j) (y_watchPaths j) = true
  · refine ⟨0, (x_time, x_partCount, x_wrongAt, x_changeCount, x_transactions, x_logStart, x_snapshotStart, x_placesLeft, x_tree, x_treeBefore, x_timeouts, x_deadlines, x_events, x_eventCounts, x_watchSessions, x_watchKinds, x_watchPaths, x_partKinds, x_partPaths, x_partAs, x_partBs, x_changePaths, x_changeKinds), (y_time, y_last, (nI c), y_partCount, y_wrong, y_changes, y_log, y_since, y_placesLeft, y_paths, y_values, y_open, y_timeouts, y_deadlines, y_events, y_eventCounts, y_watchers, y_watchKinds, y_watchPaths, y_parts, y_happened, y_how), fun post hp => ?_, fun post hp => ?_, hR _ _ _ _ _ _ _ hW⟩
    · unfold wX_watch_46
      refine wx_has ?_
      rw [wt_bt (hxf.mpr (hx.mpr has))]
      exact br_f (by decide) hp
    · exact ⟨c + 1, wy_watch_lp hc (fun _ => hp) (fun z => absurd has z) (fun z => absurd has z) c 0 (by omega) (fun j hj => absurd hj (Nat.not_lt_zero _))⟩
  · have nx : ¬ wt_fs (fun j => decide (x_watchSessions j = nI s ∧ x_watchKinds j = nI b ∧ x_watchPaths j = q)) 16 0 < 16 := fun z => has (hx.mp (hxf.mp z))
    have hff : wt_fs (fun j => decide (x_watchSessions j = -1)) 16 0 < 16 ↔ ∃ j, j < 16 ∧ decide (x_watchSessions j = -1) = true := wt_fs_lt
    have hcnt : wt_ct (fun j => decide (¬ x_watchSessions j = -1)) 16 = c := by
      have e := h3 (fun _ _ _ => true)
      rw [wt_W_all] at e
      have e2 : wt_ct (fun j => decide (¬ x_watchSessions j = -1)) 16 = wt_X x_watchSessions x_watchKinds x_watchPaths (fun _ _ _ => true) := wt_ct_cg 16 (fun j hj => by
        show decide (¬ x_watchSessions j = -1) = (!decide (x_watchSessions j = -1) && true)
        rw [Bool.and_true, decide_not])
      rw [e2, e]
    by_cases hfree : wt_fs (fun j => decide (x_watchSessions j = -1)) 16 0 < 16
    · have hat : x_watchSessions (wt_fs (fun j => decide (x_watchSessions j = -1)) 16 0) = -1 := of_decide_eq_true ((wt_fs_spec (fun j => decide (x_watchSessions j = -1)) 16 0).2.2.1 (by omega))
      have lt : c < 16 := by
        apply Nat.lt_of_le_of_ne hc
        intro z
        have := (wt_ct_all (P := fun j => decide (¬ x_watchSessions j = -1)) 16).mp (hcnt.trans z) _ hfree
        exact (of_decide_eq_true this) hat
      have hr : (if wt_fs (fun j => decide (x_watchSessions j = -1)) 16 0 < 16 then nI (wt_fs (fun j => decide (x_watchSessions j = -1)) 16 0) else -1) = nI (wt_fs (fun j => decide (x_watchSessions j = -1)) 16 0) := if_pos hfree
      generalize hF : wt_fs (fun j => decide (x_watchSessions j = -1)) 16 0 = f at hfree hat hr
      refine ⟨1, (x_time, x_partCount, x_wrongAt, x_changeCount, x_transactions, x_logStart, x_snapshotStart, x_placesLeft, x_tree, x_treeBefore, x_timeouts, x_deadlines, x_events, x_eventCounts, (upd x_watchSessions f (nI s)), (upd x_watchKinds f (nI b)), (upd x_watchPaths f q), x_partKinds, x_partPaths, x_partAs, x_partBs, x_changePaths, x_changeKinds), (y_time, y_last, (nI (c + 1)), y_partCount, y_wrong, y_changes, y_log, y_since, y_placesLeft, y_paths, y_values, y_open, y_timeouts, y_deadlines, y_events, y_eventCounts, (upd y_watchers c (nI s)), (upd y_watchKinds c (nI b)), (upd y_watchPaths c q), y_parts, y_happened, y_how), fun post hp => ?_, fun post hp => ?_, hR _ _ _ _ _ _ _ (wt_WR_ad lt h3 h4 hfree hat hs ho hb)⟩
      · unfold wX_watch_46
        refine wx_has ?_
        rw [wt_bf nx]
        refine br_t rfl (wx_ffw ?_)
        rw [hF, hr]
        have v : vp_in (nI f) 16 := vp_in_nI hfree (by omega)
        have e : (nI f).toNatClampNeg = f := nI_clamp (by omega)
        exact br_f (wt_nn (by omega)) ⟨v, nm_r (wt_ui _ _ e) ⟨v, nm_r (wt_ui _ _ e) ⟨v, nm_r (wt_ui _ _ e) hp⟩⟩⟩
      · exact ⟨c + 1, wy_watch_lp hc (fun z => absurd z has) (fun _ z => absurd z (by omega)) (fun _ _ => hp) c 0 (by omega) (fun j hj => absurd hj (Nat.not_lt_zero _))⟩
    · have e16 : c = 16 := by
        rw [← hcnt]
        refine (wt_ct_all 16).mpr (fun j hj => decide_eq_true (fun z => hfree (hff.mpr ⟨j, hj, decide_eq_true z⟩)))
      refine ⟨-6, (x_time, x_partCount, x_wrongAt, x_changeCount, x_transactions, x_logStart, x_snapshotStart, x_placesLeft, x_tree, x_treeBefore, x_timeouts, x_deadlines, x_events, x_eventCounts, x_watchSessions, x_watchKinds, x_watchPaths, x_partKinds, x_partPaths, x_partAs, x_partBs, x_changePaths, x_changeKinds), (y_time, y_last, (nI c), y_partCount, y_wrong, y_changes, y_log, y_since, y_placesLeft, y_paths, y_values, y_open, y_timeouts, y_deadlines, y_events, y_eventCounts, y_watchers, y_watchKinds, y_watchPaths, y_parts, y_happened, y_how), fun post hp => ?_, fun post hp => ?_, hR _ _ _ _ _ _ _ hW⟩
      · unfold wX_watch_46
        refine wx_has ?_
        rw [wt_bf nx]
        refine br_t rfl (wx_ffw ?_)
        rw [if_neg hfree]
        exact br_t rfl hp
      · exact ⟨c + 1, wy_watch_lp hc (fun z => absurd z has) (fun _ _ => hp) (fun _ z => absurd z (by omega)) c 0 (by omega) (fun j hj => absurd hj (Nat.not_lt_zero _))⟩
end
theorem i_vc_watch {k : Nat} {u : SX} {v : SY} (I : i_Rel k u v) (hk : k + 5 ≤ 2560) (v1 : Int32) (v2 : Int32) (v3 : Int32) : wpX_watch (fun r u' => wpY_watch (fun r' v' => r' = r ∧ i_Rel (k + 5) u' v') v v1 v2 v3) u v1 v2 v3 := by
  have I' := i_up I
  obtain ⟨x_time, x_partCount, x_wrongAt, x_changeCount, x_transactions, x_logStart, x_snapshotStart, x_placesLeft, x_tree, x_treeBefore, x_timeouts, x_deadlines, x_events, x_eventCounts, x_watchSessions, x_watchKinds, x_watchPaths, x_partKinds, x_partPaths, x_partAs, x_partBs, x_changePaths, x_changeKinds⟩ := u
  obtain ⟨y_time, y_last, y_watchCount, y_partCount, y_wrong, y_changes, y_log, y_since, y_placesLeft, y_paths, y_values, y_open, y_timeouts, y_deadlines, y_events, y_eventCounts, y_watchers, y_watchKinds, y_watchPaths, y_parts, y_happened, y_how⟩ := v
  have I2 := I'
  obtain ⟨hT, hI, hV, hS, hti, hE, hW, hP, hw, hN, hc⟩ := I2
  unfold wpX_watch wpY_watch
  rcases wt_cases hS v1 with ⟨s, hs, rfl, ho, hx⟩ | ⟨hx, hy⟩
  · refine wx_open_t hs hx (br_f (by decide) ?_)
    by_cases h0 : v2 < 0
    · exact br_t h0 (wy_open_t hs ho (br_f (by decide) (br_t h0 ⟨rfl, I'⟩)))
    · by_cases h2 : v2 ≤ 2
      · obtain ⟨b, hb, rfl⟩ := nI_of2 (M := 2) (n := 2) (by decide) h0 h2
        refine br_f h0 (br_t h2 ?_)
        by_cases hip : wt_ip v3 = true
        · obtain ⟨r, u', v', hX, hY, hR⟩ := wt_watch (x_time := x_time) (x_partCount := x_partCount) (x_wrongAt := x_wrongAt) (x_changeCount := x_changeCount) (x_transactions := x_transactions) (x_logStart := x_logStart) (x_snapshotStart := x_snapshotStart) (x_placesLeft := x_placesLeft) (x_tree := x_tree) (x_treeBefore := x_treeBefore) (x_timeouts := x_timeouts) (x_deadlines := x_deadlines) (x_events := x_events) (x_eventCounts := x_eventCounts) (x_watchSessions := x_watchSessions) (x_watchKinds := x_watchKinds) (x_watchPaths := x_watchPaths) (x_partKinds := x_partKinds) (x_partPaths := x_partPaths) (x_partAs := x_partAs) (x_partBs := x_partBs) (x_changePaths := x_changePaths) (x_changeKinds := x_changeKinds) (y_time := y_time) (y_last := y_last) (y_watchCount := y_watchCount) (y_partCount := y_partCount) (y_wrong := y_wrong) (y_changes := y_changes) (y_log := y_log) (y_since := y_since) (y_placesLeft := y_placesLeft) (y_paths := y_paths) (y_values := y_values) (y_open := y_open) (y_timeouts := y_timeouts) (y_deadlines := y_deadlines) (y_events := y_events) (y_eventCounts := y_eventCounts) (y_watchers := y_watchers) (y_watchKinds := y_watchKinds) (y_watchPaths := y_watchPaths) (y_parts := y_parts) (y_happened := y_happened) (y_how := y_how) (B := 100 * (k + 5)) (q := v3) hs ho hb hW (fun xs xk xp ys yk yp wc h => ⟨hT, hI, hV, hS, hti, hE, h, hP, hw, hN, hc⟩)
          refine wx_isPath_t hip (br_f (by decide) ?_)
          by_cases b2 : b = 2
          · subst b2
            refine br_t rfl (hX _ (wy_open_t hs ho (br_f (by decide) (br_f h0 (br_t h2 (wy_isPath_t hip (br_f (by decide) (br_t (by decide) (hY _ ⟨rfl, hR⟩)))))))))
          · have bn : ¬ nI b = 2 := fun z => b2 ((nI_eq (a := b) (b := 2) (by omega) (by omega)).mp z)
            have bl : ¬ 2 ≤ nI b := nI_ge (b := 2) (by omega) (by omega)
            refine br_f bn ?_
            by_cases hq : wt_fd y_paths v3 < 21
            · refine wx_find_t hT hq (br_f (wt_nn (by omega)) (hX _ (wy_open_t hs ho (br_f (by decide) (br_f h0 (br_t h2 (wy_isPath_t hip (br_f (by decide) (br_f bl (wy_find_t hq (br_t (nI_pos' (by omega)) (hY _ ⟨rfl, hR⟩))))))))))))
            · exact wx_find_f hT hq (br_t rfl (wy_open_t hs ho (br_f (by decide) (br_f h0 (br_t h2 (wy_isPath_t hip (br_f (by decide) (br_f bl (wy_find_f hq (br_f (by decide) ⟨rfl, I'⟩))))))))))
        · exact wx_isPath_f hip (br_t rfl (wy_open_t hs ho (br_f (by decide) (br_f h0 (br_t h2 (wy_isPath_f hip (br_t rfl ⟨rfl, I'⟩)))))))
      · exact br_f h0 (br_f h2 (wy_open_t hs ho (br_f (by decide) (br_f h0 (br_f h2 ⟨rfl, I'⟩)))))
  · exact wx_open_f hx (br_t rfl (wy_open_f hy (br_t rfl ⟨rfl, I'⟩)))
