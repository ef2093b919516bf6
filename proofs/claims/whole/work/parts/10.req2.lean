theorem wt_ucomm {f : Nat → Int32} {i j : Nat} {a b : Int32} (h : i ≠ j) : upd (upd f i a) j b = upd (upd f j b) i a := by
  funext k
  by_cases e : k = j
  · subst e
    rw [pk_us, pk_un (Ne.symm h), pk_us]
  · rw [pk_un e]
    by_cases e2 : k = i
    · subst e2
      rw [pk_us, pk_us]
    · rw [pk_un e2, pk_un e2, pk_un e]
theorem wt_ui (x : Nat → Int32) (v : Int32) {a b : Nat} (h : a = b) : upd x a v = upd x b v := by rw [h]
section
variable {x_time x_partCount x_wrongAt x_changeCount x_transactions x_logStart x_snapshotStart x_placesLeft : Int32} {x_tree x_treeBefore x_timeouts x_deadlines x_events x_eventCounts x_watchSessions x_watchKinds x_watchPaths x_partKinds x_partPaths x_partAs x_partBs x_changePaths x_changeKinds : Nat → Int32}
variable {y_time y_last y_watchCount y_partCount y_wrong y_changes y_log y_since y_placesLeft : Int32} {y_paths y_values y_open y_timeouts y_deadlines y_events y_eventCounts y_watchers y_watchKinds y_watchPaths y_parts y_happened y_how : Nat → Int32}
variable {n : Int32}
theorem wy_req_np {post : Int32 → SY → Prop} {s kd x d b t : Int32} (hip : ¬ wt_ip x = true) (hp : post (-2) (y_time, y_last, y_watchCount, y_partCount, y_wrong, y_changes, y_log, y_since, y_placesLeft, y_paths, y_values, y_open, y_timeouts, y_deadlines, y_events, y_eventCounts, y_watchers, y_watchKinds, y_watchPaths, y_parts, y_happened, y_how)) : wpY_request post (y_time, y_last, y_watchCount, y_partCount, y_wrong, y_changes, y_log, y_since, y_placesLeft, y_paths, y_values, y_open, y_timeouts, y_deadlines, y_events, y_eventCounts, y_watchers, y_watchKinds, y_watchPaths, y_parts, y_happened, y_how) s kd x d b t := by
  unfold wpY_request
  exact wy_isPath_f hip (br_t rfl hp)
theorem wy_req_23 {post : Int32 → SY → Prop} {s kd x d b t : Int32} (hip : wt_ip x = true) (h0 : ¬ kd = 0) (h2 : x = 0 → ¬ kd = 2) (H : wY_request_23 post s kd x d b t y_time y_last y_watchCount y_partCount y_wrong y_changes y_log y_since y_placesLeft y_paths y_values y_open y_timeouts y_deadlines y_events y_eventCounts y_watchers y_watchKinds y_watchPaths y_parts y_happened y_how) : wpY_request post (y_time, y_last, y_watchCount, y_partCount, y_wrong, y_changes, y_log, y_since, y_placesLeft, y_paths, y_values, y_open, y_timeouts, y_deadlines, y_events, y_eventCounts, y_watchers, y_watchKinds, y_watchPaths, y_parts, y_happened, y_how) s kd x d b t := by
  unfold wpY_request
  exact wy_isPath_t hip (br_f (by decide) (br_c (fun e => br_f h0 (br_f (h2 e) H)) (fun _ => H)))
theorem wy_23_nn {post : Int32 → SY → Prop} {s kd x d b t : Int32} (h0 : ¬ kd = 0) (hq : ¬ wt_fd y_paths x < 21) (hp : post (-3) (y_time, y_last, y_watchCount, y_partCount, y_wrong, y_changes, y_log, y_since, y_placesLeft, y_paths, y_values, y_open, y_timeouts, y_deadlines, y_events, y_eventCounts, y_watchers, y_watchKinds, y_watchPaths, y_parts, y_happened, y_how)) : wY_request_23 post s kd x d b t y_time y_last y_watchCount y_partCount y_wrong y_changes y_log y_since y_placesLeft y_paths y_values y_open y_timeouts y_deadlines y_events y_eventCounts y_watchers y_watchKinds y_watchPaths y_parts y_happened y_how := br_f h0 (wy_find_f hq (br_f (by decide) hp))
theorem wy_23_v {post : Int32 → SY → Prop} {s kd x d b t : Int32} (h0 : ¬ kd = 0) (hq : wt_fd y_paths x < 21) (h1 : ¬ b = -1) (h2 : ¬ b = y_values (6 * wt_fd y_paths x + 1)) (hp : post (-7) (y_time, y_last, y_watchCount, y_partCount, y_wrong, y_changes, y_log, y_since, y_placesLeft, y_paths, y_values, y_open, y_timeouts, y_deadlines, y_events, y_eventCounts, y_watchers, y_watchKinds, y_watchPaths, y_parts, y_happened, y_how)) : wY_request_23 post s kd x d b t y_time y_last y_watchCount y_partCount y_wrong y_changes y_log y_since y_placesLeft y_paths y_values y_open y_timeouts y_deadlines y_events y_eventCounts y_watchers y_watchKinds y_watchPaths y_parts y_happened y_how := by
  have yv : y_values ((6 : Int32) * nI (wt_fd y_paths x) + 1).toNatClampNeg = y_values (6 * wt_fd y_paths x + 1) := congrArg y_values (wt_6c _ 1 hq (by omega))
  exact br_f h0 (wy_find_t hq (br_t (nI_pos' (by omega)) (br_f h1 ⟨wt_6in _ 1 hq (by omega), br_f (fun z => h2 (z.trans yv)) hp⟩)))
theorem wy_23_ok {post : Int32 → SY → Prop} {s kd x d b t : Int32} (h0 : ¬ kd = 0) (hq : wt_fd y_paths x < 21) (h : b = -1 ∨ b = y_values (6 * wt_fd y_paths x + 1)) (H : wY_request_81 post kd x d t (nI (wt_fd y_paths x)) y_time y_last y_watchCount y_partCount y_wrong y_changes y_log y_since y_placesLeft y_paths y_values y_open y_timeouts y_deadlines y_events y_eventCounts y_watchers y_watchKinds y_watchPaths y_parts y_happened y_how) : wY_request_23 post s kd x d b t y_time y_last y_watchCount y_partCount y_wrong y_changes y_log y_since y_placesLeft y_paths y_values y_open y_timeouts y_deadlines y_events y_eventCounts y_watchers y_watchKinds y_watchPaths y_parts y_happened y_how := by
  have yv : y_values ((6 : Int32) * nI (wt_fd y_paths x) + 1).toNatClampNeg = y_values (6 * wt_fd y_paths x + 1) := congrArg y_values (wt_6c _ 1 hq (by omega))
  refine br_f h0 (wy_find_t hq (br_t (nI_pos' (by omega)) (br_c (fun _ => H) (fun z => ⟨wt_6in _ 1 hq (by omega), br_t ?_ H⟩))))
  rcases h with h | h
  · exact absurd h z
  · exact h.trans yv.symm
/-- performSet behind findWithVersion -/
theorem wx_set {post : Int32 → SX → Prop} {p w : Nat → Int32} {k c : Nat} {d x b : Int32} (hT : wt_T x_tree p w) (hk : k < 21) (hc : c < 20) (hp : post (w (6 * k + 1) + 1) (x_time, x_partCount, x_wrongAt, (nI (c + 1)), n, x_logStart, x_snapshotStart, x_placesLeft, (upd (upd (upd x_tree (7 * k + 0) d) (7 * k + 1) (w (6 * k + 1) + 1)) (7 * k + 4) (n + 1)), x_treeBefore, x_timeouts, x_deadlines, x_events, x_eventCounts, x_watchSessions, x_watchKinds, x_watchPaths, x_partKinds, x_partPaths, x_partAs, x_partBs, (upd x_changePaths c x), (upd x_changeKinds c 3))) (fv : ∀ P : Int32 → Prop, P (nI (7 * k)) → wpX_findWithVersion P (x_time, x_partCount, x_wrongAt, (nI c), n, x_logStart, x_snapshotStart, x_placesLeft, x_tree, x_treeBefore, x_timeouts, x_deadlines, x_events, x_eventCounts, x_watchSessions, x_watchKinds, x_watchPaths, x_partKinds, x_partPaths, x_partAs, x_partBs, x_changePaths, x_changeKinds) x b) : wpX_performSet post (x_time, x_partCount, x_wrongAt, (nI c), n, x_logStart, x_snapshotStart, x_placesLeft, x_tree, x_treeBefore, x_timeouts, x_deadlines, x_events, x_eventCounts, x_watchSessions, x_watchKinds, x_watchPaths, x_partKinds, x_partPaths, x_partAs, x_partBs, x_changePaths, x_changeKinds) x d b := by
  unfold wpX_performSet
  have c1 := wt_7c k 1 hk (by omega)
  have v1 : upd x_tree (7 * k + 0) d (nI (7 * k) + 1).toNatClampNeg = w (6 * k + 1) := by
    refine (congrArg (upd x_tree (7 * k + 0) d) c1).trans ?_
    rw [pk_un (by omega)]
    exact (hT k hk).2 1 (by omega)
  refine fv _ (br_t (nI_pos' (by omega)) ⟨wt_7in k 0 hk (by omega), nm_r (wt_ui x_tree d (wt_7c k 0 hk (by omega))) ⟨wt_7in k 1 hk (by omega), wt_7in k 1 hk (by omega), nm_r (e' := upd (upd x_tree (7 * k + 0) d) (7 * k + 1) (w (6 * k + 1) + 1)) ?_ ⟨wt_7in k 4 hk (by omega), nm_r (wt_ui _ _ (wt_7c k 4 hk (by omega))) (wx_note hc ⟨wt_7in k 1 hk (by omega), ?_⟩)⟩⟩⟩)
  · rw [v1]
    exact wt_ui _ _ c1
  · have r1 : upd (upd (upd x_tree (7 * k + 0) d) (7 * k + 1) (w (6 * k + 1) + 1)) (7 * k + 4) (n + 1) (nI (7 * k) + 1).toNatClampNeg = w (6 * k + 1) + 1 := by
      refine (congrArg (upd (upd (upd x_tree (7 * k + 0) d) (7 * k + 1) (w (6 * k + 1) + 1)) (7 * k + 4) (n + 1)) c1).trans ?_
      rw [pk_un (by omega), pk_us]
    rw [r1]
    exact hp
theorem wy_set {post : Int32 → SY → Prop} {k c : Nat} {d x t : Int32} (hk : k < 21) (hc : c < 21) (hp : post (y_values (6 * k + 1) + 1) (y_time, y_last, y_watchCount, y_partCount, y_wrong, (nI (c + 1)), y_log, y_since, y_placesLeft, y_paths, (upd (upd (upd y_values (6 * k + 0) d) (6 * k + 1) (y_values (6 * k + 1) + 1)) (6 * k + 4) t), y_open, y_timeouts, y_deadlines, y_events, y_eventCounts, y_watchers, y_watchKinds, y_watchPaths, y_parts, (upd y_happened c x), (upd y_how c 3))) : wY_request_81 post 1 x d t (nI k) y_time y_last y_watchCount y_partCount y_wrong (nI c) y_log y_since y_placesLeft y_paths y_values y_open y_timeouts y_deadlines y_events y_eventCounts y_watchers y_watchKinds y_watchPaths y_parts y_happened y_how := by
  have c1 := wt_6c k 1 hk (by omega)
  have v1 : upd (upd y_values (6 * k + 0) d) (6 * k + 4) t ((6 : Int32) * nI k + 1).toNatClampNeg = y_values (6 * k + 1) := by
    refine (congrArg (upd (upd y_values (6 * k + 0) d) (6 * k + 4) t) c1).trans ?_
    rw [pk_un (by omega), pk_un (by omega)]
  rw [wt_ucomm (i := 6 * k + 1) (j := 6 * k + 4) (by omega)] at hp
  refine br_t rfl ⟨wt_6in0 k hk, nm_r (wt_ui y_values d (wt_6c0 k hk)) ⟨wt_6in k 4 hk (by omega), nm_r (wt_ui _ _ (wt_6c k 4 hk (by omega))) (wy_note hc ⟨wt_6in k 1 hk (by omega), wt_6in k 1 hk (by omega), nm_r (e' := upd (upd (upd y_values (6 * k + 0) d) (6 * k + 4) t) (6 * k + 1) (y_values (6 * k + 1) + 1)) ?_ ?_⟩)⟩⟩
  · have h := congrArg (fun z => upd (upd (upd y_values (6 * k + 0) d) (6 * k + 4) t) ((6 : Int32) * nI k + 1).toNatClampNeg (z + 1)) v1
    exact h.trans (wt_ui _ _ c1)
  · have h := congrArg (fun z => z + 1) v1
    exact (congrArg (fun z => post z (y_time, y_last, y_watchCount, y_partCount, y_wrong, (nI (c + 1)), y_log, y_since, y_placesLeft, y_paths, (upd (upd (upd y_values (6 * k + 0) d) (6 * k + 4) t) (6 * k + 1) (y_values (6 * k + 1) + 1)), y_open, y_timeouts, y_deadlines, y_events, y_eventCounts, y_watchers, y_watchKinds, y_watchPaths, y_parts, (upd y_happened c x), (upd y_how c 3))) h).mpr hp
theorem wt_set {B c : Nat} {s d x b : Int32} (hT : wt_T x_tree y_paths y_values) (hI : wt_I y_paths y_values) (hV : wt_V B y_values) (hC : wt_C c x_changeKinds x_changePaths y_happened y_how) (hc : c < 20) (hB : B < 2 ^ 30) :
    ∃ (r : Int32) (t' p' w' xk' xp' yh' yw' : Nat → Int32) (c' : Nat), (∀ post : Int32 → SX → Prop, post r (x_time, x_partCount, x_wrongAt, (nI c'), n, x_logStart, x_snapshotStart, x_placesLeft, t', x_treeBefore, x_timeouts, x_deadlines, x_events, x_eventCounts, x_watchSessions, x_watchKinds, x_watchPaths, x_partKinds, x_partPaths, x_partAs, x_partBs, xp', xk') → wpX_perform post (x_time, x_partCount, x_wrongAt, (nI c), n, x_logStart, x_snapshotStart, x_placesLeft, x_tree, x_treeBefore, x_timeouts, x_deadlines, x_events, x_eventCounts, x_watchSessions, x_watchKinds, x_watchPaths, x_partKinds, x_partPaths, x_partAs, x_partBs, x_changePaths, x_changeKinds) s 1 x d b) ∧ (∀ post : Int32 → SY → Prop, post r (y_time, n, y_watchCount, y_partCount, y_wrong, (nI c'), y_log, y_since, y_placesLeft, p', w', y_open, y_timeouts, y_deadlines, y_events, y_eventCounts, y_watchers, y_watchKinds, y_watchPaths, y_parts, yh', yw') → wpY_request post (y_time, n, y_watchCount, y_partCount, y_wrong, (nI c), y_log, y_since, y_placesLeft, y_paths, y_values, y_open, y_timeouts, y_deadlines, y_events, y_eventCounts, y_watchers, y_watchKinds, y_watchPaths, y_parts, y_happened, y_how) s 1 x d b (n + 1)) ∧ wt_O B c y_paths y_values 1 r r t' p' w' xk' xp' yh' yw' c' := by
  by_cases hip : wt_ip x = true
  · by_cases hq : wt_fd y_paths x < 21
    · by_cases hb : b = -1 ∨ b = y_values (6 * wt_fd y_paths x + 1)
      · obtain ⟨v, z1, z2⟩ := hV _ hq 1 (Or.inl rfl)
        refine ⟨y_values (6 * wt_fd y_paths x + 1) + 1, upd (upd (upd x_tree (7 * wt_fd y_paths x + 0) d) (7 * wt_fd y_paths x + 1) (y_values (6 * wt_fd y_paths x + 1) + 1)) (7 * wt_fd y_paths x + 4) (n + 1), y_paths, upd (upd (upd y_values (6 * wt_fd y_paths x + 0) d) (6 * wt_fd y_paths x + 1) (y_values (6 * wt_fd y_paths x + 1) + 1)) (6 * wt_fd y_paths x + 4) (n + 1), upd x_changeKinds c 3, upd x_changePaths c x, upd y_happened c x, upd y_how c 3, c + 1, fun post hp => ?_, fun post hp => ?_, ?_⟩
        · exact (br_f (by decide) (br_f (by decide) (br_f (by decide) (br_t rfl (wx_set hT hq hc hp (fun P h => wx_fv_ok hT hip hq hb h))))))
        · exact wy_req_23 hip (by decide) (fun _ => by decide) (wy_23_ok (by decide) hq hb (wy_set hq (by omega) hp))
        · refine ⟨wt_T_w (wt_T_w (wt_T_w hT (j := 0) (by omega) d) (j := 1) (by omega) _) (j := 4) (by omega) (n + 1), wt_I_w hI (fun j hj => ?_), wt_V_n (wt_V_b (wt_V_n (wt_V_up hV (by omega)) (by omega) (by omega) (by omega)) ⟨v + 1, by omega, by rw [z2, nI_1]⟩) (by omega) (by omega) (by omega), wt_C_s hC hc (Or.inr (Or.inr rfl)) ?_, fun j _ => rfl, fun j hj => ?_, Or.inr ⟨?_, ?_, fun _ => rfl, by omega⟩⟩
          · rw [pk_un (by omega), pk_un (by omega), pk_un (by omega)]
          · obtain ⟨a, ha, e⟩ := wt_ip_t hip
            exact ⟨a, ha, e⟩
          · rw [pk_un (by omega), pk_un (by omega), pk_un (by omega)]
          · rw [z2, nI_1]; exact nI_pos (by omega)
          · rw [z2, nI_1]; exact nI_pos (by omega)
      · have hb1 : ¬ b = -1 := fun z => hb (Or.inl z)
        have hb2 : ¬ b = y_values (6 * wt_fd y_paths x + 1) := fun z => hb (Or.inr z)
        refine ⟨-7, _, _, _, _, _, _, _, _, fun post hp => ?_, fun post hp => ?_, wt_O_f hT hI hV hC (by decide)⟩
        · refine br_f (by decide) (br_f (by decide) (br_f (by decide) (br_t rfl ?_)))
          unfold wpX_performSet
          exact wx_fv_v hT hip hq hb1 hb2 (br_f (by decide) hp)
        · exact wy_req_23 hip (by decide) (fun _ => by decide) (wy_23_v (by decide) hq hb1 hb2 hp)
    · refine ⟨-3, _, _, _, _, _, _, _, _, fun post hp => ?_, fun post hp => ?_, wt_O_f hT hI hV hC (by decide)⟩
      · refine br_f (by decide) (br_f (by decide) (br_f (by decide) (br_t rfl ?_)))
        unfold wpX_performSet
        exact wx_fv_nn hT hip hq (br_f (by decide) hp)
      · exact wy_req_23 hip (by decide) (fun _ => by decide) (wy_23_nn (by decide) hq hp)
  · refine ⟨-2, _, _, _, _, _, _, _, _, fun post hp => ?_, fun post hp => ?_, wt_O_f hT hI hV hC (by decide)⟩
    · refine br_f (by decide) (br_f (by decide) (br_f (by decide) (br_t rfl ?_)))
      unfold wpX_performSet
      exact wx_fv_np hip (br_f (by decide) hp)
    · exact wy_req_np hip hp
theorem wt_remove {B c : Nat} {s d x b : Int32} (hT : wt_T x_tree y_paths y_values) (hI : wt_I y_paths y_values) (hV : wt_V B y_values) (hC : wt_C c x_changeKinds x_changePaths y_happened y_how) (hc : c < 20) (hB : B < 2 ^ 30) :
    ∃ (r : Int32) (t' p' w' xk' xp' yh' yw' : Nat → Int32) (c' : Nat), (∀ post : Int32 → SX → Prop, post r (x_time, x_partCount, x_wrongAt, (nI c'), n, x_logStart, x_snapshotStart, x_placesLeft, t', x_treeBefore, x_timeouts, x_deadlines, x_events, x_eventCounts, x_watchSessions, x_watchKinds, x_watchPaths, x_partKinds, x_partPaths, x_partAs, x_partBs, xp', xk') → wpX_perform post (x_time, x_partCount, x_wrongAt, (nI c), n, x_logStart, x_snapshotStart, x_placesLeft, x_tree, x_treeBefore, x_timeouts, x_deadlines, x_events, x_eventCounts, x_watchSessions, x_watchKinds, x_watchPaths, x_partKinds, x_partPaths, x_partAs, x_partBs, x_changePaths, x_changeKinds) s 2 x d b) ∧ (∀ post : Int32 → SY → Prop, post r (y_time, n, y_watchCount, y_partCount, y_wrong, (nI c'), y_log, y_since, y_placesLeft, p', w', y_open, y_timeouts, y_deadlines, y_events, y_eventCounts, y_watchers, y_watchKinds, y_watchPaths, y_parts, yh', yw') → wpY_request post (y_time, n, y_watchCount, y_partCount, y_wrong, (nI c), y_log, y_since, y_placesLeft, y_paths, y_values, y_open, y_timeouts, y_deadlines, y_events, y_eventCounts, y_watchers, y_watchKinds, y_watchPaths, y_parts, y_happened, y_how) s 2 x d b (n + 1)) ∧ wt_O B c y_paths y_values 2 r r t' p' w' xk' xp' yh' yw' c' := by
  by_cases hip : wt_ip x = true
  · by_cases x0 : x = 0
    · refine ⟨-2, _, _, _, _, _, _, _, _, fun post hp => ?_, fun post hp => ?_, wt_O_f hT hI hV hC (by decide)⟩
      · exact br_f (by decide) (br_f (by decide) (br_f (by decide) (br_f (by decide) (br_t rfl (br_t x0 hp)))))
      · unfold wpY_request
        exact wy_isPath_t hip (br_f (by decide) (br_t x0 (br_f (by decide) (br_t rfl hp))))
    · by_cases hq : wt_fd y_paths x < 21
      · by_cases hb : b = -1 ∨ b = y_values (6 * wt_fd y_paths x + 1)
        · have hat := (wt_fd_at hq).1
          have k1 : 1 ≤ wt_fd y_paths x := by
            apply Nat.pos_of_ne_zero
            intro z
            rw [z, hI.1] at hat
            exact x0 hat.symm
          have kn : ¬ y_paths (wt_fd y_paths x) = -1 := fun z => by
            have g := (wt_fd_at hq).2
            rw [← hat, z] at g
            exact g (by decide)
          have fvx : ∀ P : Int32 → Prop, P (nI (7 * wt_fd y_paths x)) → wpX_findWithVersion P (x_time, x_partCount, x_wrongAt, (nI c), n, x_logStart, x_snapshotStart, x_placesLeft, x_tree, x_treeBefore, x_timeouts, x_deadlines, x_events, x_eventCounts, x_watchSessions, x_watchKinds, x_watchPaths, x_partKinds, x_partPaths, x_partAs, x_partBs, x_changePaths, x_changeKinds) x b := fun P h => wx_fv_ok hT hip hq hb h
          have fvy : ∀ post : Int32 → SY → Prop, wY_request_81 post 2 x d (n + 1) (nI (wt_fd y_paths x)) y_time n y_watchCount y_partCount y_wrong (nI c) y_log y_since y_placesLeft y_paths y_values y_open y_timeouts y_deadlines y_events y_eventCounts y_watchers y_watchKinds y_watchPaths y_parts y_happened y_how → wpY_request post (y_time, n, y_watchCount, y_partCount, y_wrong, (nI c), y_log, y_since, y_placesLeft, y_paths, y_values, y_open, y_timeouts, y_deadlines, y_events, y_eventCounts, y_watchers, y_watchKinds, y_watchPaths, y_parts, y_happened, y_how) s 2 x d b (n + 1) := fun post H => wy_req_23 hip (by decide) (fun z => absurd z x0) (wy_23_ok (by decide) hq hb H)
          generalize hK : wt_fd y_paths x = k at *
          by_cases hch : wt_ct (wt_ch y_paths x) 21 = 0
          · have hno : ∀ j, j < 21 → 0 < y_paths j → ¬ y_paths j / 101 = y_paths k := fun j hj h1 h2 => (wt_ct_0 21).mp hch j hj (decide_eq_true ⟨h1, h2.trans hat⟩)
            obtain ⟨g1, g2, g3, g4, g5⟩ := wt_taken hT hI hV hC hc hB k1 hq kn (Or.inr hno)
            refine ⟨_, _, _, _, _, _, _, _, c + 1, fun post hp => ?_, fun post hp => ?_, g1, g2, g3, g4, fun j hj => pk_un (by omega), fun j hj => ?_, Or.inr ⟨g5, g5, fun _ => rfl, by omega⟩⟩
            · refine br_f (by decide) (br_f (by decide) (br_f (by decide) (br_f (by decide) (br_t rfl (br_f x0 ?_)))))
              refine fvx _ (br_t (nI_pos' (by omega)) (wx_cch hT ?_))
              rw [hch]
              exact br_t rfl (wx_take hT hI k1 hq kn hc hp)
            · refine fvy _ (br_f (by decide) (br_f (by decide) (wy_chi hI ?_)))
              rw [hch]
              exact br_t (by decide) (wy_take hI k1 hq kn (by omega) hp)
            · have l := (wt_I_pa hI k1 hq kn).1
              rw [pk_un (by omega)]
          · have hle := wt_ct_le (wt_ch y_paths x) 21
            refine ⟨-8, _, _, _, _, _, _, _, _, fun post hp => ?_, fun post hp => ?_, wt_O_f hT hI hV hC (by decide)⟩
            · refine br_f (by decide) (br_f (by decide) (br_f (by decide) (br_f (by decide) (br_t rfl (br_f x0 ?_)))))
              exact fvx _ (br_t (nI_pos' (by omega)) (wx_cch hT (br_f (nI_ne0 (by omega) (by omega)) hp)))
            · exact fvy _ (br_f (by decide) (br_f (by decide) (wy_chi hI (br_f (nI_nle (by omega) (by omega)) hp))))
        · have hb1 : ¬ b = -1 := fun z => hb (Or.inl z)
          have hb2 : ¬ b = y_values (6 * wt_fd y_paths x + 1) := fun z => hb (Or.inr z)
          refine ⟨-7, _, _, _, _, _, _, _, _, fun post hp => ?_, fun post hp => ?_, wt_O_f hT hI hV hC (by decide)⟩
          · refine br_f (by decide) (br_f (by decide) (br_f (by decide) (br_f (by decide) (br_t rfl (br_f x0 ?_)))))
            exact wx_fv_v hT hip hq hb1 hb2 (br_f (by decide) hp)
          · exact wy_req_23 hip (by decide) (fun z => absurd z x0) (wy_23_v (by decide) hq hb1 hb2 hp)
      · refine ⟨-3, _, _, _, _, _, _, _, _, fun post hp => ?_, fun post hp => ?_, wt_O_f hT hI hV hC (by decide)⟩
        · refine br_f (by decide) (br_f (by decide) (br_f (by decide) (br_f (by decide) (br_t rfl (br_f x0 ?_)))))
          exact wx_fv_nn hT hip hq (br_f (by decide) hp)
        · exact wy_req_23 hip (by decide) (fun z => absurd z x0) (wy_23_nn (by decide) hq hp)
  · refine ⟨-2, _, _, _, _, _, _, _, _, fun post hp => ?_, fun post hp => ?_, wt_O_f hT hI hV hC (by decide)⟩
    · refine br_f (by decide) (br_f (by decide) (br_f (by decide) (br_f (by decide) (br_t rfl (br_c (fun _ => hp) (fun _ => ?_))))))
      exact wx_fv_np hip (br_f (by decide) hp)
    · exact wy_req_np hip hp
theorem wt_check {B c : Nat} {s d x b : Int32} (hT : wt_T x_tree y_paths y_values) (hI : wt_I y_paths y_values) (hV : wt_V B y_values) (hC : wt_C c x_changeKinds x_changePaths y_happened y_how) :
    ∃ (r r' : Int32), (∀ post : Int32 → SX → Prop, post r (x_time, x_partCount, x_wrongAt, (nI c), n, x_logStart, x_snapshotStart, x_placesLeft, x_tree, x_treeBefore, x_timeouts, x_deadlines, x_events, x_eventCounts, x_watchSessions, x_watchKinds, x_watchPaths, x_partKinds, x_partPaths, x_partAs, x_partBs, x_changePaths, x_changeKinds) → wpX_perform post (x_time, x_partCount, x_wrongAt, (nI c), n, x_logStart, x_snapshotStart, x_placesLeft, x_tree, x_treeBefore, x_timeouts, x_deadlines, x_events, x_eventCounts, x_watchSessions, x_watchKinds, x_watchPaths, x_partKinds, x_partPaths, x_partAs, x_partBs, x_changePaths, x_changeKinds) s 3 x d b) ∧ (∀ post : Int32 → SY → Prop, post r' (y_time, n, y_watchCount, y_partCount, y_wrong, (nI c), y_log, y_since, y_placesLeft, y_paths, y_values, y_open, y_timeouts, y_deadlines, y_events, y_eventCounts, y_watchers, y_watchKinds, y_watchPaths, y_parts, y_happened, y_how) → wpY_request post (y_time, n, y_watchCount, y_partCount, y_wrong, (nI c), y_log, y_since, y_placesLeft, y_paths, y_values, y_open, y_timeouts, y_deadlines, y_events, y_eventCounts, y_watchers, y_watchKinds, y_watchPaths, y_parts, y_happened, y_how) s 3 x d b (n + 1)) ∧ wt_O B c y_paths y_values 3 r r' x_tree y_paths y_values x_changeKinds x_changePaths y_happened y_how c := by
  by_cases hip : wt_ip x = true
  · by_cases hq : wt_fd y_paths x < 21
    · by_cases hb : b = -1 ∨ b = y_values (6 * wt_fd y_paths x + 1)
      · refine ⟨nI (7 * wt_fd y_paths x), 0, fun post hp => ?_, fun post hp => ?_, hT, hI, wt_V_up hV (by omega), hC, fun _ _ => rfl, fun _ _ => rfl, Or.inr ⟨nI_pos (by omega), by decide, fun z => absurd rfl z, by omega⟩⟩
        · exact br_f (by decide) (br_t (by decide) (wx_fv_ok hT hip hq hb hp))
        · exact wy_req_23 hip (by decide) (fun _ => by decide) (wy_23_ok (by decide) hq hb (br_f (by decide) (br_t rfl hp)))
      · have hb1 : ¬ b = -1 := fun z => hb (Or.inl z)
        have hb2 : ¬ b = y_values (6 * wt_fd y_paths x + 1) := fun z => hb (Or.inr z)
        refine ⟨-7, -7, fun post hp => ?_, fun post hp => ?_, wt_O_f hT hI hV hC (by decide)⟩
        · exact br_f (by decide) (br_t (by decide) (wx_fv_v hT hip hq hb1 hb2 hp))
        · exact wy_req_23 hip (by decide) (fun _ => by decide) (wy_23_v (by decide) hq hb1 hb2 hp)
    · refine ⟨-3, -3, fun post hp => ?_, fun post hp => ?_, wt_O_f hT hI hV hC (by decide)⟩
      · exact br_f (by decide) (br_t (by decide) (wx_fv_nn hT hip hq hp))
      · exact wy_req_23 hip (by decide) (fun _ => by decide) (wy_23_nn (by decide) hq hp)
  · refine ⟨-2, -2, fun post hp => ?_, fun post hp => ?_, wt_O_f hT hI hV hC (by decide)⟩
    · exact br_f (by decide) (br_t (by decide) (wx_fv_np hip hp))
    · exact wy_req_np hip hp
end
