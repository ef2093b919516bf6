def wt_G (s q b : Int32) : Int32 → Int32 → Int32 → Bool := fun a k c => decide (¬ ((b >>> (k &&& 31)) &&& 1) = 0) && (decide (a = s) && decide (c = q))
def wt_G0 (s : Int32) : Int32 → Int32 → Int32 → Bool := fun a _ _ => decide (a = s)
def wt_H (s q b : Int32) : Int32 → Int32 → Int32 → Bool := fun a k c => decide (a = s) && (decide (¬ ((b >>> (k &&& 31)) &&& 1) = 0) && (decide (q < 0) || decide (c = q)))
theorem wt_b3 (A B C : Bool) : (A && (B && C)) = (B && (A && (false || C))) := by
  cases A <;> cases B <;> cases C <;> rfl
theorem wt_GH {s q b : Int32} (hq : ¬ q < 0) (x y z : Int32) : wt_G s q b x y z = wt_H s q b x y z := by
  unfold wt_G wt_H
  rw [decide_eq_false hq]
  exact wt_b3 _ _ _
theorem wt_H_t {s q b x y z : Int32} (g1 : x = s) (g2 : ¬ ((b >>> (y &&& 31)) &&& 1) = 0) (g3 : q < 0 ∨ z = q) : wt_H s q b x y z = true := by
  unfold wt_H
  rw [decide_eq_true g1, decide_eq_true g2]
  rcases g3 with g | g
  · rw [decide_eq_true g]; rfl
  · rw [decide_eq_true g]; cases decide (q < 0) <;> rfl
theorem wt_bt {P : Prop} [Decidable P] (h : P) : wt_b (decide P) = 1 := by rw [decide_eq_true h]; rfl
theorem wt_bf {P : Prop} [Decidable P] (h : ¬ P) : wt_b (decide P) = 0 := by rw [decide_eq_false h]; rfl
theorem wt_bn (b : Bool) : narrow .boolean (.int (wt_b b)) = .int (wt_b b) := by cases b <;> rfl
section
variable {x_time x_partCount x_wrongAt x_changeCount x_transactions x_logStart x_snapshotStart x_placesLeft : Int32} {x_tree x_treeBefore x_timeouts x_deadlines x_events x_eventCounts x_watchSessions x_watchKinds x_watchPaths x_partKinds x_partPaths x_partAs x_partBs x_changePaths x_changeKinds : Nat → Int32}
theorem wx_away_lp {post : Int32 → SX → Prop} {s q b : Int32} (hp : post (wt_b (decide (0 < wt_ct (fun j => wt_G s q b (x_watchSessions j) (x_watchKinds j) (x_watchPaths j)) 16))) (x_time, x_partCount, x_wrongAt, x_changeCount, x_transactions, x_logStart, x_snapshotStart, x_placesLeft, x_tree, x_treeBefore, x_timeouts, x_deadlines, x_events, x_eventCounts, (wt_dr (wt_G s q b) x_watchSessions x_watchKinds x_watchPaths 16), x_watchKinds, x_watchPaths, x_partKinds, x_partPaths, x_partAs, x_partBs, x_changePaths, x_changeKinds)) : ∀ d i, i + d = 16 → wX_takeWatchesAway_6 post s q b x_time x_partCount x_wrongAt x_changeCount x_transactions x_logStart x_snapshotStart x_placesLeft (d + 1) (wt_b (decide (0 < wt_ct (fun j => wt_G s q b (x_watchSessions j) (x_watchKinds j) (x_watchPaths j)) i))) (nI i) x_tree x_treeBefore x_timeouts x_deadlines x_events x_eventCounts (wt_dr (wt_G s q b) x_watchSessions x_watchKinds x_watchPaths i) x_watchKinds x_watchPaths x_partKinds x_partPaths x_partAs x_partBs x_changePaths x_changeKinds := by
  intro d
  induction d with
  | zero =>
    intro i hi
    have e : i = 16 := by omega
    subst e
    exact br_t (nI_le (a := 16) (b := 16) (by omega) (by omega)) ⟨wt_bn _, hp⟩
  | succ d ih =>
    intro i hi
    have ci : (nI i).toNatClampNeg = i := nI_clamp (by omega)
    have vi : vp_in (nI i) 16 := vp_in_nI (by omega) (by omega)
    have hn := ih (i + 1) (by omega)
    refine br_f (nI_ge (b := 16) (by omega) (by omega)) ⟨vi, ?_⟩
    unfold wX_takeWatchesAway_32
    rw [ci, wt_dr_at]
    by_cases g : wt_G s q b (x_watchSessions i) (x_watchKinds i) (x_watchPaths i) = true
    · have g1 := of_decide_eq_true (wt_and g).1
      have g2 := of_decide_eq_true (wt_and (wt_and g).2).1
      have g3 := of_decide_eq_true (wt_and (wt_and g).2).2
      have e1 : wt_ct (fun j => wt_G s q b (x_watchSessions j) (x_watchKinds j) (x_watchPaths j)) (i + 1) = wt_ct (fun j => wt_G s q b (x_watchSessions j) (x_watchKinds j) (x_watchPaths j)) i + 1 := wt_ct_t g
      rw [e1, wt_bt (Nat.succ_pos _), ← wt_dr_t g] at hn
      exact br_f g1 (br_f (by decide) ⟨vi, br_t g2 ⟨vi, br_t g3 ⟨vi, nm_e (nm_r (nI_1 i) hn)⟩⟩⟩)
    · have e1 : wt_ct (fun j => wt_G s q b (x_watchSessions j) (x_watchKinds j) (x_watchPaths j)) (i + 1) = wt_ct (fun j => wt_G s q b (x_watchSessions j) (x_watchKinds j) (x_watchPaths j)) i := wt_ct_f g
      rw [e1, ← wt_dr_f g] at hn
      refine br_c (fun _ => br_t rfl (nm_r (nI_1 i) hn)) (fun g1 => br_f (by decide) ⟨vi, br_c (fun g2 => ⟨vi, br_f (fun g3 => g ?_) (nm_r (nI_1 i) hn)⟩) (fun _ => nm_r (nI_1 i) hn)⟩)
      unfold wt_G
      rw [decide_eq_true g1, decide_eq_true g2, decide_eq_true g3]
      rfl
theorem wx_away {post : Int32 → SX → Prop} {s q b : Int32} (hp : post (wt_b (decide (0 < wt_ct (fun j => wt_G s q b (x_watchSessions j) (x_watchKinds j) (x_watchPaths j)) 16))) (x_time, x_partCount, x_wrongAt, x_changeCount, x_transactions, x_logStart, x_snapshotStart, x_placesLeft, x_tree, x_treeBefore, x_timeouts, x_deadlines, x_events, x_eventCounts, (wt_dr (wt_G s q b) x_watchSessions x_watchKinds x_watchPaths 16), x_watchKinds, x_watchPaths, x_partKinds, x_partPaths, x_partAs, x_partBs, x_changePaths, x_changeKinds)) : wpX_takeWatchesAway post (x_time, x_partCount, x_wrongAt, x_changeCount, x_transactions, x_logStart, x_snapshotStart, x_placesLeft, x_tree, x_treeBefore, x_timeouts, x_deadlines, x_events, x_eventCounts, x_watchSessions, x_watchKinds, x_watchPaths, x_partKinds, x_partPaths, x_partAs, x_partBs, x_changePaths, x_changeKinds) s q b := by
  have h := wx_away_lp hp 16 0 rfl
  rw [wt_dr_0] at h
  exact ⟨17, h⟩
theorem wx_dropOf_lp {post : SX → Prop} {s : Int32} (hp : post (x_time, x_partCount, x_wrongAt, x_changeCount, x_transactions, x_logStart, x_snapshotStart, x_placesLeft, x_tree, x_treeBefore, x_timeouts, x_deadlines, x_events, x_eventCounts, (wt_dr (wt_G0 s) x_watchSessions x_watchKinds x_watchPaths 16), x_watchKinds, x_watchPaths, x_partKinds, x_partPaths, x_partAs, x_partBs, x_changePaths, x_changeKinds)) : ∀ d i, i + d = 16 → wX_dropWatchesOf_2 post s x_time x_partCount x_wrongAt x_changeCount x_transactions x_logStart x_snapshotStart x_placesLeft (d + 1) (nI i) x_tree x_treeBefore x_timeouts x_deadlines x_events x_eventCounts (wt_dr (wt_G0 s) x_watchSessions x_watchKinds x_watchPaths i) x_watchKinds x_watchPaths x_partKinds x_partPaths x_partAs x_partBs x_changePaths x_changeKinds := by
  intro d
  induction d with
  | zero =>
    intro i hi
    have e : i = 16 := by omega
    subst e
    exact br_t (nI_le (a := 16) (b := 16) (by omega) (by omega)) hp
  | succ d ih =>
    intro i hi
    have ci : (nI i).toNatClampNeg = i := nI_clamp (by omega)
    have vi : vp_in (nI i) 16 := vp_in_nI (by omega) (by omega)
    have hn := ih (i + 1) (by omega)
    refine br_f (nI_ge (b := 16) (by omega) (by omega)) ⟨vi, ?_⟩
    rw [ci, wt_dr_at]
    by_cases g : x_watchSessions i = s
    · rw [← wt_dr_t (decide_eq_true g)] at hn
      exact br_t g ⟨vi, nm_e (nm_r (nI_1 i) hn)⟩
    · rw [← wt_dr_f (fun z => g (of_decide_eq_true z))] at hn
      exact br_f g (nm_r (nI_1 i) hn)
theorem wx_dropOf {post : SX → Prop} {s : Int32} (hp : post (x_time, x_partCount, x_wrongAt, x_changeCount, x_transactions, x_logStart, x_snapshotStart, x_placesLeft, x_tree, x_treeBefore, x_timeouts, x_deadlines, x_events, x_eventCounts, (wt_dr (wt_G0 s) x_watchSessions x_watchKinds x_watchPaths 16), x_watchKinds, x_watchPaths, x_partKinds, x_partPaths, x_partAs, x_partBs, x_changePaths, x_changeKinds)) : wpX_dropWatchesOf post (x_time, x_partCount, x_wrongAt, x_changeCount, x_transactions, x_logStart, x_snapshotStart, x_placesLeft, x_tree, x_treeBefore, x_timeouts, x_deadlines, x_events, x_eventCounts, x_watchSessions, x_watchKinds, x_watchPaths, x_partKinds, x_partPaths, x_partAs, x_partBs, x_changePaths, x_changeKinds) s := by
  have h := wx_dropOf_lp hp 16 0 rfl
  rw [wt_dr_0] at h
  exact ⟨17, h⟩
theorem wx_dropAll_lp {post : SX → Prop} (hp : post (x_time, x_partCount, x_wrongAt, x_changeCount, x_transactions, x_logStart, x_snapshotStart, x_placesLeft, x_tree, x_treeBefore, x_timeouts, x_deadlines, x_events, x_eventCounts, (wt_fl 16 (-1) x_watchSessions), x_watchKinds, x_watchPaths, x_partKinds, x_partPaths, x_partAs, x_partBs, x_changePaths, x_changeKinds)) : ∀ d i, i + d = 16 → wX_dropAllWatches_2 post x_time x_partCount x_wrongAt x_changeCount x_transactions x_logStart x_snapshotStart x_placesLeft (d + 1) (nI i) x_tree x_treeBefore x_timeouts x_deadlines x_events x_eventCounts (wt_fl i (-1) x_watchSessions) x_watchKinds x_watchPaths x_partKinds x_partPaths x_partAs x_partBs x_changePaths x_changeKinds := by
  intro d
  induction d with
  | zero =>
    intro i hi
    have e : i = 16 := by omega
    subst e
    exact br_t (nI_le (a := 16) (b := 16) (by omega) (by omega)) hp
  | succ d ih =>
    intro i hi
    have ci : (nI i).toNatClampNeg = i := nI_clamp (by omega)
    have hn := ih (i + 1) (by omega)
    rw [← wt_fl_s] at hn
    exact br_f (nI_ge (b := 16) (by omega) (by omega)) ⟨vp_in_nI (by omega) (by omega), nm_r (wt_ui _ _ ci) (nm_r (nI_1 i) hn)⟩
theorem wx_dropAll {post : SX → Prop} (hp : post (x_time, x_partCount, x_wrongAt, x_changeCount, x_transactions, x_logStart, x_snapshotStart, x_placesLeft, x_tree, x_treeBefore, x_timeouts, x_deadlines, x_events, x_eventCounts, (wt_fl 16 (-1) x_watchSessions), x_watchKinds, x_watchPaths, x_partKinds, x_partPaths, x_partAs, x_partBs, x_changePaths, x_changeKinds)) : wpX_dropAllWatches post (x_time, x_partCount, x_wrongAt, x_changeCount, x_transactions, x_logStart, x_snapshotStart, x_placesLeft, x_tree, x_treeBefore, x_timeouts, x_deadlines, x_events, x_eventCounts, x_watchSessions, x_watchKinds, x_watchPaths, x_partKinds, x_partPaths, x_partAs, x_partBs, x_changePaths, x_changeKinds) := by
  have h := wx_dropAll_lp hp 16 0 rfl
  rw [wt_fl_0] at h
  exact ⟨17, h⟩
end
section
variable {y_time y_last y_watchCount y_partCount y_wrong y_changes y_log y_since y_placesLeft : Int32} {y_paths y_values y_open y_timeouts y_deadlines y_events y_eventCounts y_watchers y_watchKinds y_watchPaths y_parts y_happened y_how : Nat → Int32}
theorem wy_59 {post : Int32 → SY → Prop} {J : Int32 → Int32 → (Nat → Int32) → (Nat → Int32) → (Nat → Int32) → (Nat → Int32) → (Nat → Int32) → (Nat → Int32) → (Nat → Int32) → (Nat → Int32) → (Nat → Int32) → (Nat → Int32) → (Nat → Int32) → (Nat → Int32) → (Nat → Int32) → Prop} {s q b : Int32} {n k : Nat} (hn : n < 16) (hk : k < 16) (H : J (nI (n + 1)) (nI (k + 1)) y_paths y_values y_open y_timeouts y_deadlines y_events y_eventCounts (upd y_watchers n (y_watchers k)) (upd y_watchKinds n (y_watchKinds k)) (upd y_watchPaths n (y_watchPaths k)) y_parts y_happened y_how) : wY_drop_60 post J s q b (nI n) (nI k) 0 y_time y_last y_watchCount y_partCount y_wrong y_changes y_log y_since y_placesLeft y_paths y_values y_open y_timeouts y_deadlines y_events y_eventCounts y_watchers y_watchKinds y_watchPaths y_parts y_happened y_how := by
  have vn : vp_in (nI n) 16 := vp_in_nI hn (by omega)
  have vk : vp_in (nI k) 16 := vp_in_nI hk (by omega)
  have cn : (nI n).toNatClampNeg = n := nI_clamp (by omega)
  have ck : (nI k).toNatClampNeg = k := nI_clamp (by omega)
  refine br_t rfl ⟨vk, vn, nm_r (by rw [cn, ck]) ⟨vk, vn, nm_r (by rw [cn, ck]) (nm_r (nI_1 n) ⟨vk, vn, nm_r (by rw [cn, ck]) (nm_r (nI_1 k) H)⟩)⟩⟩
theorem wy_drop_lp {post : Int32 → SY → Prop} {s q b : Int32} {c : Nat} (hc : c ≤ 16) (hp : post (wt_b (decide ((wt_cp (wt_H s q b) y_watchers y_watchKinds y_watchPaths c).1 < c))) (y_time, y_last, (nI (wt_cp (wt_H s q b) y_watchers y_watchKinds y_watchPaths c).1), y_partCount, y_wrong, y_changes, y_log, y_since, y_placesLeft, y_paths, y_values, y_open, y_timeouts, y_deadlines, y_events, y_eventCounts, (wt_cp (wt_H s q b) y_watchers y_watchKinds y_watchPaths c).2.1, (wt_cp (wt_H s q b) y_watchers y_watchKinds y_watchPaths c).2.2.1, (wt_cp (wt_H s q b) y_watchers y_watchKinds y_watchPaths c).2.2.2, y_parts, y_happened, y_how)) : ∀ d k, k + d = c → wY_drop_6 post s q b y_time y_last (nI c) y_partCount y_wrong y_changes y_log y_since y_placesLeft (d + 1) (nI (wt_cp (wt_H s q b) y_watchers y_watchKinds y_watchPaths k).1) (nI k) y_paths y_values y_open y_timeouts y_deadlines y_events y_eventCounts ((wt_cp (wt_H s q b) y_watchers y_watchKinds y_watchPaths k).2.1) ((wt_cp (wt_H s q b) y_watchers y_watchKinds y_watchPaths k).2.2.1) ((wt_cp (wt_H s q b) y_watchers y_watchKinds y_watchPaths k).2.2.2) y_parts y_happened y_how := by
  intro d
  induction d with
  | zero =>
    intro k hk
    have e : k = c := by omega
    subst e
    have h1 := (wt_cp_spec (wt_H s q b) y_watchers y_watchKinds y_watchPaths k).1
    refine br_t (nI_le (Nat.le_refl _) (by omega)) ?_
    by_cases g : (wt_cp (wt_H s q b) y_watchers y_watchKinds y_watchPaths k).1 < k
    · rw [wt_bt g] at hp
      exact br_f (nI_ge g (by omega)) hp
    · rw [wt_bf g] at hp
      exact br_t (nI_le (by omega) (by omega)) hp
  | succ d ih =>
    intro k hk
    have h1 := (wt_cp_spec (wt_H s q b) y_watchers y_watchKinds y_watchPaths k).1
    have ck : (nI k).toNatClampNeg = k := nI_clamp (by omega)
    have vk : vp_in (nI k) 16 := vp_in_nI (by omega) (by omega)
    have hn := ih (k + 1) (by omega)
    refine br_f (nI_ge (by omega) (by omega)) ⟨vk, ?_⟩
    unfold wY_drop_59 wY_drop_55
    rw [ck]
    by_cases g : wt_H s q b ((wt_cp (wt_H s q b) y_watchers y_watchKinds y_watchPaths k).2.1 k) ((wt_cp (wt_H s q b) y_watchers y_watchKinds y_watchPaths k).2.2.1 k) ((wt_cp (wt_H s q b) y_watchers y_watchKinds y_watchPaths k).2.2.2 k) = true
    · rw [wt_cp_t g] at hn
      have g1 := of_decide_eq_true (wt_and g).1
      have g2 := of_decide_eq_true (wt_and (wt_and g).2).1
      have g3 := (wt_and (wt_and g).2).2
      refine br_t g1 ⟨vk, br_f g2 (br_c (fun _ => br_f (by decide) (nm_r (nI_1 k) hn)) (fun z => ⟨vk, br_t ?_ (br_f (by decide) (nm_r (nI_1 k) hn))⟩))⟩
      rw [decide_eq_false z] at g3
      exact of_decide_eq_true g3
    · rw [wt_cp_f g] at hn
      have hn' := wy_59 (y_time := y_time) (y_last := y_last) (y_partCount := y_partCount) (y_wrong := y_wrong) (y_changes := y_changes) (y_log := y_log) (y_since := y_since) (y_placesLeft := y_placesLeft) (y_paths := y_paths) (y_values := y_values) (y_open := y_open) (y_timeouts := y_timeouts) (y_deadlines := y_deadlines) (y_events := y_events) (y_eventCounts := y_eventCounts) (y_parts := y_parts) (y_happened := y_happened) (y_how := y_how) (y_watchCount := nI c) (post := post) (s := s) (q := q) (b := b) (n := (wt_cp (wt_H s q b) y_watchers y_watchKinds y_watchPaths k).1) (k := k) (by omega) (by omega) hn
      refine br_c (fun g1 => ⟨vk, br_c (fun _ => hn') (fun g2 => br_c (fun g3 => absurd ?_ g) (fun g3 => ⟨vk, br_c (fun g4 => absurd ?_ g) (fun _ => hn')⟩))⟩) (fun _ => hn')
      · exact wt_H_t g1 g2 (Or.inl g3)
      · exact wt_H_t g1 g2 (Or.inr g4)
theorem wy_drop {post : Int32 → SY → Prop} {s q b : Int32} {c : Nat} (hc : c ≤ 16) (hp : post (wt_b (decide ((wt_cp (wt_H s q b) y_watchers y_watchKinds y_watchPaths c).1 < c))) (y_time, y_last, (nI (wt_cp (wt_H s q b) y_watchers y_watchKinds y_watchPaths c).1), y_partCount, y_wrong, y_changes, y_log, y_since, y_placesLeft, y_paths, y_values, y_open, y_timeouts, y_deadlines, y_events, y_eventCounts, (wt_cp (wt_H s q b) y_watchers y_watchKinds y_watchPaths c).2.1, (wt_cp (wt_H s q b) y_watchers y_watchKinds y_watchPaths c).2.2.1, (wt_cp (wt_H s q b) y_watchers y_watchKinds y_watchPaths c).2.2.2, y_parts, y_happened, y_how)) : wpY_drop post (y_time, y_last, (nI c), y_partCount, y_wrong, y_changes, y_log, y_since, y_placesLeft, y_paths, y_values, y_open, y_timeouts, y_deadlines, y_events, y_eventCounts, y_watchers, y_watchKinds, y_watchPaths, y_parts, y_happened, y_how) s q b := ⟨c + 1, wy_drop_lp hc hp c 0 (by omega)⟩
end
