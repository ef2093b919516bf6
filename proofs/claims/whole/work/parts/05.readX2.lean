theorem wt_rem101 {a : Nat} (h : a < 2 ^ 31) : nI a - nI a / 101 * 101 = nI (a % 101) := by
  rw [wt_101, pk_rem h (by decide) (by decide)]
theorem wx_isPath_lp {post : Int32 → Prop} : ∀ d i a, i + d = 3 → a < 101 ^ d → a < 2 ^ 31 → post (wt_b (wt_ok d a)) → wX_isPath_16 post (d + 1) (nI a) (nI i) := by
  intro d
  induction d with
  | zero =>
    intro i a hi h1 h2 hp
    have e : i = 3 := by omega
    have e2 : a = 0 := by simp at h1; exact h1
    subst e; subst e2
    exact br_t (nI_le (a := 3) (b := 3) (by omega) (by omega)) hp
  | succ d ih =>
    intro i a hi h1 h2 hp
    refine br_f (nI_ge (b := 3) (by omega) (by omega)) ?_
    by_cases z : a = 0
    · subst z
      rw [wt_ok_0] at hp
      exact br_t rfl hp
    · refine br_f (nI_ne0 (by omega) h2) ⟨wt_ne101, ?_⟩
      rw [wt_rem101 h2]
      by_cases y : a % 101 = 0
      · rw [wt_ok_f z y] at hp
        rw [y]
        exact br_t rfl hp
      · rw [wt_ok_s z y] at hp
        have h3 : 101 ^ (d + 1) = 101 ^ d * 101 := Nat.pow_succ _ _
        refine br_f (nI_ne0 (by omega) (by omega)) ⟨wt_ne101, nm_r (wt_d101 h2) (nm_r (nI_1 i) (ih (i + 1) (a / 101) (by omega) ?_ (by omega) hp))⟩
        exact (Nat.div_lt_iff_lt_mul (by decide)).mpr (by omega)
theorem wx_isPath {post : Int32 → Prop} {x : Int32} (hp : post (wt_b (wt_ip x))) : wpX_isPath post x := by
  by_cases z : x < 0
  · rw [wt_ip_neg z] at hp
    exact br_t z hp
  · obtain ⟨a, ha, rfl⟩ := nI_of z
    refine br_f z ?_
    rw [wt_ip_nI ha] at hp
    have h3 : 101 ^ 3 = 1030301 := by decide
    by_cases y : a ≤ 1030300
    · exact br_t (nI_le (b := 1030300) y (by omega)) ⟨4, wx_isPath_lp 3 0 a rfl (by omega) ha hp⟩
    · rw [wt_ok_big 3 a (by omega)] at hp
      exact br_f (nI_ge (a := 1030300) (by omega) (by omega)) hp
theorem wx_isPath_t {post : Int32 → Prop} {x : Int32} (h : wt_ip x = true) (hp : post 1) : wpX_isPath post x := wx_isPath (by rw [h]; exact hp)
theorem wx_isPath_f {post : Int32 → Prop} {x : Int32} (h : ¬ wt_ip x = true) (hp : post 0) : wpX_isPath post x := wx_isPath (by rw [Bool.not_eq_true] at h; rw [h]; exact hp)
theorem wy_isPath_lp {post : Int32 → Prop} : ∀ d i a, i + d = 3 → a < 2 ^ 31 → post (wt_b (wt_ok d a)) → wY_isPath_4 post (d + 1) (nI a) (nI i) := by
  intro d
  induction d with
  | zero =>
    intro i a hi h2 hp
    have e : i = 3 := by omega
    subst e
    refine br_t (nI_le (a := 3) (b := 3) (by omega) (by omega)) ?_
    by_cases z : a = 0
    · subst z; exact br_t rfl hp
    · have q : wt_ok 0 a = false := decide_eq_false z
      rw [q] at hp
      exact br_f (nI_ne0 (by omega) h2) hp
  | succ d ih =>
    intro i a hi h2 hp
    refine br_f (nI_ge (b := 3) (by omega) (by omega)) ?_
    by_cases z : a = 0
    · subst z
      rw [wt_ok_0] at hp
      exact br_t (by decide) (br_t rfl hp)
    · refine br_f (nI_nle (by omega) h2) ⟨wt_ne101, ?_⟩
      rw [wt_rem101 h2]
      by_cases y : a % 101 = 0
      · rw [wt_ok_f z y] at hp
        rw [y]
        exact br_t rfl hp
      · rw [wt_ok_s z y] at hp
        exact br_f (nI_ne0 (by omega) (by omega)) ⟨wt_ne101, nm_r (wt_d101 h2) (nm_r (nI_1 i) (ih (i + 1) (a / 101) (by omega) (by omega) hp))⟩
theorem wy_isPath {post : Int32 → Prop} {x : Int32} (hp : post (wt_b (wt_ip x))) : wpY_isPath post x := by
  by_cases z : x < 0
  · rw [wt_ip_neg z] at hp
    have hle : x ≤ 0 := Int32.le_of_lt z
    have hne : ¬ x = 0 := fun y => absurd (y ▸ z : (0 : Int32) < 0) (by decide)
    exact ⟨1, br_f (by decide) (br_t hle (br_f hne hp))⟩
  · obtain ⟨a, ha, rfl⟩ := nI_of z
    rw [wt_ip_nI ha] at hp
    exact ⟨4, wy_isPath_lp 3 0 a rfl ha hp⟩
theorem wy_isPath_t {post : Int32 → Prop} {x : Int32} (h : wt_ip x = true) (hp : post 1) : wpY_isPath post x := wy_isPath (by rw [h]; exact hp)
theorem wy_isPath_f {post : Int32 → Prop} {x : Int32} (h : ¬ wt_ip x = true) (hp : post 0) : wpY_isPath post x := wy_isPath (by rw [Bool.not_eq_true] at h; rw [h]; exact hp)
theorem wx_flags_t {post : Int32 → Prop} {f : Nat} (h : f ≤ 3) (hp : post 1) : wpX_areFlags post (nI f) := br_f (nI_pos (by omega)) (br_f (nI_nlt (a := 3) (by omega) (by omega)) hp)
theorem wx_flags_f {post : Int32 → Prop} {v : Int32} (h : ∀ f, f ≤ 3 → ¬ v = nI f) (hp : post 0) : wpX_areFlags post v := by
  refine br_c (fun _ => hp) (fun z => br_c (fun _ => hp) (fun y => ?_))
  obtain ⟨a, ha, rfl⟩ := nI_of z
  have q : ¬ nI 3 < nI a := y
  rw [nI_ltI (by omega) ha] at q
  exact absurd rfl (h a (by omega))
/-- a session's number is that of an open one, or of none -/
theorem wt_cases {B : Nat} {xt xd yo yt yd : Nat → Int32} (h : wt_S B xt xd yo yt yd) (v : Int32) : (∃ s, s < 4 ∧ v = nI s ∧ yo s = 1 ∧ ¬ xt s = 0) ∨ ((∀ s, s < 4 → v = nI s → xt s = 0) ∧ (∀ s, s < 4 → v = nI s → yo s = 0)) := by
  by_cases e : ∃ s, s < 4 ∧ v = nI s ∧ yo s = 1
  · obtain ⟨s, a, b, c⟩ := e
    refine Or.inl ⟨s, a, b, c, fun z => ?_⟩
    rw [wt_S_xt h a, c] at z
    exact absurd z (by decide)
  · have q : ∀ s, s < 4 → v = nI s → yo s = 0 := fun s a b => by
      rcases wt_S_o h a with c | c
      · exact absurd ⟨s, a, b, c⟩ e
      · exact c
    exact Or.inr ⟨fun s a b => (wt_S_xt h a).mpr (q s a b), q⟩
section
variable {x_time x_partCount x_wrongAt x_changeCount x_transactions x_logStart x_snapshotStart x_placesLeft : Int32} {x_tree x_treeBefore x_timeouts x_deadlines x_events x_eventCounts x_watchSessions x_watchKinds x_watchPaths x_partKinds x_partPaths x_partAs x_partBs x_changePaths x_changeKinds : Nat → Int32}
theorem wx_open_t {post : Int32 → Prop} {s : Nat} (hs : s < 4) (h : ¬ x_timeouts s = 0) (hp : post 1) : wpX_isOpen post (x_time, x_partCount, x_wrongAt, x_changeCount, x_transactions, x_logStart, x_snapshotStart, x_placesLeft, x_tree, x_treeBefore, x_timeouts, x_deadlines, x_events, x_eventCounts, x_watchSessions, x_watchKinds, x_watchPaths, x_partKinds, x_partPaths, x_partAs, x_partBs, x_changePaths, x_changeKinds) (nI s) :=
  br_f (nI_pos (by omega)) (br_f (nI_ge (b := 4) hs (by omega)) ⟨vp_in_nI hs (by omega), br_f (by rw [nI_clamp (by omega)]; exact h) hp⟩)
theorem wx_open_f {post : Int32 → Prop} {v : Int32} (h : ∀ s, s < 4 → v = nI s → x_timeouts s = 0) (hp : post 0) : wpX_isOpen post (x_time, x_partCount, x_wrongAt, x_changeCount, x_transactions, x_logStart, x_snapshotStart, x_placesLeft, x_tree, x_treeBefore, x_timeouts, x_deadlines, x_events, x_eventCounts, x_watchSessions, x_watchKinds, x_watchPaths, x_partKinds, x_partPaths, x_partAs, x_partBs, x_changePaths, x_changeKinds) v := by
  rcases pk_ix v (n := 4) (by omega) with a | a | ⟨j, hj, e⟩
  · exact br_t a hp
  · exact br_c (fun _ => hp) (fun _ => br_t a hp)
  · subst e
    exact br_f (nI_pos (by omega)) (br_f (nI_ge (b := 4) hj (by omega)) ⟨vp_in_nI hj (by omega), br_t (by rw [nI_clamp (by omega)]; exact h j hj rfl) hp⟩)
theorem wx_least_lp {post : Int32 → Prop} : ∀ d i, i + d = 4 → post (if wt_fs (fun k => decide (x_timeouts k = 0)) d i < 4 then nI (wt_fs (fun k => decide (x_timeouts k = 0)) d i) else -1) → wX_leastNotOpen_2 post x_time x_partCount x_wrongAt x_changeCount x_transactions x_logStart x_snapshotStart x_placesLeft x_tree x_treeBefore x_timeouts x_deadlines x_events x_eventCounts x_watchSessions x_watchKinds x_watchPaths x_partKinds x_partPaths x_partAs x_partBs x_changePaths x_changeKinds (d + 1) (nI i) := by
  intro d
  induction d with
  | zero =>
    intro i hi hp
    have e : i = 4 := by omega
    subst e
    exact br_t (nI_le (a := 4) (b := 4) (by omega) (by omega)) hp
  | succ d ih =>
    intro i hi hp
    refine br_f (nI_ge (b := 4) (by omega) (by omega)) ⟨vp_in_nI (by omega) (by omega), ?_⟩
    rw [nI_clamp (by omega)]
    by_cases e : x_timeouts i = 0
    · rw [wt_fs_t (decide_eq_true e), if_pos (by omega)] at hp
      exact br_t e hp
    · rw [wt_fs_f (fun z => e (of_decide_eq_true z))] at hp
      exact br_f e (nm_r (nI_1 i) (ih (i + 1) (by omega) hp))
theorem wx_least {post : Int32 → Prop} (hp : post (if wt_fs (fun k => decide (x_timeouts k = 0)) 4 0 < 4 then nI (wt_fs (fun k => decide (x_timeouts k = 0)) 4 0) else -1)) : wpX_leastNotOpen post (x_time, x_partCount, x_wrongAt, x_changeCount, x_transactions, x_logStart, x_snapshotStart, x_placesLeft, x_tree, x_treeBefore, x_timeouts, x_deadlines, x_events, x_eventCounts, x_watchSessions, x_watchKinds, x_watchPaths, x_partKinds, x_partPaths, x_partAs, x_partBs, x_changePaths, x_changeKinds) := ⟨5, wx_least_lp 4 0 rfl hp⟩
theorem wx_has_lp {post : Int32 → Prop} {s k q : Int32} : ∀ d i, i + d = 16 → post (wt_b (decide (wt_fs (fun j => decide (x_watchSessions j = s ∧ x_watchKinds j = k ∧ x_watchPaths j = q)) d i < 16))) → wX_hasWatch_3 post s k q x_time x_partCount x_wrongAt x_changeCount x_transactions x_logStart x_snapshotStart x_placesLeft x_tree x_treeBefore x_timeouts x_deadlines x_events x_eventCounts x_watchSessions x_watchKinds x_watchPaths x_partKinds x_partPaths x_partAs x_partBs x_changePaths x_changeKinds (d + 1) (nI i) := by
  intro d
  induction d with
  | zero =>
    intro i hi hp
    have e : i = 16 := by omega
    subst e
    exact br_t (nI_le (a := 16) (b := 16) (by omega) (by omega)) hp
  | succ d ih =>
    intro i hi hp
    have c : (nI i).toNatClampNeg = i := nI_clamp (by omega)
    have vi : vp_in (nI i) 16 := vp_in_nI (by omega) (by omega)
    refine br_f (nI_ge (b := 16) (by omega) (by omega)) ⟨vi, ?_⟩
    rw [c]
    by_cases e : x_watchSessions i = s ∧ x_watchKinds i = k ∧ x_watchPaths i = q
    · have t : wt_fs (fun j => decide (x_watchSessions j = s ∧ x_watchKinds j = k ∧ x_watchPaths j = q)) (d + 1) i < 16 := by
        rw [wt_fs_t (decide_eq_true e)]; omega
      rw [decide_eq_true t] at hp
      exact br_t e.1 ⟨vi, br_t e.2.1 ⟨vi, br_t e.2.2 hp⟩⟩
    · rw [wt_fs_f (fun z => e (of_decide_eq_true z))] at hp
      have hn := ih (i + 1) (by omega) hp
      refine br_c (fun e1 => ⟨vi, br_c (fun e2 => ⟨vi, br_f (fun e3 => e ⟨e1, e2, e3⟩) (nm_r (nI_1 i) hn)⟩) (fun _ => nm_r (nI_1 i) hn)⟩) (fun _ => nm_r (nI_1 i) hn)
theorem wx_has {post : Int32 → Prop} {s k q : Int32} (hp : post (wt_b (decide (wt_fs (fun j => decide (x_watchSessions j = s ∧ x_watchKinds j = k ∧ x_watchPaths j = q)) 16 0 < 16)))) : wpX_hasWatch post (x_time, x_partCount, x_wrongAt, x_changeCount, x_transactions, x_logStart, x_snapshotStart, x_placesLeft, x_tree, x_treeBefore, x_timeouts, x_deadlines, x_events, x_eventCounts, x_watchSessions, x_watchKinds, x_watchPaths, x_partKinds, x_partPaths, x_partAs, x_partBs, x_changePaths, x_changeKinds) s k q := ⟨17, wx_has_lp 16 0 rfl hp⟩
theorem wx_ffw_lp {post : Int32 → Prop} : ∀ d i, i + d = 16 → post (if wt_fs (fun j => decide (x_watchSessions j = -1)) d i < 16 then nI (wt_fs (fun j => decide (x_watchSessions j = -1)) d i) else -1) → wX_findFreeWatch_2 post x_time x_partCount x_wrongAt x_changeCount x_transactions x_logStart x_snapshotStart x_placesLeft x_tree x_treeBefore x_timeouts x_deadlines x_events x_eventCounts x_watchSessions x_watchKinds x_watchPaths x_partKinds x_partPaths x_partAs x_partBs x_changePaths x_changeKinds (d + 1) (nI i) := by
  intro d
  induction d with
  | zero =>
    intro i hi hp
    have e : i = 16 := by omega
    subst e
    exact br_t (nI_le (a := 16) (b := 16) (by omega) (by omega)) hp
  | succ d ih =>
    intro i hi hp
    refine br_f (nI_ge (b := 16) (by omega) (by omega)) ⟨vp_in_nI (by omega) (by omega), ?_⟩
    rw [nI_clamp (by omega)]
    by_cases e : x_watchSessions i = -1
    · rw [wt_fs_t (decide_eq_true e), if_pos (by omega)] at hp
      exact br_t e hp
    · rw [wt_fs_f (fun z => e (of_decide_eq_true z))] at hp
      exact br_f e (nm_r (nI_1 i) (ih (i + 1) (by omega) hp))
theorem wx_ffw {post : Int32 → Prop} (hp : post (if wt_fs (fun j => decide (x_watchSessions j = -1)) 16 0 < 16 then nI (wt_fs (fun j => decide (x_watchSessions j = -1)) 16 0) else -1)) : wpX_findFreeWatch post (x_time, x_partCount, x_wrongAt, x_changeCount, x_transactions, x_logStart, x_snapshotStart, x_placesLeft, x_tree, x_treeBefore, x_timeouts, x_deadlines, x_events, x_eventCounts, x_watchSessions, x_watchKinds, x_watchPaths, x_partKinds, x_partPaths, x_partAs, x_partBs, x_changePaths, x_changeKinds) := ⟨17, wx_ffw_lp 16 0 rfl hp⟩
theorem wx_watches_lp {post : Int32 → Prop} (hp : post (nI (wt_ct (fun j => decide (¬ x_watchSessions j = -1)) 16))) : ∀ d i, i + d = 16 → wX_watches_4 post x_time x_partCount x_wrongAt x_changeCount x_transactions x_logStart x_snapshotStart x_placesLeft x_tree x_treeBefore x_timeouts x_deadlines x_events x_eventCounts x_watchSessions x_watchKinds x_watchPaths x_partKinds x_partPaths x_partAs x_partBs x_changePaths x_changeKinds (d + 1) (nI (wt_ct (fun j => decide (¬ x_watchSessions j = -1)) i)) (nI i) := by
  intro d
  induction d with
  | zero =>
    intro i hi
    have e : i = 16 := by omega
    subst e
    exact br_t (nI_le (a := 16) (b := 16) (by omega) (by omega)) hp
  | succ d ih =>
    intro i hi
    refine br_f (nI_ge (b := 16) (by omega) (by omega)) ⟨vp_in_nI (by omega) (by omega), ?_⟩
    rw [nI_clamp (by omega)]
    have hn := ih (i + 1) (by omega)
    by_cases e : x_watchSessions i = -1
    · rw [wt_ct_f (fun z => (of_decide_eq_true z) e)] at hn
      exact br_t e (nm_r (nI_1 i) hn)
    · rw [wt_ct_t (decide_eq_true e)] at hn
      exact br_f e (nm_r (nI_1 _) (nm_r (nI_1 i) hn))
theorem wx_watches {post : Int32 → Prop} (hp : post (nI (wt_ct (fun j => decide (¬ x_watchSessions j = -1)) 16))) : wpX_watches post (x_time, x_partCount, x_wrongAt, x_changeCount, x_transactions, x_logStart, x_snapshotStart, x_placesLeft, x_tree, x_treeBefore, x_timeouts, x_deadlines, x_events, x_eventCounts, x_watchSessions, x_watchKinds, x_watchPaths, x_partKinds, x_partPaths, x_partAs, x_partBs, x_changePaths, x_changeKinds) := ⟨17, wx_watches_lp hp 16 0 rfl⟩
end
