theorem wt_7 (i : Nat) : nI (7 * i) + 7 = nI (7 * (i + 1)) := nI_add (7 * i) 7
theorem wt_7j (i j : Nat) : nI (7 * i) + nI j = nI (7 * i + j) := nI_add (7 * i) j
theorem wt_7c (i j : Nat) (hi : i < 21) (hj : j < 7) : (nI (7 * i) + nI j).toNatClampNeg = 7 * i + j := by
  rw [wt_7j]; exact nI_clamp (by omega)
theorem wt_7in (i j : Nat) (hi : i < 21) (hj : j < 7) : vp_in (nI (7 * i) + nI j) 147 := by
  rw [wt_7j]; exact vp_in_nI (by omega) (by omega)
theorem wt_7ge (i : Nat) (hi : i < 21) : ¬ (147 : Int32) ≤ nI (7 * i) := nI_ge (b := 147) (by omega) (by omega)
theorem wt_7le : (147 : Int32) ≤ nI (7 * 21) := nI_le (a := 147) (b := 147) (by omega) (by omega)
theorem wt_ne101 : ¬ (101 : Int32) = 0 := by decide
theorem wt_ne100 : ¬ (100 : Int32) = 0 := by decide
theorem wt_le0 {x : Int32} : x ≤ 0 ↔ ¬ 0 < x := Int32.not_lt.symm
def wt_ch (p : Nat → Int32) (x : Int32) (k : Nat) : Bool := decide (0 < p k ∧ p k / 101 = x)
def wt_nd (p : Nat → Int32) (k : Nat) : Bool := decide (0 < p k)
/-- the greatest path so far -/
def wt_g (p : Nat → Int32) (k : Nat) : Int32 := if k < 21 then p k else 0
theorem wt_ow_yes {p w : Nat → Int32} {s : Int32} {i : Nat} (hi : i < 21) (a : w (6 * i + 5) = s) (b : ¬ p i ≤ wt_g p (wt_ow p w s i)) : wt_ow p w s (i + 1) = i := by
  rcases wt_ow_spec p w s i (by omega) with ⟨e, _⟩ | ⟨e, _, c⟩
  · rw [e] at b
    have b' : ¬ p i ≤ 0 := b
    exact wt_ow_t ⟨a, Int32.not_le.mp b', Or.inl e⟩
  · have g : wt_g p (wt_ow p w s i) = p (wt_ow p w s i) := if_pos (by omega)
    rw [g] at b
    have b' := Int32.not_le.mp b
    exact wt_ow_t ⟨a, Int32.lt_trans c b', Or.inr b'⟩
theorem wt_ow_no {p w : Nat → Int32} {s : Int32} {i : Nat} (hi : i < 21) (a : ¬ w (6 * i + 5) = s ∨ p i ≤ wt_g p (wt_ow p w s i)) : wt_ow p w s (i + 1) = wt_ow p w s i := by
  refine wt_ow_f (fun z => ?_)
  rcases a with a | a
  · exact a z.1
  · rcases wt_ow_spec p w s i (by omega) with ⟨e, _⟩ | ⟨e, _, c⟩
    · rw [e] at a
      have a' : p i ≤ 0 := a
      exact wt_le0.mp a' z.2.1
    · have g : wt_g p (wt_ow p w s i) = p (wt_ow p w s i) := if_pos (by omega)
      rw [g] at a
      rcases z.2.2 with y | y
      · omega
      · exact Int32.not_le.mpr y a
section
variable {x_time x_partCount x_wrongAt x_changeCount x_transactions x_logStart x_snapshotStart x_placesLeft : Int32} {x_tree x_treeBefore x_timeouts x_deadlines x_events x_eventCounts x_watchSessions x_watchKinds x_watchPaths x_partKinds x_partPaths x_partAs x_partBs x_changePaths x_changeKinds : Nat → Int32}
variable {p w : Nat → Int32}
theorem wx_find_lp {post : Int32 → Prop} {x : Int32} (hT : wt_T x_tree p w) : ∀ d i, i + d = 21 → post (wt_r 7 (wt_fs (fun k => decide (p k = x)) d i)) → wX_find_8 post x x_time x_partCount x_wrongAt x_changeCount x_transactions x_logStart x_snapshotStart x_placesLeft x_tree x_treeBefore x_timeouts x_deadlines x_events x_eventCounts x_watchSessions x_watchKinds x_watchPaths x_partKinds x_partPaths x_partAs x_partBs x_changePaths x_changeKinds (d + 1) (nI (7 * i)) := by
  intro d
  induction d with
  | zero =>
    intro i hi hp
    have e : i = 21 := by omega
    subst e
    exact br_t wt_7le hp
  | succ d ih =>
    intro i hi hp
    refine br_f (wt_7ge i (by omega)) ⟨wt_7in i 6 (by omega) (by omega), ?_⟩
    have hc : x_tree (nI (7 * i) + 6).toNatClampNeg = p i := by
      have q := wt_7c i 6 (by omega) (by omega)
      exact (congrArg x_tree q).trans (hT i (by omega)).1
    rw [hc]
    by_cases e : p i = x
    · rw [wt_fs_t (decide_eq_true e), wt_r_t (by omega)] at hp
      exact br_t e hp
    · rw [wt_fs_f (fun z => e (of_decide_eq_true z))] at hp
      exact br_f e (nm_r (wt_7 i) (ih (i + 1) (by omega) hp))
theorem wx_find {post : Int32 → Prop} {x : Int32} (hT : wt_T x_tree p w) (hp : post (wt_r 7 (wt_fd p x))) : wpX_find post (x_time, x_partCount, x_wrongAt, x_changeCount, x_transactions, x_logStart, x_snapshotStart, x_placesLeft, x_tree, x_treeBefore, x_timeouts, x_deadlines, x_events, x_eventCounts, x_watchSessions, x_watchKinds, x_watchPaths, x_partKinds, x_partPaths, x_partAs, x_partBs, x_changePaths, x_changeKinds) x := by
  by_cases z : x < 0
  · rw [wt_fd_neg z] at hp
    exact br_f (fun y => Int32.not_le.mpr z y) hp
  · rw [wt_fd_pos z] at hp
    exact br_t (Int32.not_lt.mp z) ⟨22, wx_find_lp hT 21 0 rfl hp⟩
theorem wx_find_t {post : Int32 → Prop} {x : Int32} (hT : wt_T x_tree p w) (h : wt_fd p x < 21) (hp : post (nI (7 * wt_fd p x))) : wpX_find post (x_time, x_partCount, x_wrongAt, x_changeCount, x_transactions, x_logStart, x_snapshotStart, x_placesLeft, x_tree, x_treeBefore, x_timeouts, x_deadlines, x_events, x_eventCounts, x_watchSessions, x_watchKinds, x_watchPaths, x_partKinds, x_partPaths, x_partAs, x_partBs, x_changePaths, x_changeKinds) x := wx_find hT (by rw [wt_r_t h]; exact hp)
theorem wx_find_f {post : Int32 → Prop} {x : Int32} (hT : wt_T x_tree p w) (h : ¬ wt_fd p x < 21) (hp : post (-1)) : wpX_find post (x_time, x_partCount, x_wrongAt, x_changeCount, x_transactions, x_logStart, x_snapshotStart, x_placesLeft, x_tree, x_treeBefore, x_timeouts, x_deadlines, x_events, x_eventCounts, x_watchSessions, x_watchKinds, x_watchPaths, x_partKinds, x_partPaths, x_partAs, x_partBs, x_changePaths, x_changeKinds) x := wx_find hT (by rw [wt_r_f h]; exact hp)
theorem wx_findFree_lp {post : Int32 → Prop} (hT : wt_T x_tree p w) : ∀ d i, i + d = 21 → post (wt_r 7 (wt_fs (fun k => decide (p k = -1)) d i)) → wX_findFree_2 post x_time x_partCount x_wrongAt x_changeCount x_transactions x_logStart x_snapshotStart x_placesLeft x_tree x_treeBefore x_timeouts x_deadlines x_events x_eventCounts x_watchSessions x_watchKinds x_watchPaths x_partKinds x_partPaths x_partAs x_partBs x_changePaths x_changeKinds (d + 1) (nI (7 * i)) := by
  intro d
  induction d with
  | zero =>
    intro i hi hp
    have e : i = 21 := by omega
    subst e
    exact br_t wt_7le hp
  | succ d ih =>
    intro i hi hp
    refine br_f (wt_7ge i (by omega)) ⟨wt_7in i 6 (by omega) (by omega), ?_⟩
    have hc : x_tree (nI (7 * i) + 6).toNatClampNeg = p i := by
      have q := wt_7c i 6 (by omega) (by omega)
      exact (congrArg x_tree q).trans (hT i (by omega)).1
    rw [hc]
    by_cases e : p i = -1
    · rw [wt_fs_t (decide_eq_true e), wt_r_t (by omega)] at hp
      exact br_t e hp
    · rw [wt_fs_f (fun z => e (of_decide_eq_true z))] at hp
      exact br_f e (nm_r (wt_7 i) (ih (i + 1) (by omega) hp))
theorem wx_findFree {post : Int32 → Prop} (hT : wt_T x_tree p w) (hp : post (wt_r 7 (wt_fs (fun k => decide (p k = -1)) 21 0))) : wpX_findFree post (x_time, x_partCount, x_wrongAt, x_changeCount, x_transactions, x_logStart, x_snapshotStart, x_placesLeft, x_tree, x_treeBefore, x_timeouts, x_deadlines, x_events, x_eventCounts, x_watchSessions, x_watchKinds, x_watchPaths, x_partKinds, x_partPaths, x_partAs, x_partBs, x_changePaths, x_changeKinds) := ⟨22, wx_findFree_lp hT 21 0 rfl hp⟩
theorem wx_greatest_lp {post : Int32 → Prop} {s : Int32} (hT : wt_T x_tree p w) (hp : post (wt_r 7 (wt_ow p w s 21))) : ∀ d i, i + d = 21 → wX_findGreatestOwned_7 post s x_time x_partCount x_wrongAt x_changeCount x_transactions x_logStart x_snapshotStart x_placesLeft x_tree x_treeBefore x_timeouts x_deadlines x_events x_eventCounts x_watchSessions x_watchKinds x_watchPaths x_partKinds x_partPaths x_partAs x_partBs x_changePaths x_changeKinds (d + 1) (wt_r 7 (wt_ow p w s i)) (wt_g p (wt_ow p w s i)) (nI (7 * i)) := by
  intro d
  induction d with
  | zero =>
    intro i hi
    have e : i = 21 := by omega
    subst e
    exact br_t wt_7le hp
  | succ d ih =>
    intro i hi
    refine br_f (wt_7ge i (by omega)) ⟨wt_7in i 5 (by omega) (by omega), ?_⟩
    have hc : x_tree (nI (7 * i) + 6).toNatClampNeg = p i := by
      have q := wt_7c i 6 (by omega) (by omega)
      exact (congrArg x_tree q).trans (hT i (by omega)).1
    have hc5 : x_tree (nI (7 * i) + 5).toNatClampNeg = w (6 * i + 5) := by
      have q := wt_7c i 5 (by omega) (by omega)
      exact (congrArg x_tree q).trans ((hT i (by omega)).2 5 (by omega))
    rw [hc, hc5]
    have hn := ih (i + 1) (by omega)
    by_cases e : w (6 * i + 5) = s
    · refine br_t e ⟨wt_7in i 6 (by omega) (by omega), ?_⟩
      by_cases f : p i ≤ wt_g p (wt_ow p w s i)
      · rw [wt_ow_no (by omega) (Or.inr f)] at hn
        exact br_t f (nm_r (wt_7 i) hn)
      · rw [wt_ow_yes (by omega) e f] at hn
        have g1 : wt_r 7 i = nI (7 * i) := wt_r_t (by omega)
        have g2 : wt_g p i = p i := if_pos (by omega)
        rw [g1, g2] at hn
        exact br_f f ⟨wt_7in i 6 (by omega) (by omega), nm_e (nm_r (wt_7 i) hn)⟩
    · rw [wt_ow_no (by omega) (Or.inl e)] at hn
      exact br_f e (nm_r (wt_7 i) hn)
theorem wx_greatest {post : Int32 → Prop} {s : Int32} (hT : wt_T x_tree p w) (hp : post (wt_r 7 (wt_ow p w s 21))) : wpX_findGreatestOwned post (x_time, x_partCount, x_wrongAt, x_changeCount, x_transactions, x_logStart, x_snapshotStart, x_placesLeft, x_tree, x_treeBefore, x_timeouts, x_deadlines, x_events, x_eventCounts, x_watchSessions, x_watchKinds, x_watchPaths, x_partKinds, x_partPaths, x_partAs, x_partBs, x_changePaths, x_changeKinds) s := ⟨22, wx_greatest_lp hT hp 21 0 rfl⟩
theorem wx_cch_lp {post : Int32 → Prop} {x : Int32} (hT : wt_T x_tree p w) (hp : post (nI (wt_ct (wt_ch p x) 21))) : ∀ d i, i + d = 21 → wX_countChildren_4 post x x_time x_partCount x_wrongAt x_changeCount x_transactions x_logStart x_snapshotStart x_placesLeft x_tree x_treeBefore x_timeouts x_deadlines x_events x_eventCounts x_watchSessions x_watchKinds x_watchPaths x_partKinds x_partPaths x_partAs x_partBs x_changePaths x_changeKinds (d + 1) (nI (wt_ct (wt_ch p x) i)) (nI (7 * i)) := by
  intro d
  induction d with
  | zero =>
    intro i hi
    have e : i = 21 := by omega
    subst e
    exact br_t wt_7le hp
  | succ d ih =>
    intro i hi
    refine br_f (wt_7ge i (by omega)) ⟨wt_7in i 6 (by omega) (by omega), ?_⟩
    have hc : x_tree (nI (7 * i) + 6).toNatClampNeg = p i := by
      have q := wt_7c i 6 (by omega) (by omega)
      exact (congrArg x_tree q).trans (hT i (by omega)).1
    refine nm_r hc ?_
    have hn := ih (i + 1) (by omega)
    by_cases e : p i ≤ 0
    · rw [wt_ct_f (fun z => wt_le0.mp e (of_decide_eq_true z).1)] at hn
      exact br_t e (nm_r (wt_7 i) hn)
    · refine br_f e ⟨wt_ne101, ?_⟩
      by_cases f : p i / 101 = x
      · rw [wt_ct_t (decide_eq_true ⟨Int32.not_le.mp e, f⟩)] at hn
        exact br_t f (nm_r (nI_1 _) (nm_r (wt_7 i) hn))
      · rw [wt_ct_f (fun z => f (of_decide_eq_true z).2)] at hn
        exact br_f f (nm_r (wt_7 i) hn)
theorem wx_cch {post : Int32 → Prop} {x : Int32} (hT : wt_T x_tree p w) (hp : post (nI (wt_ct (wt_ch p x) 21))) : wpX_countChildren post (x_time, x_partCount, x_wrongAt, x_changeCount, x_transactions, x_logStart, x_snapshotStart, x_placesLeft, x_tree, x_treeBefore, x_timeouts, x_deadlines, x_events, x_eventCounts, x_watchSessions, x_watchKinds, x_watchPaths, x_partKinds, x_partPaths, x_partAs, x_partBs, x_changePaths, x_changeKinds) x := ⟨22, wx_cch_lp hT hp 21 0 rfl⟩
theorem wx_cnd_lp {post : Int32 → Prop} (hT : wt_T x_tree p w) (hp : post (nI (wt_ct (wt_nd p) 21))) : ∀ d i, i + d = 21 → wX_countNodes_4 post x_time x_partCount x_wrongAt x_changeCount x_transactions x_logStart x_snapshotStart x_placesLeft x_tree x_treeBefore x_timeouts x_deadlines x_events x_eventCounts x_watchSessions x_watchKinds x_watchPaths x_partKinds x_partPaths x_partAs x_partBs x_changePaths x_changeKinds (d + 1) (nI (wt_ct (wt_nd p) i)) (nI (7 * i)) := by
  intro d
  induction d with
  | zero =>
    intro i hi
    have e : i = 21 := by omega
    subst e
    exact br_t wt_7le hp
  | succ d ih =>
    intro i hi
    refine br_f (wt_7ge i (by omega)) ⟨wt_7in i 6 (by omega) (by omega), ?_⟩
    have hc : x_tree (nI (7 * i) + 6).toNatClampNeg = p i := by
      have q := wt_7c i 6 (by omega) (by omega)
      exact (congrArg x_tree q).trans (hT i (by omega)).1
    rw [hc]
    have hn := ih (i + 1) (by omega)
    by_cases e : p i ≤ 0
    · rw [wt_ct_f (fun z => wt_le0.mp e (of_decide_eq_true z))] at hn
      exact br_t e (nm_r (wt_7 i) hn)
    · rw [wt_ct_t (decide_eq_true (Int32.not_le.mp e))] at hn
      exact br_f e (nm_r (nI_1 _) (nm_r (wt_7 i) hn))
theorem wx_cnd {post : Int32 → Prop} (hT : wt_T x_tree p w) (hp : post (nI (wt_ct (wt_nd p) 21))) : wpX_countNodes post (x_time, x_partCount, x_wrongAt, x_changeCount, x_transactions, x_logStart, x_snapshotStart, x_placesLeft, x_tree, x_treeBefore, x_timeouts, x_deadlines, x_events, x_eventCounts, x_watchSessions, x_watchKinds, x_watchPaths, x_partKinds, x_partPaths, x_partAs, x_partBs, x_changePaths, x_changeKinds) := ⟨22, wx_cnd_lp hT hp 21 0 rfl⟩
end
