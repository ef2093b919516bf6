theorem wt_6j (i j : Nat) : (6 : Int32) * nI i + nI j = nI (6 * i + j) := by
  have e : (6 : Int32) * nI i = nI (6 * i) := pk_mul 6 i
  rw [e, nI_add]
theorem wt_60 (i : Nat) : (6 : Int32) * nI i = nI (6 * i) := pk_mul 6 i
theorem wt_6c (i j : Nat) (hi : i < 21) (hj : j < 6) : ((6 : Int32) * nI i + nI j).toNatClampNeg = 6 * i + j := by
  rw [wt_6j]; exact nI_clamp (by omega)
theorem wt_6in (i j : Nat) (hi : i < 21) (hj : j < 6) : vp_in ((6 : Int32) * nI i + nI j) 252 := by
  rw [wt_6j]; exact vp_in_nI (by omega) (by omega)
theorem wt_6c0 (i : Nat) (hi : i < 21) : ((6 : Int32) * nI i).toNatClampNeg = 6 * i := by
  rw [wt_60]; exact nI_clamp (by omega)
theorem wt_6in0 (i : Nat) (hi : i < 21) : vp_in ((6 : Int32) * nI i) 252 := by
  rw [wt_60]; exact vp_in_nI (by omega) (by omega)
theorem wt_21le : (21 : Int32) ≤ nI 21 := nI_le (a := 21) (b := 21) (by omega) (by omega)
theorem wt_21ge (i : Nat) (hi : i < 21) : ¬ (21 : Int32) ≤ nI i := nI_ge (b := 21) (by omega) (by omega)
theorem wt_lt_ge {x : Int32} (h : ¬ x < 0) : 0 ≤ x := Int32.not_lt.mp h
section
variable {y_time y_last y_watchCount y_partCount y_wrong y_changes y_log y_since y_placesLeft : Int32} {y_paths y_values y_open y_timeouts y_deadlines y_events y_eventCounts y_watchers y_watchKinds y_watchPaths y_parts y_happened y_how : Nat → Int32}
theorem wy_find_lp {post : Int32 → Prop} {x : Int32} (hx : ¬ x < 0) : ∀ d i, i + d = 21 → post (wt_r 1 (wt_fs (fun k => decide (y_paths k = x)) d i)) → wY_find_2 post x y_time y_last y_watchCount y_partCount y_wrong y_changes y_log y_since y_placesLeft y_paths y_values y_open y_timeouts y_deadlines y_events y_eventCounts y_watchers y_watchKinds y_watchPaths y_parts y_happened y_how (d + 1) (nI i) := by
  intro d
  induction d with
  | zero =>
    intro i hi hp
    have e : i = 21 := by omega
    subst e
    exact br_t wt_21le hp
  | succ d ih =>
    intro i hi hp
    refine br_f (wt_21ge i (by omega)) ⟨vp_in_nI (by omega) (by omega), ?_⟩
    rw [nI_clamp (by omega)]
    by_cases e : y_paths i = x
    · rw [wt_fs_t (decide_eq_true e), wt_r_t (by omega), Nat.one_mul] at hp
      exact br_t e (br_f hx hp)
    · rw [wt_fs_f (fun z => e (of_decide_eq_true z))] at hp
      exact br_f e (nm_r (nI_1 i) (ih (i + 1) (by omega) hp))
theorem wy_find_ng {post : Int32 → Prop} {x : Int32} (hx : x < 0) (hp : post (-1)) : ∀ d i, i + d = 21 → wY_find_2 post x y_time y_last y_watchCount y_partCount y_wrong y_changes y_log y_since y_placesLeft y_paths y_values y_open y_timeouts y_deadlines y_events y_eventCounts y_watchers y_watchKinds y_watchPaths y_parts y_happened y_how (d + 1) (nI i) := by
  intro d
  induction d with
  | zero =>
    intro i hi
    have e : i = 21 := by omega
    subst e
    exact br_t wt_21le hp
  | succ d ih =>
    intro i hi
    have hn := ih (i + 1) (by omega)
    refine br_f (wt_21ge i (by omega)) ⟨vp_in_nI (by omega) (by omega), br_c (fun _ => br_t hx (nm_r (nI_1 i) hn)) (fun _ => nm_r (nI_1 i) hn)⟩
theorem wy_find {post : Int32 → Prop} {x : Int32} (hp : post (wt_r 1 (wt_fd y_paths x))) : wpY_find post (y_time, y_last, y_watchCount, y_partCount, y_wrong, y_changes, y_log, y_since, y_placesLeft, y_paths, y_values, y_open, y_timeouts, y_deadlines, y_events, y_eventCounts, y_watchers, y_watchKinds, y_watchPaths, y_parts, y_happened, y_how) x := by
  by_cases z : x < 0
  · rw [wt_fd_neg z] at hp
    exact ⟨22, wy_find_ng z hp 21 0 rfl⟩
  · rw [wt_fd_pos z] at hp
    exact ⟨22, wy_find_lp z 21 0 rfl hp⟩
theorem wy_find_t {post : Int32 → Prop} {x : Int32} (h : wt_fd y_paths x < 21) (hp : post (nI (wt_fd y_paths x))) : wpY_find post (y_time, y_last, y_watchCount, y_partCount, y_wrong, y_changes, y_log, y_since, y_placesLeft, y_paths, y_values, y_open, y_timeouts, y_deadlines, y_events, y_eventCounts, y_watchers, y_watchKinds, y_watchPaths, y_parts, y_happened, y_how) x := wy_find (by rw [wt_r_t h, Nat.one_mul]; exact hp)
theorem wy_find_f {post : Int32 → Prop} {x : Int32} (h : ¬ wt_fd y_paths x < 21) (hp : post (-1)) : wpY_find post (y_time, y_last, y_watchCount, y_partCount, y_wrong, y_changes, y_log, y_since, y_placesLeft, y_paths, y_values, y_open, y_timeouts, y_deadlines, y_events, y_eventCounts, y_watchers, y_watchKinds, y_watchPaths, y_parts, y_happened, y_how) x := wy_find (by rw [wt_r_f h]; exact hp)
theorem wy_open_t {post : Int32 → Prop} {s : Nat} (hs : s < 4) (h : y_open s = 1) (hp : post 1) : wpY_isOpen post (y_time, y_last, y_watchCount, y_partCount, y_wrong, y_changes, y_log, y_since, y_placesLeft, y_paths, y_values, y_open, y_timeouts, y_deadlines, y_events, y_eventCounts, y_watchers, y_watchKinds, y_watchPaths, y_parts, y_happened, y_how) (nI s) :=
  br_f (nI_pos (by omega)) (br_f (nI_ge (b := 4) hs (by omega)) ⟨vp_in_nI hs (by omega), br_f (by rw [nI_clamp (by omega), h]; decide) hp⟩)
theorem wy_open_f {post : Int32 → Prop} {v : Int32} (h : ∀ s, s < 4 → v = nI s → y_open s = 0) (hp : post 0) : wpY_isOpen post (y_time, y_last, y_watchCount, y_partCount, y_wrong, y_changes, y_log, y_since, y_placesLeft, y_paths, y_values, y_open, y_timeouts, y_deadlines, y_events, y_eventCounts, y_watchers, y_watchKinds, y_watchPaths, y_parts, y_happened, y_how) v := by
  rcases pk_ix v (n := 4) (by omega) with a | a | ⟨j, hj, e⟩
  · exact br_t a hp
  · exact br_c (fun _ => hp) (fun _ => br_t a hp)
  · subst e
    exact br_f (nI_pos (by omega)) (br_f (nI_ge (b := 4) hj (by omega)) ⟨vp_in_nI hj (by omega), br_t (by rw [nI_clamp (by omega)]; exact h j hj rfl) hp⟩)
theorem wy_many_lp {post : Int32 → Prop} (hI : wt_I y_paths y_values) (hp : post (nI (wt_ct (wt_nd y_paths) 21))) : ∀ d i, 1 ≤ i → i + d = 21 → wY_many_4 post y_time y_last y_watchCount y_partCount y_wrong y_changes y_log y_since y_placesLeft y_paths y_values y_open y_timeouts y_deadlines y_events y_eventCounts y_watchers y_watchKinds y_watchPaths y_parts y_happened y_how (d + 1) (nI (wt_ct (wt_nd y_paths) i)) (nI i) := by
  intro d
  induction d with
  | zero =>
    intro i _ hi
    have e : i = 21 := by omega
    subst e
    exact br_t wt_21le hp
  | succ d ih =>
    intro i h1 hi
    refine br_f (wt_21ge i (by omega)) ⟨vp_in_nI (by omega) (by omega), ?_⟩
    rw [nI_clamp (by omega)]
    have hn := ih (i + 1) (by omega) (by omega)
    by_cases e : y_paths i < 0
    · rw [wt_ct_f (fun z => Int32.lt_asymm e (of_decide_eq_true z))] at hn
      exact br_t e (nm_r (nI_1 i) hn)
    · rw [wt_ct_t (decide_eq_true ((wt_I_ge hI h1 (by omega)).mp (wt_lt_ge e)))] at hn
      exact br_f e (nm_r (nI_1 _) (nm_r (nI_1 i) hn))
theorem wt_nd0 {p w : Nat → Int32} (hI : wt_I p w) : ¬ wt_nd p 0 = true := fun z => wt_I_0 hI (of_decide_eq_true z)
theorem wt_ch0 {p w : Nat → Int32} {x : Int32} (hI : wt_I p w) : ¬ wt_ch p x 0 = true := fun z => wt_I_0 hI (of_decide_eq_true z).1
theorem wy_many {post : Int32 → Prop} (hI : wt_I y_paths y_values) (hp : post (nI (wt_ct (wt_nd y_paths) 21))) : wpY_many post (y_time, y_last, y_watchCount, y_partCount, y_wrong, y_changes, y_log, y_since, y_placesLeft, y_paths, y_values, y_open, y_timeouts, y_deadlines, y_events, y_eventCounts, y_watchers, y_watchKinds, y_watchPaths, y_parts, y_happened, y_how) := by
  have h := wy_many_lp (post := post) (y_time := y_time) (y_last := y_last) (y_watchCount := y_watchCount) (y_partCount := y_partCount) (y_wrong := y_wrong) (y_changes := y_changes) (y_log := y_log) (y_since := y_since) (y_placesLeft := y_placesLeft) (y_paths := y_paths) (y_values := y_values) (y_open := y_open) (y_timeouts := y_timeouts) (y_deadlines := y_deadlines) (y_events := y_events) (y_eventCounts := y_eventCounts) (y_watchers := y_watchers) (y_watchKinds := y_watchKinds) (y_watchPaths := y_watchPaths) (y_parts := y_parts) (y_happened := y_happened) (y_how := y_how) hI hp 20 1 (by omega) rfl
  rw [wt_ct_f (wt_nd0 hI)] at h
  exact ⟨21, h⟩
theorem wy_chi_lp {post : Int32 → Prop} {x : Int32} (hI : wt_I y_paths y_values) (hp : post (nI (wt_ct (wt_ch y_paths x) 21))) : ∀ d i, 1 ≤ i → i + d = 21 → wY_childrenOf_4 post x y_time y_last y_watchCount y_partCount y_wrong y_changes y_log y_since y_placesLeft y_paths y_values y_open y_timeouts y_deadlines y_events y_eventCounts y_watchers y_watchKinds y_watchPaths y_parts y_happened y_how (d + 1) (nI (wt_ct (wt_ch y_paths x) i)) (nI i) := by
  intro d
  induction d with
  | zero =>
    intro i _ hi
    have e : i = 21 := by omega
    subst e
    exact br_t wt_21le hp
  | succ d ih =>
    intro i h1 hi
    refine br_f (wt_21ge i (by omega)) ⟨vp_in_nI (by omega) (by omega), ?_⟩
    rw [nI_clamp (by omega)]
    have hn := ih (i + 1) (by omega) (by omega)
    by_cases e : y_paths i < 0
    · rw [wt_ct_f (fun z => Int32.lt_asymm e (of_decide_eq_true z).1)] at hn
      exact br_t e (nm_r (nI_1 i) hn)
    · refine br_f e ⟨vp_in_nI (by omega) (by omega), wt_ne101, ?_⟩
      by_cases f : y_paths i / 101 = x
      · rw [wt_ct_t (decide_eq_true ⟨(wt_I_ge hI h1 (by omega)).mp (wt_lt_ge e), f⟩)] at hn
        exact br_t f (nm_r (nI_1 _) (nm_r (nI_1 i) hn))
      · rw [wt_ct_f (fun z => f (of_decide_eq_true z).2)] at hn
        exact br_f f (nm_r (nI_1 i) hn)
theorem wy_chi {post : Int32 → Prop} {x : Int32} (hI : wt_I y_paths y_values) (hp : post (nI (wt_ct (wt_ch y_paths x) 21))) : wpY_childrenOf post (y_time, y_last, y_watchCount, y_partCount, y_wrong, y_changes, y_log, y_since, y_placesLeft, y_paths, y_values, y_open, y_timeouts, y_deadlines, y_events, y_eventCounts, y_watchers, y_watchKinds, y_watchPaths, y_parts, y_happened, y_how) x := by
  have h := wy_chi_lp (post := post) (x := x) (y_time := y_time) (y_last := y_last) (y_watchCount := y_watchCount) (y_partCount := y_partCount) (y_wrong := y_wrong) (y_changes := y_changes) (y_log := y_log) (y_since := y_since) (y_placesLeft := y_placesLeft) (y_paths := y_paths) (y_values := y_values) (y_open := y_open) (y_timeouts := y_timeouts) (y_deadlines := y_deadlines) (y_events := y_events) (y_eventCounts := y_eventCounts) (y_watchers := y_watchers) (y_watchKinds := y_watchKinds) (y_watchPaths := y_watchPaths) (y_parts := y_parts) (y_happened := y_happened) (y_how := y_how) hI hp 20 1 (by omega) rfl
  rw [wt_ct_f (wt_ch0 hI)] at h
  exact ⟨21, h⟩
theorem wy_owned_lp {post : Int32 → Prop} {s : Int32} (hI : wt_I y_paths y_values) (hp : post (wt_r 1 (wt_ow y_paths y_values s 21))) : ∀ d i, 1 ≤ i → i + d = 21 → wY_owned_4 post s y_time y_last y_watchCount y_partCount y_wrong y_changes y_log y_since y_placesLeft y_paths y_values y_open y_timeouts y_deadlines y_events y_eventCounts y_watchers y_watchKinds y_watchPaths y_parts y_happened y_how (d + 1) (wt_r 1 (wt_ow y_paths y_values s i)) (nI i) := by
  intro d
  induction d with
  | zero =>
    intro i _ hi
    have e : i = 21 := by omega
    subst e
    exact br_t wt_21le hp
  | succ d ih =>
    intro i h1 hi
    have vi : vp_in (nI i) 42 := vp_in_nI (by omega) (by omega)
    have ci : (nI i).toNatClampNeg = i := nI_clamp (by omega)
    have c5 : y_values ((6 : Int32) * nI i + 5).toNatClampNeg = y_values (6 * i + 5) := congrArg y_values (wt_6c i 5 (by omega) (by omega))
    refine br_f (wt_21ge i (by omega)) ⟨vi, ?_⟩
    rw [ci]
    have hn := ih (i + 1) (by omega) (by omega)
    by_cases e : y_paths i < 0
    · have k : wt_ow y_paths y_values s (i + 1) = wt_ow y_paths y_values s i := wt_ow_f (fun z => Int32.lt_asymm e z.2.1)
      rw [k] at hn
      exact br_t e (nm_r (nI_1 i) hn)
    · have pos := (wt_I_ge hI h1 (by omega)).mp (wt_lt_ge e)
      refine br_f e ⟨wt_6in i 5 (by omega) (by omega), ?_⟩
      rw [c5]
      by_cases f : y_values (6 * i + 5) = s
      · refine br_t f ?_
        have g1 : wt_r 1 i = nI i := by rw [wt_r_t (by omega), Nat.one_mul]
        rcases wt_ow_spec y_paths y_values s i (by omega) with ⟨q, _⟩ | ⟨q, _, _⟩
        · have k : wt_ow y_paths y_values s (i + 1) = i := wt_ow_t ⟨f, pos, Or.inl q⟩
          rw [k, g1] at hn
          rw [q]
          exact br_t (by decide) (nm_r (nI_1 i) hn)
        · have g2 : wt_r 1 (wt_ow y_paths y_values s i) = nI (wt_ow y_paths y_values s i) := by rw [wt_r_t (by omega), Nat.one_mul]
          rw [g2]
          refine br_f (nI_pos (by omega)) ⟨vi, vp_in_nI (by omega) (by omega), ?_⟩
          rw [nI_clamp (n := wt_ow y_paths y_values s i) (by omega)]
          by_cases l : y_paths i ≤ y_paths (wt_ow y_paths y_values s i)
          · have k : wt_ow y_paths y_values s (i + 1) = wt_ow y_paths y_values s i := wt_ow_f (fun z => by
              rcases z.2.2 with y | y
              · omega
              · exact Int32.not_le.mpr y l)
            rw [k, g2] at hn
            exact br_t l (nm_r (nI_1 i) hn)
          · have k : wt_ow y_paths y_values s (i + 1) = i := wt_ow_t ⟨f, pos, Or.inr (Int32.not_le.mp l)⟩
            rw [k, g1] at hn
            exact br_f l (nm_r (nI_1 i) hn)
      · have k : wt_ow y_paths y_values s (i + 1) = wt_ow y_paths y_values s i := wt_ow_f (fun z => f z.1)
        rw [k] at hn
        exact br_f f (nm_r (nI_1 i) hn)
theorem wy_owned {post : Int32 → Prop} {s : Int32} (hI : wt_I y_paths y_values) (hp : post (wt_r 1 (wt_ow y_paths y_values s 21))) : wpY_owned post (y_time, y_last, y_watchCount, y_partCount, y_wrong, y_changes, y_log, y_since, y_placesLeft, y_paths, y_values, y_open, y_timeouts, y_deadlines, y_events, y_eventCounts, y_watchers, y_watchKinds, y_watchPaths, y_parts, y_happened, y_how) s := by
  have h := wy_owned_lp (post := post) (s := s) (y_time := y_time) (y_last := y_last) (y_watchCount := y_watchCount) (y_partCount := y_partCount) (y_wrong := y_wrong) (y_changes := y_changes) (y_log := y_log) (y_since := y_since) (y_placesLeft := y_placesLeft) (y_paths := y_paths) (y_values := y_values) (y_open := y_open) (y_timeouts := y_timeouts) (y_deadlines := y_deadlines) (y_events := y_events) (y_eventCounts := y_eventCounts) (y_watchers := y_watchers) (y_watchKinds := y_watchKinds) (y_watchPaths := y_watchPaths) (y_parts := y_parts) (y_happened := y_happened) (y_how := y_how) hI hp 20 1 (by omega) rfl
  have k : wt_ow y_paths y_values s 1 = 21 := wt_ow_f (fun z => wt_I_0 hI z.2.1)
  rw [k] at h
  exact ⟨21, h⟩
theorem wy_done {post : SY → Prop} (hp : post (y_time, (y_last + 1), y_watchCount, y_partCount, y_wrong, y_changes, (y_log + 1), (y_since + 1), y_placesLeft, y_paths, y_values, y_open, y_timeouts, y_deadlines, y_events, y_eventCounts, y_watchers, y_watchKinds, y_watchPaths, y_parts, y_happened, y_how)) : wpY_done post (y_time, y_last, y_watchCount, y_partCount, y_wrong, y_changes, y_log, y_since, y_placesLeft, y_paths, y_values, y_open, y_timeouts, y_deadlines, y_events, y_eventCounts, y_watchers, y_watchKinds, y_watchPaths, y_parts, y_happened, y_how) := nm_e (nm_e (nm_e hp))
theorem wy_note {post : SY → Prop} {c : Nat} {x k : Int32} (hc : c < 21) (hp : post (y_time, y_last, y_watchCount, y_partCount, y_wrong, (nI (c + 1)), y_log, y_since, y_placesLeft, y_paths, y_values, y_open, y_timeouts, y_deadlines, y_events, y_eventCounts, y_watchers, y_watchKinds, y_watchPaths, y_parts, (upd y_happened c x), (upd y_how c k))) : wpY_note post (y_time, y_last, y_watchCount, y_partCount, y_wrong, (nI c), y_log, y_since, y_placesLeft, y_paths, y_values, y_open, y_timeouts, y_deadlines, y_events, y_eventCounts, y_watchers, y_watchKinds, y_watchPaths, y_parts, y_happened, y_how) x k := by
  have v : vp_in (nI c) 21 := vp_in_nI hc (by omega)
  have e : (nI c).toNatClampNeg = c := nI_clamp (by omega)
  exact ⟨v, nm_r (by rw [e]) (nm_r (nI_1 c) ⟨v, nm_r (by rw [e]) hp⟩)⟩
end
