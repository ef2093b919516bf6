theorem wt_rng {v M : Int32} {n : Nat} (hM : M.toInt = n) (h1 : ¬ v < 1) (h2 : v ≤ M) : ∃ b, 1 ≤ b ∧ b ≤ n ∧ v = nI b := by
  have h0 : ¬ v < 0 := fun z => h1 (Int32.lt_trans z (by decide))
  obtain ⟨b, hb, e⟩ := nI_of2 hM h0 h2
  refine ⟨b, ?_, hb, e⟩
  apply Nat.pos_of_ne_zero
  intro z
  subst z
  rw [e] at h1
  exact h1 (by decide)
theorem wt_subneg {a b : Nat} (h : a ≤ b) (hb : b < 2 ^ 30) : nI a - nI b ≤ 0 := by
  rw [Int32.le_iff_toInt_le, pk_sub_toInt (by omega) hb, show (0 : Int32).toInt = 0 from by decide]
  omega
section
variable {x_time x_partCount x_wrongAt x_changeCount x_transactions x_logStart x_snapshotStart x_placesLeft : Int32} {x_tree x_treeBefore x_timeouts x_deadlines x_events x_eventCounts x_watchSessions x_watchKinds x_watchPaths x_partKinds x_partPaths x_partAs x_partBs x_changePaths x_changeKinds : Nat → Int32}
variable {y_time y_last y_watchCount y_partCount y_wrong y_changes y_log y_since y_placesLeft : Int32} {y_paths y_values y_open y_timeouts y_deadlines y_events y_eventCounts y_watchers y_watchKinds y_watchPaths y_parts y_happened y_how : Nat → Int32}
theorem wx_save_0 {post : Int32 → SX → Prop} {a b : Nat} (h : a ≤ b) (hb : b ≤ 24) (hp : post 0 (x_time, x_partCount, x_wrongAt, x_changeCount, x_transactions, x_snapshotStart, x_snapshotStart, 0, x_tree, x_treeBefore, x_timeouts, x_deadlines, x_events, x_eventCounts, x_watchSessions, x_watchKinds, x_watchPaths, x_partKinds, x_partPaths, x_partAs, x_partBs, x_changePaths, x_changeKinds)) : wX_save_34 post (nI b) x_time x_partCount x_wrongAt x_changeCount x_transactions x_logStart x_snapshotStart (nI a) x_tree x_treeBefore x_timeouts x_deadlines x_events x_eventCounts x_watchSessions x_watchKinds x_watchPaths x_partKinds x_partPaths x_partAs x_partBs x_changePaths x_changeKinds := br_t (nI_le h (by omega)) (br_t rfl hp)
theorem wx_save_1 {post : Int32 → SX → Prop} {a b : Nat} (h : b < a) (hb : a ≤ 24) (hp : post (nI (a - b)) (x_time, x_partCount, x_wrongAt, x_changeCount, x_transactions, x_logStart, x_snapshotStart, (nI (a - b)), x_tree, x_treeBefore, x_timeouts, x_deadlines, x_events, x_eventCounts, x_watchSessions, x_watchKinds, x_watchPaths, x_partKinds, x_partPaths, x_partAs, x_partBs, x_changePaths, x_changeKinds)) : wX_save_34 post (nI b) x_time x_partCount x_wrongAt x_changeCount x_transactions x_logStart x_snapshotStart (nI a) x_tree x_treeBefore x_timeouts x_deadlines x_events x_eventCounts x_watchSessions x_watchKinds x_watchPaths x_partKinds x_partPaths x_partAs x_partBs x_changePaths x_changeKinds := by
  refine br_f (nI_ge h (by omega)) ?_
  unfold wX_save_53
  rw [pk_sub (by omega)]
  exact br_f (nI_ne0 (by omega) (by omega)) hp
theorem wy_save_0 {post : Int32 → SY → Prop} {a b : Nat} (h : a ≤ b) (hb : b ≤ 24) (hp : post 0 (y_time, y_last, y_watchCount, y_partCount, y_wrong, y_changes, y_since, y_since, 0, y_paths, y_values, y_open, y_timeouts, y_deadlines, y_events, y_eventCounts, y_watchers, y_watchKinds, y_watchPaths, y_parts, y_happened, y_how)) : wY_save_31 post (nI b) y_time y_last y_watchCount y_partCount y_wrong y_changes y_log y_since (nI a) y_paths y_values y_open y_timeouts y_deadlines y_events y_eventCounts y_watchers y_watchKinds y_watchPaths y_parts y_happened y_how := nm_e (br_t (wt_subneg h (by omega)) hp)
theorem wy_save_1 {post : Int32 → SY → Prop} {a b : Nat} (h : b < a) (hb : a ≤ 24) (hp : post (nI (a - b)) (y_time, y_last, y_watchCount, y_partCount, y_wrong, y_changes, y_log, y_since, (nI (a - b)), y_paths, y_values, y_open, y_timeouts, y_deadlines, y_events, y_eventCounts, y_watchers, y_watchKinds, y_watchPaths, y_parts, y_happened, y_how)) : wY_save_31 post (nI b) y_time y_last y_watchCount y_partCount y_wrong y_changes y_log y_since (nI a) y_paths y_values y_open y_timeouts y_deadlines y_events y_eventCounts y_watchers y_watchKinds y_watchPaths y_parts y_happened y_how := nm_r (pk_sub (by omega)) (br_f (nI_nle (by omega) (by omega)) hp)
end
theorem i_vc_save {k : Nat} {u : SX} {v : SY} (I : i_Rel k u v) (hk : k + 5 ≤ 2560) (v1 : Int32) : wpX_save (fun r u' => wpY_save (fun r' v' => r' = r ∧ i_Rel (k + 5) u' v') v v1) u v1 := by
  have I' := i_up I
  obtain ⟨x_time, x_partCount, x_wrongAt, x_changeCount, x_transactions, x_logStart, x_snapshotStart, x_placesLeft, x_tree, x_treeBefore, x_timeouts, x_deadlines, x_events, x_eventCounts, x_watchSessions, x_watchKinds, x_watchPaths, x_partKinds, x_partPaths, x_partAs, x_partBs, x_changePaths, x_changeKinds⟩ := u
  obtain ⟨y_time, y_last, y_watchCount, y_partCount, y_wrong, y_changes, y_log, y_since, y_placesLeft, y_paths, y_values, y_open, y_timeouts, y_deadlines, y_events, y_eventCounts, y_watchers, y_watchKinds, y_watchPaths, y_parts, y_happened, y_how⟩ := v
  have I2 := I'
  obtain ⟨hT, hI, hV, hS, hti, hE, hW, hP, hw, ⟨n1, n2, n3, ⟨a, n4, n5⟩, n6⟩, hc⟩ := I2
  by_cases h1 : v1 < 1
  · exact br_t h1 (br_t h1 ⟨rfl, I'⟩)
  · by_cases h2 : v1 ≤ 24
    · obtain ⟨b, b1, b2, rfl⟩ := wt_rng (n := 24) (by decide) h1 h2
      subst n5
      subst n3
      subst n1
      refine br_f h1 (br_t h2 ?_)
      by_cases a0 : a = 0
      · subst a0
        refine br_t rfl ?_
        by_cases le : 24 ≤ b
        · refine wx_save_0 (a := 24) le b2 (br_f h1 (br_t h2 (br_t rfl (wy_save_0 (a := 24) le b2 ⟨rfl, hT, hI, hV, hS, hti, hE, hW, hP, hw, ⟨rfl, ?_, rfl, ⟨0, by omega, rfl⟩, fun z => absurd rfl z⟩, hc⟩))))
          exact Int32.sub_self _
        · refine wx_save_1 (a := 24) (by omega) (by omega) (br_f h1 (br_t h2 (br_t rfl (wy_save_1 (a := 24) (by omega) (by omega) ⟨rfl, hT, hI, hV, hS, hti, hE, hW, hP, hw, ⟨rfl, n2, rfl, ⟨24 - b, by omega, rfl⟩, fun _ => ?_⟩, hc⟩))))
          exact Int32.sub_self _
      · have an : ¬ nI a = 0 := nI_ne0 (by omega) (by omega)
        refine br_f an ?_
        by_cases le : a ≤ b
        · exact wx_save_0 le b2 (br_f h1 (br_t h2 (br_f an (wy_save_0 le b2 ⟨rfl, hT, hI, hV, hS, hti, hE, hW, hP, hw, ⟨rfl, n6 an, rfl, ⟨0, by omega, rfl⟩, fun z => absurd rfl z⟩, hc⟩))))
        · exact wx_save_1 (by omega) n4 (br_f h1 (br_t h2 (br_f an (wy_save_1 (by omega) n4 ⟨rfl, hT, hI, hV, hS, hti, hE, hW, hP, hw, ⟨rfl, n2, rfl, ⟨a - b, by omega, rfl⟩, fun _ => n6 an⟩, hc⟩))))
    · exact br_f h1 (br_f h2 (br_f h1 (br_f h2 ⟨rfl, I'⟩)))
theorem wt_4j (i j : Nat) : (4 : Int32) * nI i + nI j = nI (4 * i + j) := by
  have e : (4 : Int32) * nI i = nI (4 * i) := pk_mul 4 i
  rw [e, nI_add]
theorem wt_4c (i j : Nat) (hi : i < 6) (hj : j < 4) : ((4 : Int32) * nI i + nI j).toNatClampNeg = 4 * i + j := by
  rw [wt_4j]; exact nI_clamp (by omega)
theorem wt_4in (i j : Nat) (hi : i < 6) (hj : j < 4) : vp_in ((4 : Int32) * nI i + nI j) 24 := by
  rw [wt_4j]; exact vp_in_nI (by omega) (by omega)
theorem wt_4c0 (i : Nat) (hi : i < 6) : ((4 : Int32) * nI i).toNatClampNeg = 4 * i := by
  have e : (4 : Int32) * nI i = nI (4 * i) := pk_mul 4 i
  rw [e]; exact nI_clamp (by omega)
theorem wt_4in0 (i : Nat) (hi : i < 6) : vp_in ((4 : Int32) * nI i) 24 := by
  have e : (4 : Int32) * nI i = nI (4 * i) := pk_mul 4 i
  rw [e]; exact vp_in_nI (by omega) (by omega)
section
variable {x_time x_partCount x_wrongAt x_changeCount x_transactions x_logStart x_snapshotStart x_placesLeft : Int32} {x_tree x_treeBefore x_timeouts x_deadlines x_events x_eventCounts x_watchSessions x_watchKinds x_watchPaths x_partKinds x_partPaths x_partAs x_partBs x_changePaths x_changeKinds : Nat → Int32}
variable {y_time y_last y_watchCount y_partCount y_wrong y_changes y_log y_since y_placesLeft : Int32} {y_paths y_values y_open y_timeouts y_deadlines y_events y_eventCounts y_watchers y_watchKinds y_watchPaths y_parts y_happened y_how : Nat → Int32}
theorem wx_part {post : Int32 → SX → Prop} {c : Nat} {a1 a2 a3 a4 : Int32} (hc : c < 6) (hp : post (nI (c + 1)) (x_time, (nI (c + 1)), x_wrongAt, x_changeCount, x_transactions, x_logStart, x_snapshotStart, x_placesLeft, x_tree, x_treeBefore, x_timeouts, x_deadlines, x_events, x_eventCounts, x_watchSessions, x_watchKinds, x_watchPaths, (upd x_partKinds c a1), (upd x_partPaths c a2), (upd x_partAs c a3), (upd x_partBs c a4), x_changePaths, x_changeKinds)) : wX_part_43 post a1 a2 a3 a4 x_time (nI c) x_wrongAt x_changeCount x_transactions x_logStart x_snapshotStart x_placesLeft x_tree x_treeBefore x_timeouts x_deadlines x_events x_eventCounts x_watchSessions x_watchKinds x_watchPaths x_partKinds x_partPaths x_partAs x_partBs x_changePaths x_changeKinds := by
  have v : vp_in (nI c) 6 := vp_in_nI hc (by omega)
  have e : (nI c).toNatClampNeg = c := nI_clamp (by omega)
  exact ⟨v, nm_r (wt_ui _ _ e) ⟨v, nm_r (wt_ui _ _ e) ⟨v, nm_r (wt_ui _ _ e) ⟨v, nm_r (wt_ui _ _ e) (nm_r (nI_1 c) hp)⟩⟩⟩⟩
theorem wy_part {post : Int32 → SY → Prop} {c : Nat} {a1 a2 a3 a4 : Int32} (hc : c < 6) (hp : post (nI (c + 1)) (y_time, y_last, y_watchCount, (nI (c + 1)), y_wrong, y_changes, y_log, y_since, y_placesLeft, y_paths, y_values, y_open, y_timeouts, y_deadlines, y_events, y_eventCounts, y_watchers, y_watchKinds, y_watchPaths, (upd (upd (upd (upd y_parts (4 * c) a1) (4 * c + 1) a2) (4 * c + 2) a3) (4 * c + 3) a4), y_happened, y_how)) : wY_part_35 post a1 a2 a3 a4 y_time y_last y_watchCount (nI c) y_wrong y_changes y_log y_since y_placesLeft y_paths y_values y_open y_timeouts y_deadlines y_events y_eventCounts y_watchers y_watchKinds y_watchPaths y_parts y_happened y_how :=
  ⟨wt_4in0 c hc, nm_r (wt_ui _ _ (wt_4c0 c hc)) ⟨wt_4in c 1 hc (by omega), nm_r (wt_ui _ _ (wt_4c c 1 hc (by omega))) ⟨wt_4in c 2 hc (by omega), nm_r (wt_ui _ _ (wt_4c c 2 hc (by omega))) (nm_r (nI_1 c) ⟨wt_4in c 3 hc (by omega), nm_r (wt_ui _ _ (wt_4c c 3 hc (by omega))) hp⟩)⟩⟩⟩
end
theorem wt_P_s {xk xp xa xb yp : Nat → Int32} {c b : Nat} {a2 a3 a4 : Int32} (hc : c < 6) (h : ∀ i, i < c → xk i = yp (4 * i) ∧ xp i = yp (4 * i + 1) ∧ xa i = yp (4 * i + 2) ∧ xb i = yp (4 * i + 3) ∧ ∃ b, b ≤ 3 ∧ yp (4 * i) = nI b ∧ (b = 0 → ∃ f, f ≤ 3 ∧ yp (4 * i + 3) = nI f)) (hb : b ≤ 3) (hf : b = 0 → ∃ f, f ≤ 3 ∧ a4 = nI f) : wt_P (nI (c + 1)) (nI (c + 1)) (upd xk c (nI b)) (upd xp c a2) (upd xa c a3) (upd xb c a4) (upd (upd (upd (upd yp (4 * c) (nI b)) (4 * c + 1) a2) (4 * c + 2) a3) (4 * c + 3) a4) := by
  refine ⟨c + 1, by omega, rfl, rfl, fun i hi => ?_⟩
  by_cases e : i = c
  · subst e
    have e0 : upd (upd (upd (upd yp (4 * i) (nI b)) (4 * i + 1) a2) (4 * i + 2) a3) (4 * i + 3) a4 (4 * i) = nI b := by
      rw [pk_un (by omega), pk_un (by omega), pk_un (by omega), pk_us]
    have e1 : upd (upd (upd (upd yp (4 * i) (nI b)) (4 * i + 1) a2) (4 * i + 2) a3) (4 * i + 3) a4 (4 * i + 1) = a2 := by
      rw [pk_un (by omega), pk_un (by omega), pk_us]
    have e2 : upd (upd (upd (upd yp (4 * i) (nI b)) (4 * i + 1) a2) (4 * i + 2) a3) (4 * i + 3) a4 (4 * i + 2) = a3 := by
      rw [pk_un (by omega), pk_us]
    rw [e0, e1, e2, pk_us, pk_us, pk_us, pk_us, pk_us]
    exact ⟨rfl, rfl, rfl, rfl, b, hb, rfl, hf⟩
  · have q : ∀ j, j < 4 → upd (upd (upd (upd yp (4 * c) (nI b)) (4 * c + 1) a2) (4 * c + 2) a3) (4 * c + 3) a4 (4 * i + j) = yp (4 * i + j) := fun j hj => by
      rw [pk_un (by omega), pk_un (by omega), pk_un (by omega), pk_un (by omega)]
    have q0 : upd (upd (upd (upd yp (4 * c) (nI b)) (4 * c + 1) a2) (4 * c + 2) a3) (4 * c + 3) a4 (4 * i) = yp (4 * i) := q 0 (by omega)
    rw [q0, q 1 (by omega), q 2 (by omega), q 3 (by omega), pk_un e, pk_un e, pk_un e, pk_un e]
    exact h i (by omega)
theorem i_vc_part {k : Nat} {u : SX} {v : SY} (I : i_Rel k u v) (hk : k + 5 ≤ 2560) (v1 : Int32) (v2 : Int32) (v3 : Int32) (v4 : Int32) : wpX_part (fun r u' => wpY_part (fun r' v' => r' = r ∧ i_Rel (k + 5) u' v') v v1 v2 v3 v4) u v1 v2 v3 v4 := by
  have I' := i_up I
  obtain ⟨x_time, x_partCount, x_wrongAt, x_changeCount, x_transactions, x_logStart, x_snapshotStart, x_placesLeft, x_tree, x_treeBefore, x_timeouts, x_deadlines, x_events, x_eventCounts, x_watchSessions, x_watchKinds, x_watchPaths, x_partKinds, x_partPaths, x_partAs, x_partBs, x_changePaths, x_changeKinds⟩ := u
  obtain ⟨y_time, y_last, y_watchCount, y_partCount, y_wrong, y_changes, y_log, y_since, y_placesLeft, y_paths, y_values, y_open, y_timeouts, y_deadlines, y_events, y_eventCounts, y_watchers, y_watchKinds, y_watchPaths, y_parts, y_happened, y_how⟩ := v
  have I2 := I'
  obtain ⟨hT, hI, hV, hS, hti, hE, hW, ⟨c, c1, c2, c3, c4⟩, hw, hN, hc⟩ := I2
  subst c2
  subst c3
  by_cases c6 : c = 6
  · subst c6
    exact br_f (by decide) (br_f (by decide) (br_t rfl ⟨rfl, I'⟩))
  · have l6 : nI c < 6 := nI_lt (b := 6) (by omega) (by omega)
    have n6 : ¬ nI c = 6 := fun z => by
      have := (nI_eq (a := c) (b := 6) (by omega) (by omega)).mp z
      omega
    refine br_f (nI_pos (by omega)) (br_t l6 ?_)
    by_cases h0 : v1 < 0
    · exact br_t h0 (br_f n6 (br_t h0 ⟨rfl, I'⟩))
    · by_cases h3 : v1 ≤ 3
      · obtain ⟨b, hb, rfl⟩ := nI_of2 (M := 3) (n := 3) (by decide) h0 h3
        have h3' : ¬ 3 < nI b := Int32.not_lt.mpr h3
        by_cases b0 : b = 0
        · subst b0
          by_cases hf : ∃ f, f ≤ 3 ∧ v4 = nI f
          · obtain ⟨f, f1, rfl⟩ := hf
            refine br_f h0 (br_t h3 (br_t rfl (wx_flags_t f1 (br_f (by decide) (wx_part (by omega) (br_f n6 (br_f h0 (br_f h3' (br_t rfl (br_f (nI_pos (by omega)) (br_t (nI_le (b := 3) f1 (by omega)) (wy_part (by omega) ⟨rfl, ?_⟩))))))))))))
            exact ⟨hT, hI, hV, hS, hti, hE, hW, wt_P_s (b := 0) (by omega) c4 (by omega) (fun _ => ⟨f, f1, rfl⟩), hw, hN, hc⟩
          · refine br_f h0 (br_t h3 (br_t rfl (wx_flags_f (fun f f1 f2 => hf ⟨f, f1, f2⟩) (br_t rfl (br_f n6 (br_f h0 (br_f h3' (br_t rfl (br_c (fun _ => ⟨rfl, I'⟩) (fun z => br_f (fun y => ?_) ⟨rfl, I'⟩))))))))))
            obtain ⟨f, f1, f2⟩ := nI_of2 (M := 3) (n := 3) (by decide) z y
            exact hf ⟨f, f1, f2⟩
        · have bn : ¬ nI b = 0 := nI_ne0 (by omega) (by omega)
          refine br_f h0 (br_t h3 (br_f bn (wx_part (by omega) (br_f n6 (br_f h0 (br_f h3' (br_f bn (wy_part (by omega) ⟨rfl, ?_⟩))))))))
          exact ⟨hT, hI, hV, hS, hti, hE, hW, wt_P_s (by omega) c4 hb (fun z => absurd z b0), hw, hN, hc⟩
      · exact br_f h0 (br_f h3 (br_f n6 (br_f h0 (br_t (Int32.not_le.mp h3) ⟨rfl, I'⟩))))
