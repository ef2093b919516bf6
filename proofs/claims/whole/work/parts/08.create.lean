/-- what a request leaves behind: r of X, r' of Y -/
def wt_O (B c : Nat) (p w : Nat → Int32) (kind r r' : Int32) (t' p' w' xk' xp' yh' yw' : Nat → Int32) (c' : Nat) : Prop := wt_T t' p' w' ∧ wt_I p' w' ∧ wt_V (B + 1) w' ∧ wt_C c' xk' xp' yh' yw' ∧ (∀ j, 21 ≤ j → p' j = p j) ∧ (∀ j, 126 ≤ j → w' j = w j) ∧ ((r < 0 ∧ r' = r ∧ c' = c) ∨ (¬ r < 0 ∧ ¬ r' < 0 ∧ (¬ kind = 3 → r' = r) ∧ c' ≤ c + 1))
theorem wt_O_f {B c : Nat} {p w t xk xp yh yw : Nat → Int32} {kind r : Int32} (hT : wt_T t p w) (hI : wt_I p w) (hV : wt_V B w) (hC : wt_C c xk xp yh yw) (hr : r < 0) : wt_O B c p w kind r r t p w xk xp yh yw c := ⟨hT, hI, wt_V_up hV (by omega), hC, fun _ _ => rfl, fun _ _ => rfl, Or.inl ⟨hr, rfl, rfl⟩⟩
/-- the six values of a new node -/
def wt_nw (w : Nat → Int32) (f : Nat) (d t o : Int32) : Nat → Int32 := upd (upd (upd (upd (upd (upd w (6 * f + 0) d) (6 * f + 1) 0) (6 * f + 2) 0) (6 * f + 3) t) (6 * f + 4) t) (6 * f + 5) o
def wt_nx (x : Nat → Int32) (f : Nat) (m d t o : Int32) : Nat → Int32 := upd (upd (upd (upd (upd (upd (upd x (7 * f + 0) d) (7 * f + 1) 0) (7 * f + 2) 0) (7 * f + 3) t) (7 * f + 4) t) (7 * f + 5) o) (7 * f + 6) m
theorem wt_T_nw {x p w : Nat → Int32} {f : Nat} {m d t o : Int32} (hT : wt_T x p w) : wt_T (wt_nx x f m d t o) (upd p f m) (wt_nw w f d t o) :=
  wt_T_p (wt_T_w (wt_T_w (wt_T_w (wt_T_w (wt_T_w (wt_T_w hT (j := 0) (by omega) d) (j := 1) (by omega) 0) (j := 2) (by omega) 0) (j := 3) (by omega) t) (j := 4) (by omega) t) (j := 5) (by omega) o) m
theorem wt_nw_o {w : Nat → Int32} {f : Nat} {d t o : Int32} (j : Nat) : wt_nw w f d t o (6 * j + 5) = if j = f then o else w (6 * j + 5) := by
  by_cases e : j = f
  · subst e
    rw [if_pos rfl]
    exact pk_us
  · rw [if_neg e]
    unfold wt_nw
    rw [pk_un (by omega), pk_un (by omega), pk_un (by omega), pk_un (by omega), pk_un (by omega), pk_un (by omega)]
theorem wt_nw_x {w : Nat → Int32} {f : Nat} {d t o : Int32} {j : Nat} (h : j < 6 * f ∨ 6 * f + 6 ≤ j) : wt_nw w f d t o j = w j := by
  unfold wt_nw
  rw [pk_un (by omega), pk_un (by omega), pk_un (by omega), pk_un (by omega), pk_un (by omega), pk_un (by omega)]
theorem wt_V_nw {B : Nat} {w : Nat → Int32} {f : Nat} {d t o : Int32} (h : wt_V B w) : wt_V B (wt_nw w f d t o) :=
  wt_V_n (wt_V_n (wt_V_n (wt_V_b (wt_V_b (wt_V_n h (by omega) (by omega) (by omega)) ⟨0, by omega, rfl⟩) ⟨0, by omega, rfl⟩) (by omega) (by omega) (by omega)) (by omega) (by omega) (by omega)) (by omega) (by omega) (by omega)
section
variable {x_time x_partCount x_wrongAt x_changeCount x_transactions x_logStart x_snapshotStart x_placesLeft : Int32} {x_tree x_treeBefore x_timeouts x_deadlines x_events x_eventCounts x_watchSessions x_watchKinds x_watchPaths x_partKinds x_partPaths x_partAs x_partBs x_changePaths x_changeKinds : Nat → Int32}
variable {y_time y_last y_watchCount y_partCount y_wrong y_changes y_log y_since y_placesLeft : Int32} {y_paths y_values y_open y_timeouts y_deadlines y_events y_eventCounts y_watchers y_watchKinds y_watchPaths y_parts y_happened y_how : Nat → Int32}
variable {n : Int32}
theorem wx_new {post : SX → Prop} {f : Nat} {m d o : Int32} (hf : f < 21) (hp : post (x_time, x_partCount, x_wrongAt, x_changeCount, x_transactions, x_logStart, x_snapshotStart, x_placesLeft, (wt_nx x_tree f m d (x_transactions + 1) o), x_treeBefore, x_timeouts, x_deadlines, x_events, x_eventCounts, x_watchSessions, x_watchKinds, x_watchPaths, x_partKinds, x_partPaths, x_partAs, x_partBs, x_changePaths, x_changeKinds)) : wpX_writeNewNode post (x_time, x_partCount, x_wrongAt, x_changeCount, x_transactions, x_logStart, x_snapshotStart, x_placesLeft, x_tree, x_treeBefore, x_timeouts, x_deadlines, x_events, x_eventCounts, x_watchSessions, x_watchKinds, x_watchPaths, x_partKinds, x_partPaths, x_partAs, x_partBs, x_changePaths, x_changeKinds) (nI (7 * f)) m d o := by
  have c0 := wt_7c f 0 hf (by omega)
  have c1 := wt_7c f 1 hf (by omega)
  have c2 := wt_7c f 2 hf (by omega)
  have c3 := wt_7c f 3 hf (by omega)
  have c4 := wt_7c f 4 hf (by omega)
  have c5 := wt_7c f 5 hf (by omega)
  have c6 := wt_7c f 6 hf (by omega)
  have U : ∀ (x : Nat → Int32) (v : Int32) {a b : Nat}, a = b → upd x a v = upd x b v := fun x v a b h => by rw [h]
  exact nm_e ⟨wt_7in f 0 hf (by omega), nm_r (U _ _ c0) ⟨wt_7in f 1 hf (by omega), nm_r (U _ _ c1) ⟨wt_7in f 2 hf (by omega), nm_r (U _ _ c2) ⟨wt_7in f 3 hf (by omega), nm_r (U _ _ c3) ⟨wt_7in f 4 hf (by omega), nm_r (U _ _ c4) ⟨wt_7in f 5 hf (by omega), nm_r (U _ _ c5) ⟨wt_7in f 6 hf (by omega), nm_r (U _ _ c6) hp⟩⟩⟩⟩⟩⟩⟩
/-- the write of a new node, X -/
theorem wx_mk {post : Int32 → SX → Prop} {p w : Nat → Int32} {f q c : Nat} {m d o : Int32} (hT : wt_T x_tree p w) (hf : f < 21) (hq : q < 21) (hc : c < 20) (hp : post m (x_time, x_partCount, x_wrongAt, (nI (c + 1)), x_transactions, x_logStart, x_snapshotStart, x_placesLeft, (upd (wt_nx x_tree f m d (x_transactions + 1) o) (7 * q + 2) (wt_nw w f d (x_transactions + 1) o (6 * q + 2) + 1)), x_treeBefore, x_timeouts, x_deadlines, x_events, x_eventCounts, x_watchSessions, x_watchKinds, x_watchPaths, x_partKinds, x_partPaths, x_partAs, x_partBs, (upd x_changePaths c m), (upd x_changeKinds c 1))) : wX_performCreate_130 post d (nI (7 * q)) m (nI (7 * f)) o x_time x_partCount x_wrongAt (nI c) x_transactions x_logStart x_snapshotStart x_placesLeft x_tree x_treeBefore x_timeouts x_deadlines x_events x_eventCounts x_watchSessions x_watchKinds x_watchPaths x_partKinds x_partPaths x_partAs x_partBs x_changePaths x_changeKinds := by
  unfold wX_performCreate_130
  refine wx_new hf ?_
  have T1 := wt_T_nw (f := f) (m := m) (d := d) (t := x_transactions + 1) (o := o) hT
  have in2 := wt_7in q 2 hq (by omega)
  have c2 := wt_7c q 2 hq (by omega)
  have v2 : wt_nx x_tree f m d (x_transactions + 1) o (nI (7 * q) + 2).toNatClampNeg = wt_nw w f d (x_transactions + 1) o (6 * q + 2) := (congrArg (wt_nx x_tree f m d (x_transactions + 1) o) c2).trans ((T1 q hq).2 2 (by omega))
  refine ⟨in2, in2, nm_r (e' := upd (wt_nx x_tree f m d (x_transactions + 1) o) (7 * q + 2) (wt_nw w f d (x_transactions + 1) o (6 * q + 2) + 1)) ?_ ?_⟩
  · rw [v2]
    exact congrArg (fun i => upd (wt_nx x_tree f m d (x_transactions + 1) o) i (wt_nw w f d (x_transactions + 1) o (6 * q + 2) + 1)) c2
  · exact wx_note hc hp
theorem wy_mk5 {post : Int32 → SY → Prop} {f q c : Nat} {m o : Int32} (hf : f < 21) (hq : q < 21) (hc : c < 21) (hp : post m (y_time, y_last, y_watchCount, y_partCount, y_wrong, (nI (c + 1)), y_log, y_since, y_placesLeft, y_paths, (upd (upd y_values (6 * f + 5) o) (6 * q + 2) (upd y_values (6 * f + 5) o (6 * q + 2) + 1)), y_open, y_timeouts, y_deadlines, y_events, y_eventCounts, y_watchers, y_watchKinds, y_watchPaths, y_parts, (upd y_happened c m), (upd y_how c 1))) : wY_make_215 post (nI q) m o ((6 : Int32) * nI f + 5) y_time y_last y_watchCount y_partCount y_wrong (nI c) y_log y_since y_placesLeft y_paths y_values y_open y_timeouts y_deadlines y_events y_eventCounts y_watchers y_watchKinds y_watchPaths y_parts y_happened y_how := by
  have c5 := wt_6c f 5 hf (by omega)
  have in2 := wt_6in q 2 hq (by omega)
  have c2 := wt_6c q 2 hq (by omega)
  have U : ∀ (x : Nat → Int32) (v : Int32) {a b : Nat}, a = b → upd x a v = upd x b v := fun x v a b h => by rw [h]
  refine ⟨wt_6in f 5 hf (by omega), nm_r (U _ _ c5) ⟨in2, in2, nm_r (e' := upd (upd y_values (6 * f + 5) o) (6 * q + 2) (upd y_values (6 * f + 5) o (6 * q + 2) + 1)) ?_ (wy_note hc hp)⟩⟩
  have v2 : upd y_values (6 * f + 5) o ((6 : Int32) * nI q + 2).toNatClampNeg = upd y_values (6 * f + 5) o (6 * q + 2) := congrArg _ c2
  rw [v2]
  exact U _ _ c2
/-- the write of a new node, Y: f is the first free place -/
theorem wy_mk {post : Int32 → SY → Prop} {f q c fl : Nat} {m d o s t : Int32} (hI : wt_I y_paths y_values) (hf : f < 21) (hfp : y_paths f = -1) (hb : ∀ j, j < f → ¬ y_paths j = -1) (hq : q < 21) (hc : c < 21) (hfl : fl < 4) (ho : o = if nI fl &&& 1 = 0 then -1 else s) (hp : post m (y_time, y_last, y_watchCount, y_partCount, y_wrong, (nI (c + 1)), y_log, y_since, y_placesLeft, (upd y_paths f m), (upd (wt_nw y_values f d t o) (6 * q + 2) (wt_nw y_values f d t o (6 * q + 2) + 1)), y_open, y_timeouts, y_deadlines, y_events, y_eventCounts, y_watchers, y_watchKinds, y_watchPaths, y_parts, (upd y_happened c m), (upd y_how c 1))) : ∀ e i, 1 ≤ i → i + e = f → wY_make_101 post s d (nI fl) t (nI q) m y_time y_last y_watchCount y_partCount y_wrong (nI c) y_log y_since y_placesLeft y_paths y_values y_open y_timeouts y_deadlines y_events y_eventCounts y_watchers y_watchKinds y_watchPaths y_parts y_happened y_how (e + 1) (nI i) := by
  intro e
  induction e with
  | zero =>
    intro i _ hi
    have e : i = f := by omega
    subst e
    have v : vp_in (nI i) 42 := vp_in_nI (by omega) (by omega)
    have ci : (nI i).toNatClampNeg = i := nI_clamp (by omega)
    have lt : y_paths (nI i).toNatClampNeg < 0 := by rw [ci, hfp]; decide
    have U : ∀ (x : Nat → Int32) (v : Int32) {a b : Nat}, a = b → upd x a v = upd x b v := fun x v a b h => by rw [h]
    refine ⟨v, br_t lt ⟨v, nm_r (U _ _ ci) ⟨wt_6in0 i hf, nm_r (U _ _ (wt_6c0 i hf)) ⟨wt_6in i 1 hf (by omega), nm_r (U _ _ (wt_6c i 1 hf (by omega))) ⟨wt_6in i 2 hf (by omega), nm_r (U _ _ (wt_6c i 2 hf (by omega))) ⟨wt_6in i 3 hf (by omega), nm_r (U _ _ (wt_6c i 3 hf (by omega))) ⟨wt_6in i 4 hf (by omega), nm_r (U _ _ (wt_6c i 4 hf (by omega))) ⟨by decide, ?_⟩⟩⟩⟩⟩⟩⟩⟩
    by_cases g : nI fl &&& 1 = 0
    · rw [if_pos g] at ho
      subst ho
      exact br_f ((wt_flag1 fl hfl).mp g) (wy_mk5 hf hq hc hp)
    · rw [if_neg g] at ho
      subst ho
      exact br_t (Decidable.byContradiction (fun z => g ((wt_flag1 fl hfl).mpr z))) (wy_mk5 hf hq hc hp)
  | succ e ih =>
    intro i h1 hi
    have v : vp_in (nI i) 42 := vp_in_nI (by omega) (by omega)
    have ge : ¬ y_paths (nI i).toNatClampNeg < 0 := by
      rw [nI_clamp (by omega)]
      intro z
      exact hb i (by omega) ((wt_I_fr hI (by omega)).mpr (fun y => Int32.not_le.mpr z y))
    exact ⟨v, br_f ge (nm_r (nI_1 i) (ih (i + 1) (by omega) (by omega)))⟩
/-- creating under the parent at q, the path being nI a -/
theorem wt_mk {B c q a fl : Nat} {s d : Int32} (hT : wt_T x_tree y_paths y_values) (hI : wt_I y_paths y_values) (hV : wt_V B y_values) (hC : wt_C c x_changeKinds x_changePaths y_happened y_how) (hc : c < 20) (hq : q < 21) (h1 : 1 ≤ a) (h2 : a ≤ 1030300) (hpq : y_paths q = nI (a / 101)) (hoq : y_values (6 * q + 5) = -1) (hfl : fl < 4) :
    ∃ (r : Int32) (t' p' w' xk' xp' yh' yw' : Nat → Int32) (c' : Nat), (∀ post : Int32 → SX → Prop, post r (x_time, x_partCount, x_wrongAt, (nI c'), n, x_logStart, x_snapshotStart, x_placesLeft, t', x_treeBefore, x_timeouts, x_deadlines, x_events, x_eventCounts, x_watchSessions, x_watchKinds, x_watchPaths, x_partKinds, x_partPaths, x_partAs, x_partBs, xp', xk') → wX_performCreate_88 post s d (nI fl) (nI (7 * q)) (nI a) x_time x_partCount x_wrongAt (nI c) n x_logStart x_snapshotStart x_placesLeft x_tree x_treeBefore x_timeouts x_deadlines x_events x_eventCounts x_watchSessions x_watchKinds x_watchPaths x_partKinds x_partPaths x_partAs x_partBs x_changePaths x_changeKinds) ∧ (∀ post : Int32 → SY → Prop, post r (y_time, n, y_watchCount, y_partCount, y_wrong, (nI c'), y_log, y_since, y_placesLeft, p', w', y_open, y_timeouts, y_deadlines, y_events, y_eventCounts, y_watchers, y_watchKinds, y_watchPaths, y_parts, yh', yw') → wY_make_72 post s d (nI fl) (n + 1) (nI q) (nI a) y_time n y_watchCount y_partCount y_wrong (nI c) y_log y_since y_placesLeft y_paths y_values y_open y_timeouts y_deadlines y_events y_eventCounts y_watchers y_watchKinds y_watchPaths y_parts y_happened y_how) ∧ wt_O B c y_paths y_values 0 r r t' p' w' xk' xp' yh' yw' c' := by
  have hg : ¬ nI a < 0 := nI_pos (by omega)
  by_cases hx : wt_fd y_paths (nI a) < 21
  · refine ⟨-5, _, _, _, _, _, _, _, _, fun post hp => ?_, fun post hp => ?_, wt_O_f hT hI hV hC (by decide)⟩
    · unfold wX_performCreate_88
      exact wx_find_t hT hx (br_f (wt_nn (by omega)) hp)
    · unfold wY_make_72
      exact wy_find_t hx (br_f (nI_pos (by omega)) hp)
  · have nd0 := wt_nd0 hI
    obtain ⟨_, b1, b2, b3⟩ := wt_fs_spec (fun k => decide (y_paths k = -1)) 21 0
    by_cases hf : wt_fs (fun k => decide (y_paths k = -1)) 21 0 < 21
    · have hfp : y_paths (wt_fs (fun k => decide (y_paths k = -1)) 21 0) = -1 := of_decide_eq_true (b2 (by omega))
      have hb : ∀ j, j < wt_fs (fun k => decide (y_paths k = -1)) 21 0 → ¬ y_paths j = -1 := fun j hj z => b3 j (by omega) hj (decide_eq_true z)
      have n20 : ¬ wt_ct (wt_nd y_paths) 21 = 20 := by
        intro z
        have k0 : ¬ wt_fs (fun k => decide (y_paths k = -1)) 21 0 = 0 := fun y => by
          rw [y, hI.1] at hfp
          exact absurd hfp (by decide)
        have := (wt_ct_full nd0).mp z _ (by omega) hf
        have q := of_decide_eq_true this
        rw [hfp] at q
        exact absurd q (by decide)
      have f0 : 1 ≤ wt_fs (fun k => decide (y_paths k = -1)) 21 0 := by
        apply Nat.pos_of_ne_zero
        intro y
        rw [y, hI.1] at hfp
        exact absurd hfp (by decide)
      have hfr : wt_r 7 (wt_fs (fun k => decide (y_paths k = -1)) 21 0) = nI (7 * wt_fs (fun k => decide (y_paths k = -1)) 21 0) := wt_r_t hf
      generalize hF : wt_fs (fun k => decide (y_paths k = -1)) 21 0 = f at hf hfp hb f0 hfr
      obtain ⟨o, ho⟩ : ∃ o : Int32, o = if nI fl &&& 1 = 0 then -1 else s := ⟨_, rfl⟩
      have hle := wt_ct_le (wt_nd y_paths) 21
      have nq : ¬ q = f := fun z => by
        subst z
        rw [hpq] at hfp
        exact wt_nn (by omega) hfp
      refine ⟨nI a, upd (wt_nx x_tree f (nI a) d (n + 1) o) (7 * q + 2) (wt_nw y_values f d (n + 1) o (6 * q + 2) + 1), upd y_paths f (nI a), upd (wt_nw y_values f d (n + 1) o) (6 * q + 2) (wt_nw y_values f d (n + 1) o (6 * q + 2) + 1), upd x_changeKinds c 1, upd x_changePaths c (nI a), upd y_happened c (nI a), upd y_how c 1, c + 1, fun post hp => ?_, fun post hp => ?_, ?_⟩
      · unfold wX_performCreate_88
        refine wx_find_f hT hx (br_t rfl (wx_findFree hT ?_))
        rw [hF, hfr]
        refine br_f (wt_nn (by omega)) ?_
        by_cases g : nI fl &&& 1 = 0
        · rw [if_pos g] at ho
          subst ho
          exact br_t g (wx_mk hT hf hq hc hp)
        · rw [if_neg g] at ho
          subst ho
          exact br_f g (wx_mk hT hf hq hc hp)
      · unfold wY_make_72
        refine wy_find_f hx (br_t (by decide) (wy_many hI (br_f ?_ ⟨f, ?_⟩)))
        · intro z
          exact n20 ((nI_eq (by omega) (by omega)).mp z)
        · have k := wy_mk (post := post) (f := f) (q := q) (c := c) (fl := fl) (m := nI a) (d := d) (o := o) (s := s) (t := n + 1) hI hf hfp hb hq (by omega) hfl ho hp (f - 1) 1 (by omega) (by omega)
          have e : f - 1 + 1 = f := by omega
          rw [e] at k
          exact k
      · refine ⟨wt_T_w (wt_T_nw hT) (by omega) _, ?_, wt_V_i (wt_V_nw hV) hq (Or.inr rfl), wt_C_s hC hc (Or.inl rfl) ⟨a, h2, rfl⟩, fun j hj => pk_un (by omega), fun j hj => ?_, Or.inr ⟨hg, hg, fun _ => rfl, by omega⟩⟩
        · refine wt_I_mk hI hf hfp h1 h2 hq hpq hoq (o := o) (fun j hj => ?_)
          rw [pk_un (by omega)]
          exact wt_nw_o j
        · rw [pk_un (by omega)]
          exact wt_nw_x (by omega)
    · refine ⟨-6, _, _, _, _, _, _, _, _, fun post hp => ?_, fun post hp => ?_, wt_O_f hT hI hV hC (by decide)⟩
      · unfold wX_performCreate_88
        refine wx_find_f hT hx (br_t rfl (wx_findFree hT ?_))
        rw [wt_r_f hf]
        exact br_t rfl hp
      · unfold wY_make_72
        refine wy_find_f hx (br_t (by decide) (wy_many hI ?_))
        have e : wt_ct (wt_nd y_paths) 21 = 20 := (wt_ct_full nd0).mpr (fun k k1 k2 => by
          refine decide_eq_true ((wt_I_ge hI k1 k2).mp ?_)
          refine Decidable.byContradiction (fun z => ?_)
          exact b3 k (by omega) (by omega) (decide_eq_true ((wt_I_fr hI k2).mpr z)))
        rw [e]
        exact br_t rfl hp
end
