/-- sessions: open (1) on both sides with timeout and deadline, or not open -/
def wt_S (B : Nat) (xt xd yo yt yd : Nat → Int32) : Prop := ∀ s, s < 4 → (yo s = 1 ∧ (∃ a, 1 ≤ a ∧ a ≤ 20 ∧ xt s = nI a ∧ yt s = nI a) ∧ (∃ d, d ≤ B + 20 ∧ xd s = nI d ∧ yd s = nI d)) ∨ (yo s = 0 ∧ xt s = 0)
theorem wt_S_up {B C : Nat} {xt xd yo yt yd : Nat → Int32} (h : wt_S B xt xd yo yt yd) (hb : B ≤ C) : wt_S C xt xd yo yt yd := by
  intro s hs
  rcases h s hs with ⟨a, b, d, d1, d2⟩ | c
  · exact Or.inl ⟨a, b, d, by omega, d2⟩
  · exact Or.inr c
theorem wt_S_xt {B : Nat} {xt xd yo yt yd : Nat → Int32} (h : wt_S B xt xd yo yt yd) {s : Nat} (hs : s < 4) : xt s = 0 ↔ yo s = 0 := by
  rcases h s hs with ⟨a, ⟨b, b1, b2, b3, _⟩, _⟩ | c
  · rw [a, b3]
    exact ⟨fun z => absurd z (nI_ne0 (by omega) (by omega)), fun z => absurd z (by decide)⟩
  · exact ⟨fun _ => c.1, fun _ => c.2⟩
theorem wt_S_o {B : Nat} {xt xd yo yt yd : Nat → Int32} (h : wt_S B xt xd yo yt yd) {s : Nat} (hs : s < 4) : yo s = 1 ∨ yo s = 0 := by
  rcases h s hs with c | c
  · exact Or.inl c.1
  · exact Or.inr c.1
/-- events: as many on both sides, 8 at most, none of a session that isn't open; those that wait are the same -/
def wt_E (yo xe xc ye yc : Nat → Int32) : Prop := ∀ s, s < 4 → ∃ n, n ≤ 8 ∧ xc s = nI n ∧ yc s = nI n ∧ (yo s = 0 → n = 0) ∧ ∀ j, j < n → xe (8 * s + j) = ye (8 * s + j)
/-- what the transaction under way changed -/
def wt_C (c : Nat) (xk xp yh yw : Nat → Int32) : Prop := c ≤ 20 ∧ ∀ i, i < c → xk i = yw i ∧ xp i = yh i ∧ (yw i = 1 ∨ yw i = 2 ∨ yw i = 3) ∧ ∃ a, a ≤ 1030300 ∧ yh i = nI a
theorem wt_C_0 (xk xp yh yw : Nat → Int32) : wt_C 0 xk xp yh yw := ⟨by omega, fun i hi => absurd hi (Nat.not_lt_zero _)⟩
theorem wt_C_s {c : Nat} {xk xp yh yw : Nat → Int32} {x k : Int32} (h : wt_C c xk xp yh yw) (hc : c < 20) (hk : k = 1 ∨ k = 2 ∨ k = 3) (hx : ∃ a, a ≤ 1030300 ∧ x = nI a) : wt_C (c + 1) (upd xk c k) (upd xp c x) (upd yh c x) (upd yw c k) := by
  refine ⟨by omega, fun i hi => ?_⟩
  by_cases e : i = c
  · subst e
    rw [pk_us, pk_us, pk_us, pk_us]
    exact ⟨rfl, rfl, hk, hx⟩
  · rw [pk_un e, pk_un e, pk_un e, pk_un e]
    exact h.2 i (by omega)
/-- the parts that wait -/
def wt_P (xc yc : Int32) (xk xp xa xb yp : Nat → Int32) : Prop := ∃ c, c ≤ 6 ∧ xc = nI c ∧ yc = nI c ∧ ∀ i, i < c → xk i = yp (4 * i) ∧ xp i = yp (4 * i + 1) ∧ xa i = yp (4 * i + 2) ∧ xb i = yp (4 * i + 3) ∧ ∃ b, b ≤ 3 ∧ yp (4 * i) = nI b ∧ (b = 0 → ∃ f, f ≤ 3 ∧ yp (4 * i + 3) = nI f)
/-- the numbers of the log and of a snapshot under way -/
def wt_N (xn xl xs xp yn yl ys yp : Int32) : Prop := xn = yn ∧ xn - xl = yl ∧ xp = yp ∧ (∃ a, a ≤ 24 ∧ yp = nI a) ∧ (¬ yp = 0 → xn - xs = ys)
theorem wt_sub1 (a b : Int32) : a + 1 - b = a - b + 1 := by grind
theorem wt_N_s {xn xl xs xp yn yl ys yp : Int32} (h : wt_N xn xl xs xp yn yl ys yp) : wt_N (xn + 1) xl xs xp (yn + 1) (yl + 1) (ys + 1) yp := by
  obtain ⟨a, b, c, d, e⟩ := h
  refine ⟨by rw [a], by rw [← b, wt_sub1], c, d, fun z => by rw [← e z, wt_sub1]⟩
section
variable {x_time x_partCount x_wrongAt x_changeCount x_transactions x_logStart x_snapshotStart x_placesLeft : Int32} {x_tree x_treeBefore x_timeouts x_deadlines x_events x_eventCounts x_watchSessions x_watchKinds x_watchPaths x_partKinds x_partPaths x_partAs x_partBs x_changePaths x_changeKinds : Nat → Int32}
variable {y_time y_last y_watchCount y_partCount y_wrong y_changes y_log y_since y_placesLeft : Int32} {y_paths y_values y_open y_timeouts y_deadlines y_events y_eventCounts y_watchers y_watchKinds y_watchPaths y_parts y_happened y_how : Nat → Int32}
def wt_R (B : Nat) (u : SX) (v : SY) : Prop := match u, v with
  | (x_time, x_partCount, x_wrongAt, x_changeCount, x_transactions, x_logStart, x_snapshotStart, x_placesLeft, x_tree, x_treeBefore, x_timeouts, x_deadlines, x_events, x_eventCounts, x_watchSessions, x_watchKinds, x_watchPaths, x_partKinds, x_partPaths, x_partAs, x_partBs, x_changePaths, x_changeKinds), (y_time, y_last, y_watchCount, y_partCount, y_wrong, y_changes, y_log, y_since, y_placesLeft, y_paths, y_values, y_open, y_timeouts, y_deadlines, y_events, y_eventCounts, y_watchers, y_watchKinds, y_watchPaths, y_parts, y_happened, y_how) => wt_T x_tree y_paths y_values ∧ wt_I y_paths y_values ∧ wt_V B y_values ∧ wt_S B x_timeouts x_deadlines y_open y_timeouts y_deadlines ∧ (∃ t, t ≤ B ∧ x_time = nI t ∧ y_time = nI t) ∧ wt_E y_open x_events x_eventCounts y_events y_eventCounts ∧ wt_WR y_open x_watchSessions x_watchKinds x_watchPaths y_watchers y_watchKinds y_watchPaths y_watchCount ∧ wt_P x_partCount y_partCount x_partKinds x_partPaths x_partAs x_partBs y_parts ∧ x_wrongAt = y_wrong ∧ wt_N x_transactions x_logStart x_snapshotStart x_placesLeft y_last y_log y_since y_placesLeft ∧ x_changeCount = 0
end
def i_Rel (k : Nat) (u : SX) (v : SY) : Prop := wt_R (100 * k) u v
section
variable {x_time x_partCount x_wrongAt x_changeCount x_transactions x_logStart x_snapshotStart x_placesLeft : Int32} {x_tree x_treeBefore x_timeouts x_deadlines x_events x_eventCounts x_watchSessions x_watchKinds x_watchPaths x_partKinds x_partPaths x_partAs x_partBs x_changePaths x_changeKinds : Nat → Int32}
variable {y_time y_last y_watchCount y_partCount y_wrong y_changes y_log y_since y_placesLeft : Int32} {y_paths y_values y_open y_timeouts y_deadlines y_events y_eventCounts y_watchers y_watchKinds y_watchPaths y_parts y_happened y_how : Nat → Int32}
theorem wt_R_up {B C : Nat} {u : SX} {v : SY} (h : wt_R B u v) (hb : B ≤ C) : wt_R C u v := by
  obtain ⟨x_time, x_partCount, x_wrongAt, x_changeCount, x_transactions, x_logStart, x_snapshotStart, x_placesLeft, x_tree, x_treeBefore, x_timeouts, x_deadlines, x_events, x_eventCounts, x_watchSessions, x_watchKinds, x_watchPaths, x_partKinds, x_partPaths, x_partAs, x_partBs, x_changePaths, x_changeKinds⟩ := u
  obtain ⟨y_time, y_last, y_watchCount, y_partCount, y_wrong, y_changes, y_log, y_since, y_placesLeft, y_paths, y_values, y_open, y_timeouts, y_deadlines, y_events, y_eventCounts, y_watchers, y_watchKinds, y_watchPaths, y_parts, y_happened, y_how⟩ := v
  obtain ⟨h1, h2, h3, h4, ⟨t, ht, h5⟩, h6⟩ := h
  exact ⟨h1, h2, wt_V_up h3 hb, wt_S_up h4 hb, ⟨t, Nat.le_trans ht hb, h5⟩, h6⟩
end
theorem i_up {k : Nat} {u : SX} {v : SY} (h : i_Rel k u v) : i_Rel (k + 5) u v := wt_R_up h (by omega)
theorem wt_or : ∀ c, c < 21 → ∀ s, s < 4 → ∀ b, b < 8 → b < 2 ^ s → nI (16 * c + b) ||| ((1 : Int32) <<< (nI s &&& 31)) = nI (16 * c + (b + 2 ^ s)) := by decide +kernel
theorem wt_or0 : ∀ s, s < 4 → ∀ b, b < 8 → b < 2 ^ s → nI b ||| ((1 : Int32) <<< (nI s &&& 31)) = nI (b + 2 ^ s) := by decide +kernel
theorem wt_flag2 : ∀ f, f < 4 → (nI f &&& 2 = 0 ↔ nI f ≤ 1) := by decide +kernel
theorem wt_flag1 : ∀ f, f < 4 → (nI f &&& 1 = 0 ↔ ¬ nI f - nI f / 2 * 2 = 1) := by decide +kernel
theorem wt_k7 : ∀ b, b < 3 → ¬ (((7 : Int32) >>> (nI b &&& 31)) &&& 1) = 0 := by decide +kernel
/-- n places moved from a to b -/
def wt_mv (a b n : Nat) (p : Nat → Int32) : Nat → Int32 := fun j => if b ≤ j ∧ j < b + n then p (a + (j - b)) else p j
theorem wt_mv_0 (a b : Nat) (p : Nat → Int32) : wt_mv a b 0 p = p := by
  funext j
  exact if_neg (by omega)
theorem wt_mv_at {a b n j : Nat} {p : Nat → Int32} (h : j < n) : wt_mv a b n p (b + j) = p (a + j) := by
  have e : a + (b + j - b) = a + j := by omega
  exact (if_pos (by omega)).trans (by rw [e])
theorem wt_mv_out {a b n j : Nat} {p : Nat → Int32} (h : ¬ (b ≤ j ∧ j < b + n)) : wt_mv a b n p j = p j := if_neg h
theorem wt_mv_s {a b n k : Nat} {p : Nat → Int32} (h : a + n ≤ b ∨ b + n ≤ a) (hk : k < n) : upd (wt_mv a b k p) (b + k) (wt_mv a b k p (a + k)) = wt_mv a b (k + 1) p := by
  have e : wt_mv a b k p (a + k) = p (a + k) := wt_mv_out (by omega)
  rw [e]
  funext j
  by_cases z : j = b + k
  · subst z
    rw [pk_us, wt_mv_at (by omega)]
  · rw [pk_un z]
    by_cases y : b ≤ j ∧ j < b + k
    · exact (if_pos y).trans (if_pos (by omega)).symm
    · exact (if_neg y).trans (if_neg (by omega)).symm
/-- n places filled from another array -/
def wt_mx (n : Nat) (p q : Nat → Int32) : Nat → Int32 := fun j => if j < n then p j else q j
theorem wt_mx_0 (p q : Nat → Int32) : wt_mx 0 p q = q := by
  funext j
  exact if_neg (Nat.not_lt_zero _)
theorem wt_mx_at {n j : Nat} {p q : Nat → Int32} (h : j < n) : wt_mx n p q j = p j := if_pos h
theorem wt_mx_s {k : Nat} {p q : Nat → Int32} : upd (wt_mx k p q) k (p k) = wt_mx (k + 1) p q := by
  funext j
  by_cases z : j = k
  · subst z
    rw [pk_us, wt_mx_at (by omega)]
  · rw [pk_un z]
    by_cases y : j < k
    · exact (if_pos y).trans (if_pos (by omega)).symm
    · exact (if_neg y).trans (if_neg (by omega)).symm
/-- n places from f on, each with what stood behind it -/
def wt_sh (f n : Nat) (e : Nat → Int32) : Nat → Int32 := fun j => if f ≤ j ∧ j < f + n then e (j + 1) else e j
theorem wt_sh_0 (f : Nat) (e : Nat → Int32) : wt_sh f 0 e = e := by
  funext j
  exact if_neg (by omega)
theorem wt_sh_in {f n j : Nat} {e : Nat → Int32} (h : f ≤ j ∧ j < f + n) : wt_sh f n e j = e (j + 1) := if_pos h
theorem wt_sh_out {f n j : Nat} {e : Nat → Int32} (h : ¬ (f ≤ j ∧ j < f + n)) : wt_sh f n e j = e j := if_neg h
theorem wt_sh_s {f k : Nat} {e : Nat → Int32} : upd (wt_sh f k e) (f + k) (wt_sh f k e (f + k + 1)) = wt_sh f (k + 1) e := by
  rw [wt_sh_out (by omega)]
  funext j
  by_cases z : j = f + k
  · subst z
    rw [pk_us, wt_sh_in (by omega)]
  · rw [pk_un z]
    by_cases y : f ≤ j ∧ j < f + k
    · rw [wt_sh_in y, wt_sh_in (by omega)]
    · rw [wt_sh_out y, wt_sh_out (by omega)]
/-- the first n places set to x -/
def wt_fl (n : Nat) (x : Int32) (q : Nat → Int32) : Nat → Int32 := wt_mx n (fun _ => x) q
theorem wt_fl_s {k : Nat} {x : Int32} {q : Nat → Int32} : upd (wt_fl k x q) k x = wt_fl (k + 1) x q := wt_mx_s (p := fun _ => x)
theorem wt_fl_0 (x : Int32) (q : Nat → Int32) : wt_fl 0 x q = q := wt_mx_0 _ _
theorem wt_fl_at {n j : Nat} {x : Int32} {q : Nat → Int32} (h : j < n) : wt_fl n x q j = x := if_pos h
/-- X's tree against Y's after writes -/
theorem wt_T_cg {t p w t' p' w' : Nat → Int32} (h : wt_T t p w) (a : ∀ j, j < 147 → t' j = t j) (b : ∀ j, j < 21 → p' j = p j) (c : ∀ j, j < 126 → w' j = w j) : wt_T t' p' w' := by
  intro k hk
  refine ⟨?_, fun j hj => ?_⟩
  · rw [a _ (by omega), b _ hk]; exact (h k hk).1
  · rw [a _ (by omega), c _ (by omega)]; exact (h k hk).2 j hj
theorem wt_I_cg {p w p' w' : Nat → Int32} (h : wt_I p w) (b : ∀ j, j < 21 → p' j = p j) (c : ∀ j, j < 126 → w' j = w j) : wt_I p' w' := by
  obtain ⟨h0, h5, h1, h2⟩ := h
  refine ⟨(b 0 (by omega)).trans h0, (c 5 (by omega)).trans h5, fun k k1 k2 => ?_, fun k k1 k2 k3 => ?_⟩
  · rw [b k k2]; exact h1 k k1 k2
  · rw [b k k2] at k3 ⊢
    obtain ⟨j, hj, x, y⟩ := h2 k k1 k2 k3
    exact ⟨j, hj, (b j hj).trans x, (c _ (by omega)).trans y⟩
theorem wt_V_cg {B : Nat} {w w' : Nat → Int32} (h : wt_V B w) (c : ∀ j, j < 126 → w' j = w j) : wt_V B w' := by
  intro k hk j hj
  rw [c _ (by omega)]
  exact h k hk j hj
theorem wt_E_ev {yo xe xc ye yc : Nat → Int32} {s n : Nat} (h : wt_E yo xe xc ye yc) (hs : s < 4) (hn : n + 1 ≤ 8) (e : yc s = nI (n + 1)) : wt_E yo (wt_sh (8 * s) 7 xe) (upd xc s (nI n)) (wt_sh (8 * s) n ye) (upd yc s (nI n)) := by
  intro i hi
  obtain ⟨m, m1, m2, m3, m4, m5⟩ := h i hi
  by_cases z : i = s
  · subst z
    have em : m = n + 1 := (nI_eq (by omega) (by omega)).mp (m3.symm.trans e)
    subst em
    refine ⟨n, by omega, pk_us, pk_us, fun y => absurd (m4 y) (by omega), fun j hj => ?_⟩
    rw [wt_sh_in (by omega), wt_sh_in (by omega)]
    exact m5 (j + 1) (by omega)
  · refine ⟨m, m1, by rw [pk_un z]; exact m2, by rw [pk_un z]; exact m3, m4, fun j hj => ?_⟩
    rw [wt_sh_out (by omega), wt_sh_out (by omega)]
    exact m5 j hj
theorem wt_E_pu {yo xe xc ye yc : Nat → Int32} {s n : Nat} {x : Int32} (h : wt_E yo xe xc ye yc) (hs : s < 4) (hn : n < 8) (e : yc s = nI n) (ho : yo s = 1) : wt_E yo (upd xe (8 * s + n) x) (upd xc s (nI (n + 1))) (upd ye (8 * s + n) x) (upd yc s (nI (n + 1))) := by
  intro i hi
  obtain ⟨m, m1, m2, m3, m4, m5⟩ := h i hi
  by_cases z : i = s
  · subst z
    have em : m = n := (nI_eq (by omega) (by omega)).mp (m3.symm.trans e)
    subst em
    refine ⟨m + 1, by omega, pk_us, pk_us, fun y => absurd (ho.symm.trans y) (by decide), fun j hj => ?_⟩
    by_cases q : j = m
    · subst q; rw [pk_us, pk_us]
    · rw [pk_un (by omega), pk_un (by omega)]; exact m5 j (by omega)
  · refine ⟨m, m1, by rw [pk_un z]; exact m2, by rw [pk_un z]; exact m3, m4, fun j hj => ?_⟩
    rw [pk_un (by omega), pk_un (by omega)]
    exact m5 j hj
theorem wt_E_cl {yo xe xc ye yc : Nat → Int32} {s : Nat} (h : wt_E yo xe xc ye yc) : wt_E (upd yo s 0) xe (upd xc s 0) ye (upd yc s 0) := by
  intro i hi
  obtain ⟨m, m1, m2, m3, m4, m5⟩ := h i hi
  by_cases z : i = s
  · subst z
    exact ⟨0, by omega, pk_us, pk_us, fun _ => rfl, fun j hj => absurd hj (Nat.not_lt_zero _)⟩
  · exact ⟨m, m1, by rw [pk_un z]; exact m2, by rw [pk_un z]; exact m3, by rw [pk_un z]; exact m4, m5⟩
theorem wt_E_op {yo xe xc ye yc : Nat → Int32} {s : Nat} (h : wt_E yo xe xc ye yc) (hs : s < 4) (h0 : yo s = 0) : wt_E (upd yo s 1) xe xc ye (upd yc s 0) := by
  intro i hi
  obtain ⟨m, m1, m2, m3, m4, m5⟩ := h i hi
  by_cases z : i = s
  · subst z
    have em := m4 h0
    subst em
    exact ⟨0, by omega, m2, pk_us, fun _ => rfl, fun j hj => absurd hj (Nat.not_lt_zero _)⟩
  · exact ⟨m, m1, m2, by rw [pk_un z]; exact m3, by rw [pk_un z]; exact m4, m5⟩
theorem wt_E_0 {yo xe xc ye yc : Nat → Int32} (a : ∀ s, s < 4 → xc s = 0) (b : ∀ s, s < 4 → yc s = 0) : wt_E yo xe xc ye yc := fun s hs => ⟨0, by omega, a s hs, b s hs, fun _ => rfl, fun j hj => absurd hj (Nat.not_lt_zero _)⟩
theorem wt_S_cl {B s : Nat} {xt xd yo yt yd : Nat → Int32} (h : wt_S B xt xd yo yt yd) : wt_S B (upd xt s 0) xd (upd yo s 0) yt yd := by
  intro i hi
  by_cases z : i = s
  · subst z; exact Or.inr ⟨pk_us, pk_us⟩
  · rw [pk_un z, pk_un z]; exact h i hi
theorem wt_S_op {B s a t : Nat} {xt xd yo yt yd : Nat → Int32} (h : wt_S B xt xd yo yt yd) (a1 : 1 ≤ a) (a2 : a ≤ 20) (ht : t ≤ B) : wt_S B (upd xt s (nI a)) (upd xd s (nI (t + a))) (upd yo s 1) (upd yt s (nI a)) (upd yd s (nI (t + a))) := by
  intro i hi
  by_cases z : i = s
  · subst z
    exact Or.inl ⟨pk_us, ⟨a, a1, a2, pk_us, pk_us⟩, ⟨t + a, by omega, pk_us, pk_us⟩⟩
  · rw [pk_un z, pk_un z, pk_un z, pk_un z, pk_un z]; exact h i hi
theorem wt_S_tc {B s t a : Nat} {xt xd yo yt yd : Nat → Int32} (h : wt_S B xt xd yo yt yd) (ht : t ≤ B) (a2 : a ≤ 20) : wt_S B xt (upd xd s (nI (t + a))) yo yt (upd yd s (nI (t + a))) := by
  intro i hi
  by_cases z : i = s
  · subst z
    rcases h i hi with ⟨o, b, _⟩ | c
    · exact Or.inl ⟨o, b, ⟨t + a, by omega, pk_us, pk_us⟩⟩
    · exact Or.inr c
  · rw [pk_un z, pk_un z]; exact h i hi
theorem wt_S_cr {B t : Nat} {xt xd yo yt yd xd' yd' : Nat → Int32} (h : wt_S B xt xd yo yt yd) (ht : t ≤ B) (a : ∀ s, s < 4 → xd' s = nI t + xt s) (b : ∀ s, s < 4 → yd' s = nI t + yt s) : wt_S B xt xd' yo yt yd' := by
  intro i hi
  rcases h i hi with ⟨o, ⟨c, c1, c2, c3, c4⟩, _⟩ | c
  · exact Or.inl ⟨o, ⟨c, c1, c2, c3, c4⟩, ⟨t + c, by omega, by rw [a i hi, c3, nI_add], by rw [b i hi, c4, nI_add]⟩⟩
  · exact Or.inr c
theorem wt_WR_op {o xs xk xp ys yk yp : Nat → Int32} {wc : Int32} {s : Nat} (h : wt_WR o xs xk xp ys yk yp wc) : wt_WR (upd o s 1) xs xk xp ys yk yp wc := by
  obtain ⟨c, h1, h2, h3, h4⟩ := h
  refine ⟨c, h1, h2, h3, fun j hj => ?_⟩
  obtain ⟨⟨t, t1, t2, t3⟩, q⟩ := h4 j hj
  refine ⟨⟨t, t1, t2, ?_⟩, q⟩
  by_cases z : t = s
  · subst z; exact pk_us
  · rw [pk_un z]; exact t3
theorem wt_WR_cl {o xs xk xp ys yk yp : Nat → Int32} {c s : Nat} (h : wt_WR o xs xk xp ys yk yp (nI c)) (hc : c ≤ 16) (hn : ∀ j, j < c → ¬ ys j = nI s) : wt_WR (upd o s 0) xs xk xp ys yk yp (nI c) := by
  obtain ⟨d, h1, h2, h3, h4⟩ := h
  have e : c = d := (nI_eq (by omega) (by omega)).mp h2
  subst e
  refine ⟨c, h1, rfl, h3, fun j hj => ?_⟩
  obtain ⟨⟨t, t1, t2, t3⟩, q⟩ := h4 j hj
  refine ⟨⟨t, t1, t2, ?_⟩, q⟩
  by_cases z : t = s
  · subst z; exact absurd t2 (hn j hj)
  · rw [pk_un z]; exact t3
theorem wt_WR_0 {o xs xk xp ys yk yp : Nat → Int32} (h : ∀ j, j < 16 → xs j = -1) : wt_WR o xs xk xp ys yk yp 0 := by
  refine ⟨0, by omega, rfl, fun P => ?_, fun j hj => absurd hj (Nat.not_lt_zero _)⟩
  refine wt_W_0.mpr (fun j hj => ?_)
  rw [h j hj]
  simp
theorem wt_WR_ad {o xs xk xp ys yk yp : Nat → Int32} {c f s b : Nat} {x : Int32} (hc : c < 16) (h3 : ∀ P, wt_X xs xk xp P = wt_W ys yk yp c P) (h4 : ∀ j, j < c → (∃ s, s < 4 ∧ ys j = nI s ∧ o s = 1) ∧ ∃ b, b ≤ 2 ∧ yk j = nI b) (hf : f < 16) (h : xs f = -1) (hs : s < 4) (ho : o s = 1) (hb : b ≤ 2) : wt_WR o (upd xs f (nI s)) (upd xk f (nI b)) (upd xp f x) (upd ys c (nI s)) (upd yk c (nI b)) (upd yp c x) (nI (c + 1)) := by
  refine ⟨c + 1, by omega, rfl, fun P => ?_, fun j hj => ?_⟩
  · rw [wt_X_add hf h (wt_nn (by omega)), wt_W_add, h3]
  · by_cases z : j = c
    · subst z
      rw [pk_us, pk_us]
      exact ⟨⟨s, hs, rfl, ho⟩, b, hb, rfl⟩
    · rw [pk_un z, pk_un z]
      exact h4 j (by omega)
