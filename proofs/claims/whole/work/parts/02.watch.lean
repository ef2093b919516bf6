theorem wt_W_cg {s k p s' k' p' : Nat → Int32} {n : Nat} {P Q : Int32 → Int32 → Int32 → Bool} (h : ∀ j, j < n → P (s j) (k j) (p j) = Q (s' j) (k' j) (p' j)) : wt_W s k p n P = wt_W s' k' p' n Q := wt_ct_cg n h
theorem wt_W_all (s k p : Nat → Int32) (n : Nat) : wt_W s k p n (fun _ _ _ => true) = n := (wt_ct_all n).mpr (fun _ _ => rfl)
theorem wt_W_cut (s k p : Nat → Int32) (n : Nat) (P Q : Int32 → Int32 → Int32 → Bool) : wt_W s k p n P = wt_W s k p n (fun a b c => P a b c && Q a b c) + wt_W s k p n (fun a b c => P a b c && !Q a b c) := wt_ct_cut _ _ n
theorem wt_W_0 {s k p : Nat → Int32} {n : Nat} {P : Int32 → Int32 → Int32 → Bool} : wt_W s k p n P = 0 ↔ ∀ j, j < n → ¬ P (s j) (k j) (p j) = true := wt_ct_0 n
theorem wt_W_add {s k p : Nat → Int32} {n : Nat} {a b c : Int32} (P : Int32 → Int32 → Int32 → Bool) : wt_W (upd s n a) (upd k n b) (upd p n c) (n + 1) P = wt_W s k p n P + (if P a b c = true then 1 else 0) := by
  have e : wt_W (upd s n a) (upd k n b) (upd p n c) n P = wt_W s k p n P := wt_W_cg (fun j hj => by
    rw [pk_un (by omega), pk_un (by omega), pk_un (by omega)])
  rw [← e]
  show wt_ct _ n + (if P (upd s n a n) (upd k n b n) (upd p n c n) = true then 1 else 0) = _
  rw [pk_us, pk_us, pk_us]
  rfl
theorem wt_X_add {s k p : Nat → Int32} {f : Nat} {a b c : Int32} (hf : f < 16) (h : s f = -1) (ha : ¬ a = -1) (P : Int32 → Int32 → Int32 → Bool) : wt_X (upd s f a) (upd k f b) (upd p f c) P = wt_X s k p P + (if P a b c = true then 1 else 0) := by
  have q := wt_ct_one (P := fun i => !decide (s i = -1) && P (s i) (k i) (p i)) (Q := fun i => !decide (upd s f a i = -1) && P (upd s f a i) (upd k f b i) (upd p f c i)) (f := f) (by simp [h]) 16 hf (fun j _ hn => by
    show (!decide (upd s f a j = -1) && P (upd s f a j) (upd k f b j) (upd p f c j)) = (!decide (s j = -1) && P (s j) (k j) (p j))
    rw [pk_un hn, pk_un hn, pk_un hn])
  have e : (!decide (upd s f a f = -1) && P (upd s f a f) (upd k f b f) (upd p f c f)) = P a b c := by
    rw [pk_us, pk_us, pk_us]; simp [ha]
  show wt_ct _ 16 = wt_ct _ 16 + _
  rw [q]
  dsimp only
  rw [e]
/-- X's watches, those that have G among the first i let go -/
def wt_dr (G : Int32 → Int32 → Int32 → Bool) (s k p : Nat → Int32) (i : Nat) : Nat → Int32 := fun j => if j < i ∧ G (s j) (k j) (p j) = true then -1 else s j
theorem wt_dr_0 (G : Int32 → Int32 → Int32 → Bool) (s k p : Nat → Int32) : wt_dr G s k p 0 = s := by
  funext j
  exact if_neg (fun z => absurd z.1 (Nat.not_lt_zero _))
theorem wt_dr_at (G : Int32 → Int32 → Int32 → Bool) (s k p : Nat → Int32) (i : Nat) : wt_dr G s k p i i = s i := if_neg (fun z => absurd z.1 (Nat.lt_irrefl _))
theorem wt_dr_t {G : Int32 → Int32 → Int32 → Bool} {s k p : Nat → Int32} {i : Nat} (h : G (s i) (k i) (p i) = true) : upd (wt_dr G s k p i) i (-1) = wt_dr G s k p (i + 1) := by
  funext j
  by_cases z : j = i
  · subst z
    rw [pk_us]
    exact (if_pos ⟨by omega, h⟩).symm
  · rw [pk_un z]
    have e : (j < i ∧ G (s j) (k j) (p j) = true) ↔ (j < i + 1 ∧ G (s j) (k j) (p j) = true) := ⟨fun y => ⟨by omega, y.2⟩, fun y => ⟨by omega, y.2⟩⟩
    by_cases y : j < i ∧ G (s j) (k j) (p j) = true
    · exact (if_pos y).trans (if_pos (e.mp y)).symm
    · exact (if_neg y).trans (if_neg (fun x => y (e.mpr x))).symm
theorem wt_dr_f {G : Int32 → Int32 → Int32 → Bool} {s k p : Nat → Int32} {i : Nat} (h : ¬ G (s i) (k i) (p i) = true) : wt_dr G s k p i = wt_dr G s k p (i + 1) := by
  funext j
  have e : (j < i ∧ G (s j) (k j) (p j) = true) ↔ (j < i + 1 ∧ G (s j) (k j) (p j) = true) := ⟨fun y => ⟨by omega, y.2⟩, fun y => ⟨by
    by_cases z : j = i
    · subst z; exact absurd y.2 h
    · omega, y.2⟩⟩
  by_cases y : j < i ∧ G (s j) (k j) (p j) = true
  · exact (if_pos y).trans (if_pos (e.mp y)).symm
  · exact (if_neg y).trans (if_neg (fun x => y (e.mpr x))).symm
theorem wt_X_dr {G : Int32 → Int32 → Int32 → Bool} {s k p : Nat → Int32} (P : Int32 → Int32 → Int32 → Bool) : wt_X (wt_dr G s k p 16) k p P = wt_X s k p (fun a b c => P a b c && !G a b c) := by
  refine wt_ct_cg 16 (fun j hj => ?_)
  show (!decide (wt_dr G s k p 16 j = -1) && P (wt_dr G s k p 16 j) (k j) (p j)) = (!decide (s j = -1) && (P (s j) (k j) (p j) && !G (s j) (k j) (p j)))
  by_cases y : G (s j) (k j) (p j) = true
  · have e : wt_dr G s k p 16 j = -1 := if_pos ⟨hj, y⟩
    rw [e, y]; simp
  · have e : wt_dr G s k p 16 j = s j := if_neg (fun x => y x.2)
    rw [e]; simp [y]
/-- Y's watches, packed: how many stay of the first k, and the three arrays then -/
def wt_cp (G : Int32 → Int32 → Int32 → Bool) (a b c : Nat → Int32) : Nat → Nat × (Nat → Int32) × (Nat → Int32) × (Nat → Int32)
  | 0 => (0, a, b, c)
  | k + 1 => if G ((wt_cp G a b c k).2.1 k) ((wt_cp G a b c k).2.2.1 k) ((wt_cp G a b c k).2.2.2 k) = true then wt_cp G a b c k else ((wt_cp G a b c k).1 + 1, upd (wt_cp G a b c k).2.1 (wt_cp G a b c k).1 ((wt_cp G a b c k).2.1 k), upd (wt_cp G a b c k).2.2.1 (wt_cp G a b c k).1 ((wt_cp G a b c k).2.2.1 k), upd (wt_cp G a b c k).2.2.2 (wt_cp G a b c k).1 ((wt_cp G a b c k).2.2.2 k))
theorem wt_cp_t {G : Int32 → Int32 → Int32 → Bool} {a b c : Nat → Int32} {k : Nat} (h : G ((wt_cp G a b c k).2.1 k) ((wt_cp G a b c k).2.2.1 k) ((wt_cp G a b c k).2.2.2 k) = true) : wt_cp G a b c (k + 1) = wt_cp G a b c k := if_pos h
theorem wt_cp_f {G : Int32 → Int32 → Int32 → Bool} {a b c : Nat → Int32} {k : Nat} (h : ¬ G ((wt_cp G a b c k).2.1 k) ((wt_cp G a b c k).2.2.1 k) ((wt_cp G a b c k).2.2.2 k) = true) : wt_cp G a b c (k + 1) = ((wt_cp G a b c k).1 + 1, upd (wt_cp G a b c k).2.1 (wt_cp G a b c k).1 ((wt_cp G a b c k).2.1 k), upd (wt_cp G a b c k).2.2.1 (wt_cp G a b c k).1 ((wt_cp G a b c k).2.2.1 k), upd (wt_cp G a b c k).2.2.2 (wt_cp G a b c k).1 ((wt_cp G a b c k).2.2.2 k)) := if_neg h
theorem wt_cp_spec (G : Int32 → Int32 → Int32 → Bool) (a b c : Nat → Int32) : ∀ k, (wt_cp G a b c k).1 ≤ k ∧ (∀ j, k ≤ j → (wt_cp G a b c k).2.1 j = a j ∧ (wt_cp G a b c k).2.2.1 j = b j ∧ (wt_cp G a b c k).2.2.2 j = c j) ∧ (∀ P, wt_W (wt_cp G a b c k).2.1 (wt_cp G a b c k).2.2.1 (wt_cp G a b c k).2.2.2 (wt_cp G a b c k).1 P = wt_W a b c k (fun x y z => P x y z && !G x y z)) := by
  intro k
  induction k with
  | zero => exact ⟨Nat.le_refl _, fun j _ => ⟨rfl, rfl, rfl⟩, fun P => rfl⟩
  | succ k ih =>
    obtain ⟨h1, h2, h3⟩ := ih
    obtain ⟨ea, eb, ec⟩ := h2 k (Nat.le_refl _)
    have ew : ∀ P : Int32 → Int32 → Int32 → Bool, wt_W a b c (k + 1) P = wt_W a b c k P + (if P (a k) (b k) (c k) = true then 1 else 0) := fun P => rfl
    by_cases g : G ((wt_cp G a b c k).2.1 k) ((wt_cp G a b c k).2.2.1 k) ((wt_cp G a b c k).2.2.2 k) = true
    · rw [wt_cp_t g]
      rw [ea, eb, ec] at g
      refine ⟨by omega, fun j hj => h2 j (by omega), fun P => ?_⟩
      rw [h3, ew]
      simp [g]
    · rw [wt_cp_f g]
      rw [ea, eb, ec] at g ⊢
      dsimp only
      refine ⟨by omega, fun j hj => ?_, fun P => ?_⟩
      · rw [pk_un (by omega), pk_un (by omega), pk_un (by omega)]
        exact h2 j (by omega)
      · rw [wt_W_add, h3, ew]
        simp [g]
theorem wt_and {a b : Bool} (h : (a && b) = true) : a = true ∧ b = true := by
  revert h
  cases a <;> cases b <;> decide
noncomputable def wt_dc (P : Prop) : Bool := @decide P (Classical.propDecidable P)
theorem wt_dc_t {P : Prop} : wt_dc P = true ↔ P := @decide_eq_true_iff P (Classical.propDecidable P)
/-- a property that every place of Y's has stays -/
theorem wt_cp_all {H : Int32 → Int32 → Int32 → Bool} {a b c : Nat → Int32} {k : Nat} (Q : Int32 → Int32 → Int32 → Prop) (h : ∀ j, j < k → Q (a j) (b j) (c j)) : ∀ j, j < (wt_cp H a b c k).1 → Q ((wt_cp H a b c k).2.1 j) ((wt_cp H a b c k).2.2.1 j) ((wt_cp H a b c k).2.2.2 j) := by
  obtain ⟨_, _, h3⟩ := wt_cp_spec H a b c k
  have q := h3 (fun x y z => wt_dc (¬ Q x y z))
  have z : wt_W a b c k (fun x y z => wt_dc (¬ Q x y z) && !H x y z) = 0 := wt_W_0.mpr (fun i hi y => by
    exact wt_dc_t.mp (wt_and y).1 (h i hi))
  rw [z] at q
  intro j hj
  have r := wt_W_0.mp q j hj
  exact Classical.byContradiction (fun y => r (wt_dc_t.mpr y))
/-- the relation of the watches: as many of each on both sides; Y's have an open session and a kind -/
def wt_WR (o xs xk xp ys yk yp : Nat → Int32) (wc : Int32) : Prop := ∃ c, c ≤ 16 ∧ wc = nI c ∧ (∀ P, wt_X xs xk xp P = wt_W ys yk yp c P) ∧ (∀ j, j < c → (∃ s, s < 4 ∧ ys j = nI s ∧ o s = 1) ∧ ∃ b, b ≤ 2 ∧ yk j = nI b)
/-- what stays when the watches with G (X) or H (Y) go -/
theorem wt_WR_dr {o xs xk xp ys yk yp : Nat → Int32} {c : Nat} {G H : Int32 → Int32 → Int32 → Bool} (hc : c ≤ 16) (h : ∀ P, wt_X xs xk xp P = wt_W ys yk yp c P) (hg : ∀ j, j < c → (∃ s, s < 4 ∧ ys j = nI s ∧ o s = 1) ∧ ∃ b, b ≤ 2 ∧ yk j = nI b) (e : ∀ j, j < c → G (ys j) (yk j) (yp j) = H (ys j) (yk j) (yp j)) :
    wt_WR o (wt_dr G xs xk xp 16) xk xp (wt_cp H ys yk yp c).2.1 (wt_cp H ys yk yp c).2.2.1 (wt_cp H ys yk yp c).2.2.2 (nI (wt_cp H ys yk yp c).1) ∧ (wt_X xs xk xp G = 0 ↔ (wt_cp H ys yk yp c).1 = c) ∧ (wt_cp H ys yk yp c).1 ≤ c ∧ (∀ j, j < (wt_cp H ys yk yp c).1 → ¬ H ((wt_cp H ys yk yp c).2.1 j) ((wt_cp H ys yk yp c).2.2.1 j) ((wt_cp H ys yk yp c).2.2.2 j) = true) := by
  obtain ⟨h1, _, h3⟩ := wt_cp_spec H ys yk yp c
  refine ⟨⟨_, by omega, rfl, fun P => ?_, fun j hj => ?_⟩, ?_, h1, fun j hj => ?_⟩
  · rw [wt_X_dr, h, h3]
    exact wt_W_cg (fun j hj => by rw [e j hj])
  · exact wt_cp_all (fun x y _ => (∃ s, s < 4 ∧ x = nI s ∧ o s = 1) ∧ ∃ b, b ≤ 2 ∧ y = nI b) hg j hj
  · rw [h]
    have a1 := wt_W_cut ys yk yp c (fun _ _ _ => true) H
    have a2 := wt_W_all ys yk yp c
    have a3 := h3 (fun _ _ _ => true)
    rw [wt_W_all] at a3
    have a4 : wt_W ys yk yp c G = wt_W ys yk yp c (fun x y z => true && H x y z) := wt_W_cg (fun j hj => by rw [e j hj]; rfl)
    omega
  · have q := h3 H
    have z : wt_W ys yk yp c (fun x y z => H x y z && !H x y z) = 0 := wt_W_0.mpr (fun i hi y => by
      have t := wt_and y
      have t2 := t.2
      rw [t.1] at t2
      exact absurd t2 (by decide))
    rw [z] at q
    exact wt_W_0.mp q j hj
