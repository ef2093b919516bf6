section
theorem pk_us {f : Nat → Int32} {k : Nat} {x : Int32} : upd f k x k = x := if_pos rfl
theorem pk_un {f : Nat → Int32} {k j : Nat} {x : Int32} (h : j ≠ k) : upd f k x j = f j := if_neg h
theorem pk_sub {a b : Nat} (h : b ≤ a) : nI a - nI b = nI (a - b) := by
  obtain ⟨c, rfl⟩ : ∃ c, a = c + b := ⟨a - b, by omega⟩
  rw [← nI_add, Int32.add_sub_cancel, Nat.add_sub_cancel]
theorem pk_m1 (n : Nat) : nI (n + 1) + (-1) = nI n := by
  rw [← nI_1, Int32.add_assoc, show (1 : Int32) + (-1) = 0 from rfl, Int32.add_zero]
theorem pk_mul (a b : Nat) : nI a * nI b = nI (a * b) := (Int32.ofNat_mul a b).symm
theorem pk_div {a d : Nat} (ha : a < 2 ^ 31) (h0 : 0 < d) (hd : d < 2 ^ 31) : nI a / nI d = nI (a / d) := by
  apply Int32.toInt_inj.mp
  rw [lg_idiv_nonneg (by rw [nI_toInt ha]; omega) (by rw [nI_toInt hd]; omega), nI_toInt ha, nI_toInt hd, nI_toInt (Nat.lt_of_le_of_lt (Nat.div_le_self a d) ha)]
  first | rfl | exact (Int.natCast_ediv _ _).symm
theorem pk_rem {a d : Nat} (ha : a < 2 ^ 31) (h0 : 0 < d) (hd : d < 2 ^ 31) : nI a - nI a / nI d * nI d = nI (a % d) := by
  rw [pk_div ha h0 hd, pk_mul, pk_sub (Nat.div_mul_le_self a d)]
  exact congrArg nI (by have := Nat.div_add_mod' a d; omega)
theorem pk_sub_toInt {a b : Nat} (ha : a < 2 ^ 30) (hb : b < 2 ^ 30) : (nI a - nI b).toInt = (a : Int) - b := by
  rw [Int32.toInt_sub, nI_toInt (by omega), nI_toInt (by omega)]
  exact Int.bmod_eq_of_le (by omega) (by omega)
theorem pk_sneg {a b : Nat} (hb : b < 2 ^ 30) (h : a < b) : nI a - nI b < 0 := by
  rw [Int32.lt_iff_toInt_lt, pk_sub_toInt (by omega) hb, show (0 : Int32).toInt = 0 from by decide]
  omega
theorem pk_ix (x : Int32) {n : Nat} (hn : n < 2 ^ 31) : x < 0 ∨ nI n ≤ x ∨ ∃ j : Nat, j < n ∧ x = nI j := by
  by_cases h : x < 0
  · exact Or.inl h
  · obtain ⟨j, hj, rfl⟩ := nI_of h
    by_cases h2 : j < n
    · exact Or.inr (Or.inr ⟨j, h2, rfl⟩)
    · exact Or.inr (Or.inl (nI_le (by omega) hj))
theorem pk_le {x y : Int32} {A B : Prop} (a b : Nat) (f : a ≤ b → A) (g : b < a → B) (hx : x = nI a := by rfl) (hy : y = nI b := by rfl) (ha : a < 2 ^ 31 := by omega) (hb : b < 2 ^ 31 := by omega) : (x ≤ y → A) ∧ (¬ x ≤ y → B) := by
  subst hx hy
  rw [nI_leI ha hb]
  exact ⟨f, fun z => g (by omega)⟩
theorem pk_lt {x y : Int32} {A B : Prop} (a b : Nat) (f : a < b → A) (g : b ≤ a → B) (hx : x = nI a := by rfl) (hy : y = nI b := by rfl) (ha : a < 2 ^ 31 := by omega) (hb : b < 2 ^ 31 := by omega) : (x < y → A) ∧ (¬ x < y → B) := by
  subst hx hy
  rw [nI_ltI ha hb]
  exact ⟨f, fun z => g (by omega)⟩
theorem pk_eq {x y : Int32} {A B : Prop} (a b : Nat) (f : a = b → A) (g : a ≠ b → B) (hx : x = nI a := by rfl) (hy : y = nI b := by rfl) (ha : a < 2 ^ 31 := by omega) (hb : b < 2 ^ 31 := by omega) : (x = y → A) ∧ (¬ x = y → B) := by
  subst hx hy
  rw [nI_eq ha hb]
  exact ⟨f, g⟩
theorem pk_in {x : Int32} (n N : Nat) (h : n < N) (hx : x = nI n := by rfl) (hN : N < 2 ^ 31 := by omega) : vp_in x N := by
  subst hx
  exact vp_in_nI h hN
theorem pk_cl {x : Int32} (n : Nat) (hx : x = nI n := by rfl) (h : n < 2 ^ 31 := by omega) : x.toNatClampNeg = n := by
  subst hx
  exact nI_clamp h
theorem pk_tn {n : Nat} (h : n < 2 ^ 32) : (nI n).toBitVec.toNat = n := Nat.mod_eq_of_lt h
theorem pk_shl (a s : Int32) (k : Nat) (hs : (s.toBitVec.smod 32).toNat = k) : (a <<< s).toBitVec.toNat = a.toBitVec.toNat * 2 ^ k % 2 ^ 32 := by
  show (a.toBitVec <<< (s.toBitVec.smod 32).toNat).toNat = _
  rw [hs, BitVec.toNat_shiftLeft, Nat.shiftLeft_eq]
theorem pk_shlN {n : Nat} (s : Int32) (k : Nat) (hs : (s.toBitVec.smod 32).toNat = k) (h : n * 2 ^ k < 2 ^ 32) : nI n <<< s = nI (n * 2 ^ k) := by
  apply Int32.toBitVec_inj.mp
  apply BitVec.eq_of_toNat_eq
  have hn : n < 2 ^ 32 := Nat.lt_of_le_of_lt (Nat.le_mul_of_pos_right n (Nat.two_pow_pos k)) h
  rw [pk_shl _ _ k hs, pk_tn hn, pk_tn h, Nat.mod_eq_of_lt h]
/-- The first j from i on, within d steps, at which P holds; i + d if there is none -/
def wt_fs (P : Nat → Bool) : Nat → Nat → Nat
  | 0, i => i
  | d + 1, i => if P i = true then i else wt_fs P d (i + 1)
theorem wt_fs_t {P : Nat → Bool} {d i : Nat} (h : P i = true) : wt_fs P (d + 1) i = i := by
  simp [wt_fs, h]
theorem wt_fs_f {P : Nat → Bool} {d i : Nat} (h : ¬ P i = true) : wt_fs P (d + 1) i = wt_fs P d (i + 1) := by
  simp [wt_fs, h]
theorem wt_fs_spec (P : Nat → Bool) : ∀ d i, i ≤ wt_fs P d i ∧ wt_fs P d i ≤ i + d ∧ (wt_fs P d i < i + d → P (wt_fs P d i) = true) ∧ (∀ j, i ≤ j → j < wt_fs P d i → ¬ P j = true) := by
  intro d
  induction d with
  | zero =>
    intro i
    refine ⟨Nat.le_refl _, Nat.le_refl _, fun h => absurd h (Nat.lt_irrefl _), fun j a b => ?_⟩
    exact absurd (Nat.lt_of_le_of_lt a b) (Nat.lt_irrefl _)
  | succ d ih =>
    intro i
    by_cases h : P i = true
    · rw [wt_fs_t h]
      exact ⟨Nat.le_refl _, by omega, fun _ => h, fun j a b => by omega⟩
    · rw [wt_fs_f h]
      obtain ⟨a, b, c, e⟩ := ih (i + 1)
      refine ⟨by omega, by omega, fun q => c (by omega), fun j p q => ?_⟩
      by_cases z : j = i
      · subst z; exact h
      · exact e j (by omega) q
/-- a search over another property that agrees on the places looked at -/
theorem wt_fs_cg {P Q : Nat → Bool} : ∀ d i, (∀ j, i ≤ j → j < i + d → P j = Q j) → wt_fs P d i = wt_fs Q d i := by
  intro d
  induction d with
  | zero => intro i _; rfl
  | succ d ih =>
    intro i h
    have e : P i = Q i := h i (Nat.le_refl _) (by omega)
    have r := ih (i + 1) (fun j a b => h j (by omega) (by omega))
    by_cases z : P i = true
    · rw [wt_fs_t z, wt_fs_t (e ▸ z)]
    · rw [wt_fs_f z, wt_fs_f (e ▸ z), r]
/-- how many j below n have P -/
def wt_ct (P : Nat → Bool) : Nat → Nat
  | 0 => 0
  | n + 1 => wt_ct P n + (if P n = true then 1 else 0)
theorem wt_ct_t {P : Nat → Bool} {n : Nat} (h : P n = true) : wt_ct P (n + 1) = wt_ct P n + 1 := by
  simp [wt_ct, h]
theorem wt_ct_f {P : Nat → Bool} {n : Nat} (h : ¬ P n = true) : wt_ct P (n + 1) = wt_ct P n := by
  simp [wt_ct, h]
theorem wt_ct_le (P : Nat → Bool) : ∀ n, wt_ct P n ≤ n := by
  intro n
  induction n with
  | zero => exact Nat.le_refl _
  | succ n ih =>
    by_cases h : P n = true
    · rw [wt_ct_t h]; omega
    · rw [wt_ct_f h]; omega
theorem wt_ct_cg {P Q : Nat → Bool} : ∀ n, (∀ j, j < n → P j = Q j) → wt_ct P n = wt_ct Q n := by
  intro n
  induction n with
  | zero => intro _; rfl
  | succ n ih =>
    intro h
    have r := ih (fun j a => h j (by omega))
    have e : P n = Q n := h n (by omega)
    by_cases z : P n = true
    · rw [wt_ct_t z, wt_ct_t (e ▸ z), r]
    · rw [wt_ct_f z, wt_ct_f (e ▸ z), r]
theorem wt_ct_0 {P : Nat → Bool} : ∀ n, wt_ct P n = 0 ↔ ∀ j, j < n → ¬ P j = true := by
  intro n
  induction n with
  | zero => exact ⟨fun _ j h => absurd h (Nat.not_lt_zero _), fun _ => rfl⟩
  | succ n ih =>
    by_cases h : P n = true
    · rw [wt_ct_t h]
      exact ⟨fun z => by omega, fun z => absurd h (z n (by omega))⟩
    · rw [wt_ct_f h, ih]
      refine ⟨fun z j hj => ?_, fun z j hj => z j (by omega)⟩
      by_cases e : j = n
      · subst e; exact h
      · exact z j (by omega)
theorem wt_ct_all {P : Nat → Bool} : ∀ n, wt_ct P n = n ↔ ∀ j, j < n → P j = true := by
  intro n
  induction n with
  | zero => exact ⟨fun _ j h => absurd h (Nat.not_lt_zero _), fun _ => rfl⟩
  | succ n ih =>
    by_cases h : P n = true
    · rw [wt_ct_t h]
      refine ⟨fun z j hj => ?_, fun z => ?_⟩
      · by_cases e : j = n
        · subst e; exact h
        · exact ih.mp (by omega) j (by omega)
      · have := ih.mpr (fun j hj => z j (by omega)); omega
    · rw [wt_ct_f h]
      have b := wt_ct_le P n
      exact ⟨fun z => by omega, fun z => absurd (z n (by omega)) h⟩
theorem wt_ct_cut (P Q : Nat → Bool) : ∀ n, wt_ct P n = wt_ct (fun j => P j && Q j) n + wt_ct (fun j => P j && !Q j) n := by
  intro n
  induction n with
  | zero => rfl
  | succ n ih =>
    simp only [wt_ct]
    rw [ih]
    by_cases a : P n = true <;> by_cases b : Q n = true <;> simp [a, b] <;> omega
/-- one place f below n that had not P and may have Q; all others alike -/
theorem wt_ct_one {P Q : Nat → Bool} {f : Nat} (hf : ¬ P f = true) : ∀ n, f < n → (∀ j, j < n → j ≠ f → Q j = P j) → wt_ct Q n = wt_ct P n + (if Q f = true then 1 else 0) := by
  intro n
  induction n with
  | zero => intro h; exact absurd h (Nat.not_lt_zero _)
  | succ n ih =>
    intro h e
    by_cases z : f = n
    · subst z
      have r : wt_ct Q f = wt_ct P f := wt_ct_cg f (fun j hj => e j (by omega) (by omega))
      rw [wt_ct_f hf, ← r]
      rfl
    · have r := ih (by omega) (fun j hj hn => e j (by omega) hn)
      have q : Q n = P n := e n (by omega) (fun y => z y.symm)
      by_cases w : P n = true
      · rw [wt_ct_t w, wt_ct_t (q.trans w), r]; omega
      · rw [wt_ct_f w, wt_ct_f (fun y => w (q.symm.trans y)), r]
/-- THE TREE: X's records of seven ints (the path last) hold what Y's paths and values hold -/
def wt_T (t p w : Nat → Int32) : Prop := ∀ k, k < 21 → t (7 * k + 6) = p k ∧ ∀ j, j < 6 → t (7 * k + j) = w (6 * k + j)
theorem wt_T_p {t p w : Nat → Int32} (h : wt_T t p w) {k : Nat} (x : Int32) : wt_T (upd t (7 * k + 6) x) (upd p k x) w := by
  intro i hi
  refine ⟨?_, fun j hj => ?_⟩
  · by_cases e : i = k
    · subst e; simp [upd]
    · rw [pk_un (show 7 * i + 6 ≠ 7 * k + 6 by omega), pk_un e]
      exact (h i hi).1
  · have : 7 * i + j ≠ 7 * k + 6 := by omega
    simp only [upd, this, if_false]
    exact (h i hi).2 j hj
theorem wt_T_w {t p w : Nat → Int32} (h : wt_T t p w) {k j : Nat} (hj : j < 6) (x : Int32) : wt_T (upd t (7 * k + j) x) p (upd w (6 * k + j) x) := by
  intro i hi
  refine ⟨?_, fun l hl => ?_⟩
  · have : 7 * i + 6 ≠ 7 * k + j := by omega
    simp only [upd, this, if_false]
    exact (h i hi).1
  · by_cases e : i = k ∧ l = j
    · obtain ⟨e1, e2⟩ := e; subst e1; subst e2; simp [upd]
    · have a : 7 * i + l ≠ 7 * k + j := by omega
      have b : 6 * i + l ≠ 6 * k + j := by omega
      simp only [upd, a, b, if_false]
      exact (h i hi).2 l hl
/-- THE WATCHES as a multiset: how many of the first n (session, kind, path) have P -/
def wt_W (s k p : Nat → Int32) (n : Nat) (P : Int32 → Int32 → Int32 → Bool) : Nat := wt_ct (fun i => P (s i) (k i) (p i)) n
/-- X's: a place whose session is -1 is free -/
def wt_X (s k p : Nat → Int32) (P : Int32 → Int32 → Int32 → Bool) : Nat := wt_W s k p 16 (fun a b c => !decide (a = -1) && P a b c)
theorem wt_nn {n : Nat} (h : n < 2 ^ 31) : ¬ nI n = -1 := by
  intro e
  have q := nI_pos' h
  rw [e] at q
  exact absurd q (by decide)
theorem wt_m1 : (-1 : Int32) < 0 := by decide
theorem wt_ct_20 {P : Nat → Bool} (h0 : ¬ P 0 = true) : wt_ct (fun k => decide (k = 0) || P k) 21 = wt_ct P 21 + 1 := by
  have q := wt_ct_one (P := P) (Q := fun k => decide (k = 0) || P k) (f := 0) h0 21 (by omega) (fun j _ hn => by simp [hn])
  simpa using q
theorem wt_ct_le20 {P : Nat → Bool} (h0 : ¬ P 0 = true) : wt_ct P 21 ≤ 20 := by
  have a := wt_ct_20 h0
  have b := wt_ct_le (fun k => decide (k = 0) || P k) 21
  omega
theorem wt_ct_full {P : Nat → Bool} (h0 : ¬ P 0 = true) : wt_ct P 21 = 20 ↔ ∀ k, 1 ≤ k → k < 21 → P k = true := by
  have a := wt_ct_20 h0
  have b := wt_ct_all (P := fun k => decide (k = 0) || P k) 21
  constructor
  · intro z k h1 h2
    have c := b.mp (by omega) k h2
    have d : ¬ k = 0 := by omega
    simpa [d] using c
  · intro z
    have c := b.mpr (fun k hk => by
      by_cases d : k = 0
      · simp [d]
      · simp [d, z k (by omega) hk])
    omega
/-- a place as X (m = 7) and Y (m = 1) answer it -/
def wt_r (m k : Nat) : Int32 := if k < 21 then nI (m * k) else -1
theorem wt_r_t {m k : Nat} (h : k < 21) : wt_r m k = nI (m * k) := if_pos h
theorem wt_r_f {m k : Nat} (h : ¬ k < 21) : wt_r m k = -1 := if_neg h
/-- find -/
def wt_fd (p : Nat → Int32) (x : Int32) : Nat := if x < 0 then 21 else wt_fs (fun k => decide (p k = x)) 21 0
theorem wt_fd_neg {p : Nat → Int32} {x : Int32} (h : x < 0) : wt_fd p x = 21 := if_pos h
theorem wt_fd_pos {p : Nat → Int32} {x : Int32} (h : ¬ x < 0) : wt_fd p x = wt_fs (fun k => decide (p k = x)) 21 0 := if_neg h
theorem wt_fd_at {p : Nat → Int32} {x : Int32} (h : wt_fd p x < 21) : p (wt_fd p x) = x ∧ ¬ x < 0 := by
  by_cases z : x < 0
  · rw [wt_fd_neg z] at h; omega
  · rw [wt_fd_pos z] at h ⊢
    obtain ⟨_, _, c, _⟩ := wt_fs_spec (fun k => decide (p k = x)) 21 0
    exact ⟨of_decide_eq_true (c (by omega)), z⟩
theorem wt_fd_none {p : Nat → Int32} {x : Int32} (h : ¬ wt_fd p x < 21) (hx : ¬ x < 0) : ∀ k, k < 21 → ¬ p k = x := by
  rw [wt_fd_pos hx] at h
  obtain ⟨_, b, _, e⟩ := wt_fs_spec (fun k => decide (p k = x)) 21 0
  intro k hk z
  exact e k (by omega) (by omega) (decide_eq_true z)
theorem wt_fd_some {p : Nat → Int32} {x : Int32} {k : Nat} (hk : k < 21) (h : p k = x) (hx : ¬ x < 0) : wt_fd p x < 21 := by
  by_cases z : wt_fd p x < 21
  · exact z
  · exact absurd h (wt_fd_none z hx k hk)
theorem wt_fd_cg {p q : Nat → Int32} {x : Int32} (h : ∀ k, k < 21 → (p k = x ↔ q k = x)) : wt_fd p x = wt_fd q x := by
  by_cases z : x < 0
  · rw [wt_fd_neg z, wt_fd_neg z]
  · rw [wt_fd_pos z, wt_fd_pos z]
    exact wt_fs_cg 21 0 (fun j _ hj => decide_eq_decide.mpr (h j (by omega)))
/-- isPath -/
def wt_ok : Nat → Nat → Bool
  | 0, x => decide (x = 0)
  | d + 1, x => if x = 0 then true else if x % 101 = 0 then false else wt_ok d (x / 101)
theorem wt_ok_0 (d : Nat) : wt_ok d 0 = true := by
  cases d with
  | zero => rfl
  | succ d => rfl
theorem wt_ok_f {d x : Nat} (h : ¬ x = 0) (h2 : x % 101 = 0) : wt_ok (d + 1) x = false := by
  simp [wt_ok, h, h2]
theorem wt_ok_s {d x : Nat} (h : ¬ x = 0) (h2 : ¬ x % 101 = 0) : wt_ok (d + 1) x = wt_ok d (x / 101) := by
  simp [wt_ok, h, h2]
theorem wt_ok_big : ∀ d x, 101 ^ d ≤ x → wt_ok d x = false := by
  intro d
  induction d with
  | zero =>
    intro x h
    have : ¬ x = 0 := by simp at h; omega
    simp [wt_ok, this]
  | succ d ih =>
    intro x h
    have e : 101 ^ (d + 1) = 101 ^ d * 101 := Nat.pow_succ _ _
    have p0 : 0 < 101 ^ d := Nat.pow_pos (by decide)
    have h0 : ¬ x = 0 := by omega
    by_cases z : x % 101 = 0
    · exact wt_ok_f h0 z
    · rw [wt_ok_s h0 z]
      exact ih _ ((Nat.le_div_iff_mul_le (by decide)).mpr (by omega))
def wt_ip (x : Int32) : Bool := !decide (x < 0) && wt_ok 3 x.toNatClampNeg
def wt_b (b : Bool) : Int32 := if b = true then 1 else 0
theorem wt_ip_neg {x : Int32} (h : x < 0) : wt_ip x = false := by simp [wt_ip, h]
theorem wt_ip_nI {a : Nat} (h : a < 2 ^ 31) : wt_ip (nI a) = wt_ok 3 a := by
  simp [wt_ip, nI_pos h, nI_clamp h]
theorem wt_ip_t {x : Int32} (h : wt_ip x = true) : ∃ a, a ≤ 1030300 ∧ x = nI a := by
  by_cases z : x < 0
  · rw [wt_ip_neg z] at h; exact absurd h (by decide)
  · obtain ⟨a, ha, rfl⟩ := nI_of z
    refine ⟨a, ?_, rfl⟩
    rw [wt_ip_nI ha] at h
    by_cases q : a ≤ 1030300
    · exact q
    · have e := wt_ok_big 3 a (by have : 101 ^ 3 = 1030301 := by decide
                                  omega)
      rw [e] at h
      exact absurd h (by decide)
/-- the greatest node that s owns, by the first n places; 21: none -/
def wt_ow (p w : Nat → Int32) (s : Int32) : Nat → Nat
  | 0 => 21
  | n + 1 => if w (6 * n + 5) = s ∧ 0 < p n ∧ (wt_ow p w s n = 21 ∨ p (wt_ow p w s n) < p n) then n else wt_ow p w s n
theorem wt_ow_t {p w : Nat → Int32} {s : Int32} {n : Nat} (h : w (6 * n + 5) = s ∧ 0 < p n ∧ (wt_ow p w s n = 21 ∨ p (wt_ow p w s n) < p n)) : wt_ow p w s (n + 1) = n := if_pos h
theorem wt_ow_f {p w : Nat → Int32} {s : Int32} {n : Nat} (h : ¬ (w (6 * n + 5) = s ∧ 0 < p n ∧ (wt_ow p w s n = 21 ∨ p (wt_ow p w s n) < p n))) : wt_ow p w s (n + 1) = wt_ow p w s n := if_neg h
theorem wt_ow_spec (p w : Nat → Int32) (s : Int32) : ∀ n, n ≤ 21 → (wt_ow p w s n = 21 ∧ ∀ j, j < n → ¬ (w (6 * j + 5) = s ∧ 0 < p j)) ∨ (wt_ow p w s n < n ∧ w (6 * wt_ow p w s n + 5) = s ∧ 0 < p (wt_ow p w s n)) := by
  intro n
  induction n with
  | zero => intro _; exact Or.inl ⟨rfl, fun j hj => absurd hj (Nat.not_lt_zero _)⟩
  | succ n ih =>
    intro hn
    by_cases c : w (6 * n + 5) = s ∧ 0 < p n ∧ (wt_ow p w s n = 21 ∨ p (wt_ow p w s n) < p n)
    · rw [wt_ow_t c]
      exact Or.inr ⟨by omega, c.1, c.2.1⟩
    · rw [wt_ow_f c]
      rcases ih (by omega) with ⟨e, q⟩ | ⟨e, q⟩
      · refine Or.inl ⟨e, fun j hj z => ?_⟩
        by_cases y : j = n
        · subst y; exact c ⟨z.1, z.2, Or.inl e⟩
        · exact q j (by omega) z
      · exact Or.inr ⟨by omega, q⟩
/-- how many nodes s owns -/
def wt_oc (p w : Nat → Int32) (s : Int32) : Nat := wt_ct (fun k => decide (w (6 * k + 5) = s ∧ 0 < p k)) 21
/-- the versions are bounded -/
def wt_V (B : Nat) (w : Nat → Int32) : Prop := ∀ k, k < 21 → ∀ j, j = 1 ∨ j = 2 → ∃ a, a ≤ B ∧ w (6 * k + j) = nI a
theorem wt_V_up {B C : Nat} {w : Nat → Int32} (h : wt_V B w) (hb : B ≤ C) : wt_V C w := fun k hk j hj =>
  let ⟨a, ha, e⟩ := h k hk j hj
  ⟨a, Nat.le_trans ha hb, e⟩
theorem wt_V_b {B : Nat} {w : Nat → Int32} {m : Nat} {x : Int32} (h : wt_V B w) (hx : ∃ a, a ≤ B ∧ x = nI a) : wt_V B (upd w m x) := by
  intro k hk j hj
  by_cases e : 6 * k + j = m
  · obtain ⟨a, ha, ea⟩ := hx
    exact ⟨a, ha, by rw [e, pk_us, ea]⟩
  · rw [pk_un e]; exact h k hk j hj
theorem wt_V_n {B : Nat} {w : Nat → Int32} {i l : Nat} {x : Int32} (h : wt_V B w) (hl : l < 6) (h1 : ¬ l = 1) (h2 : ¬ l = 2) : wt_V B (upd w (6 * i + l) x) := by
  intro k hk j hj
  have e : 6 * k + j ≠ 6 * i + l := by omega
  rw [pk_un e]; exact h k hk j hj
theorem wt_V_i {B : Nat} {w : Nat → Int32} {i l : Nat} (h : wt_V B w) (hi : i < 21) (hl : l = 1 ∨ l = 2) : wt_V (B + 1) (upd w (6 * i + l) (w (6 * i + l) + 1)) := by
  obtain ⟨a, ha, e⟩ := h i hi l hl
  exact wt_V_b (wt_V_up h (by omega)) ⟨a + 1, by omega, by rw [e, nI_1]⟩
/-- the tree stands: the root; each other node has a parent that no session owns -/
def wt_I (p w : Nat → Int32) : Prop := p 0 = 0 ∧ w 5 = -1 ∧ (∀ k, 1 ≤ k → k < 21 → p k = -1 ∨ ∃ a, 1 ≤ a ∧ a ≤ 1030300 ∧ p k = nI a) ∧ (∀ k, 1 ≤ k → k < 21 → ¬ p k = -1 → ∃ j, j < 21 ∧ p j = p k / 101 ∧ w (6 * j + 5) = -1)
theorem wt_101 : (101 : Int32) = nI 101 := rfl
theorem wt_d101 {a : Nat} (h : a < 2 ^ 31) : nI a / 101 = nI (a / 101) := by
  rw [wt_101, pk_div h (by decide) (by decide)]
theorem wt_I_w {p w w' : Nat → Int32} (h : wt_I p w) (e : ∀ j, j < 21 → w' (6 * j + 5) = w (6 * j + 5)) : wt_I p w' := by
  obtain ⟨h0, h5, h1, h2⟩ := h
  refine ⟨h0, (e 0 (by omega)).trans h5, h1, fun k a b c => ?_⟩
  obtain ⟨j, hj, q, o⟩ := h2 k a b c
  exact ⟨j, hj, q, (e j hj).trans o⟩
theorem wt_I_any {p w : Nat → Int32} (h : wt_I p w) {k : Nat} (hk : k < 21) : p k = -1 ∨ ∃ a, a ≤ 1030300 ∧ p k = nI a := by
  by_cases z : k = 0
  · subst z; exact Or.inr ⟨0, by omega, h.1⟩
  · rcases h.2.2.1 k (by omega) hk with q | ⟨a, _, b, c⟩
    · exact Or.inl q
    · exact Or.inr ⟨a, b, c⟩
theorem wt_I_ge {p w : Nat → Int32} (h : wt_I p w) {k : Nat} (h1 : 1 ≤ k) (hk : k < 21) : 0 ≤ p k ↔ 0 < p k := by
  rcases h.2.2.1 k h1 hk with q | ⟨a, b, c, d⟩
  · rw [q]; decide
  · rw [d]
    have x : (0 : Int32) ≤ nI a := nI_pos' (by omega)
    have y : (0 : Int32) < nI a := nI_lt (a := 0) (b := a) (by omega) (by omega)
    exact ⟨fun _ => y, fun _ => x⟩
theorem wt_I_fr {p w : Nat → Int32} (h : wt_I p w) {k : Nat} (hk : k < 21) : p k = -1 ↔ ¬ 0 ≤ p k := by
  rcases wt_I_any h hk with q | ⟨a, b, c⟩
  · rw [q]; decide
  · rw [c]
    exact ⟨fun z => absurd z (wt_nn (by omega)), fun z => absurd (nI_pos' (by omega)) z⟩
theorem wt_I_0 {p w : Nat → Int32} (h : wt_I p w) : ¬ 0 < p 0 := by rw [h.1]; decide
/-- a new node in a free place -/
theorem wt_I_mk {p w w' : Nat → Int32} {f q a : Nat} {o : Int32} (h : wt_I p w) (hf : f < 21) (f1 : p f = -1) (ha : 1 ≤ a) (ha2 : a ≤ 1030300) (hq : q < 21) (q1 : p q = nI (a / 101)) (q2 : w (6 * q + 5) = -1) (e : ∀ j, j < 21 → w' (6 * j + 5) = if j = f then o else w (6 * j + 5)) : wt_I (upd p f (nI a)) w' := by
  have f0 : ¬ f = 0 := by
    intro z; subst z; rw [h.1] at f1; exact absurd f1 (by decide)
  have hqf : ¬ q = f := by
    intro z; subst z; rw [q1] at f1; exact wt_nn (by omega) f1
  obtain ⟨h0, h5, h1, h2⟩ := h
  refine ⟨?_, ?_, fun k k1 k2 => ?_, fun k k1 k2 k3 => ?_⟩
  · rw [pk_un (fun z => f0 z.symm)]; exact h0
  · have := e 0 (by omega)
    rw [if_neg (fun z => f0 z.symm)] at this
    exact this.trans h5
  · by_cases z : k = f
    · subst z; rw [pk_us]; exact Or.inr ⟨a, ha, ha2, rfl⟩
    · rw [pk_un z]; exact h1 k k1 k2
  · by_cases z : k = f
    · subst z
      refine ⟨q, hq, ?_, ?_⟩
      · rw [pk_un hqf, pk_us, q1, wt_d101 (by omega)]
      · rw [e q hq, if_neg hqf]; exact q2
    · rw [pk_un z] at k3 ⊢
      obtain ⟨j, hj, x, y⟩ := h2 k k1 k2 k3
      have hjf : ¬ j = f := by
        intro y2
        rw [y2, f1] at x
        rcases h1 k k1 k2 with c | ⟨b, b1, b2, b3⟩
        · exact k3 c
        · rw [b3, wt_d101 (by omega)] at x
          exact wt_nn (by omega) x.symm
      refine ⟨j, hj, ?_, ?_⟩
      · rw [pk_un hjf]; exact x
      · rw [e j hj, if_neg hjf]; exact y
/-- a node goes: no other node has it as its parent, or a session owns it -/
theorem wt_I_tk {p w w' : Nat → Int32} {f : Nat} (h : wt_I p w) (f0 : 1 ≤ f) (hn : ¬ w (6 * f + 5) = -1 ∨ ∀ j, j < 21 → 0 < p j → ¬ p j / 101 = p f) (e : ∀ j, j < 21 → w' (6 * j + 5) = w (6 * j + 5)) : wt_I (upd p f (-1)) w' := by
  obtain ⟨h0, h5, h1, h2⟩ := h
  refine ⟨?_, (e 0 (by omega)).trans h5, fun k k1 k2 => ?_, fun k k1 k2 k3 => ?_⟩
  · rw [pk_un (by omega)]; exact h0
  · by_cases z : k = f
    · subst z; rw [pk_us]; exact Or.inl rfl
    · rw [pk_un z]; exact h1 k k1 k2
  · by_cases z : k = f
    · subst z; rw [pk_us] at k3; exact absurd rfl k3
    · rw [pk_un z] at k3 ⊢
      obtain ⟨j, hj, x, y⟩ := h2 k k1 k2 k3
      have hjf : ¬ j = f := by
        intro y2
        subst y2
        rcases hn with c | c
        · exact c y
        · refine c k k2 ?_ x.symm
          rcases h1 k k1 k2 with g | ⟨b, b1, b2, b3⟩
          · exact absurd g k3
          · rw [b3]; exact nI_lt (a := 0) (b := b) (by omega) (by omega)
      refine ⟨j, hj, ?_, ?_⟩
      · rw [pk_un hjf]; exact x
      · rw [e j hj]; exact y
/-- the parent of a node that goes is found, before and after -/
theorem wt_I_pa {p w : Nat → Int32} {f : Nat} (h : wt_I p w) (f0 : 1 ≤ f) (hf : f < 21) (hp : ¬ p f = -1) : wt_fd p (p f / 101) < 21 ∧ wt_fd (upd p f (-1)) (p f / 101) = wt_fd p (p f / 101) ∧ ¬ wt_fd p (p f / 101) = f ∧ ∃ a, 1 ≤ a ∧ a ≤ 1030300 ∧ p f = nI a := by
  obtain ⟨j, hj, x, _⟩ := h.2.2.2 f f0 hf hp
  rcases h.2.2.1 f f0 hf with c | ⟨a, a1, a2, a3⟩
  · exact absurd c hp
  · have e : p f / 101 = nI (a / 101) := by rw [a3, wt_d101 (by omega)]
    have ng : ¬ p f / 101 < 0 := by rw [e]; exact nI_pos (by omega)
    have ne : ¬ p f = p f / 101 := by
      rw [e, a3]
      intro z
      have := (nI_eq (by omega) (by omega)).mp z
      omega
    have lt := wt_fd_some hj x ng
    refine ⟨lt, wt_fd_cg (fun k hk => ?_), fun z => ?_, a, a1, a2, a3⟩
    · by_cases y : k = f
      · subst y
        rw [pk_us]
        exact ⟨fun z => absurd (z ▸ wt_m1 : p k / 101 < 0) ng, fun z => absurd z ne⟩
      · rw [pk_un y]
    · have := (wt_fd_at lt).1
      rw [z] at this
      exact ne this
end
section
theorem wt_W_cg {s k p s' k' p' : Nat → Int32} {n : Nat} {P Q : Int32 → Int32 → Int32 → Bool} (h : ∀ j, j < n → P (s j) (k j) (p j) = Q (s' j) (k' j) (p' j)) : wt_W s k p n P = wt_W s' k' p' n Q := wt_ct_cg n h
theorem wt_W_all (s k p : Nat → Int32) (n : Nat) : wt_W s k p n (fun _ _ _ => true) = n := (wt_ct_all n).mpr (fun _ _ => rfl)
theorem wt_W_cut (s k p : Nat → Int32) (n : Nat) (P Q : Int32 → Int32 → Int32 → Bool) : wt_W s k p n P = wt_W s k p n (fun a b c => P a b c && Q a b c) + wt_W s k p n (fun a b c => P a b c && !Q a b c) := wt_ct_cut _ _ n
theorem wt_W_0 {s k p : Nat → Int32} {n : Nat} {P : Int32 → Int32 → Int32 → Bool} : wt_W s k p n P = 0 ↔ ∀ j, j < n → ¬ P (s j) (k j) (p j) = true := wt_ct_0 n
theorem wt_W_add {s k p : Nat → Int32} {n : Nat} {a b c : Int32} (P : Int32 → Int32 → Int32 → Bool) : wt_W (upd s n a) (upd k n b) (upd p n c) (n + 1) P = wt_W s k p n P + (if P a b c = true then 1 else 0) := by
  have e : wt_W (upd s n a) (upd k n b) (upd p n c) n P = wt_W s k p n P := wt_W_cg (fun j hj => by
    rw [pk_un (by omega), pk_un (by omega), pk_un (by omega)])
  rw [← e]
  show wt_ct _ n + (if P (upd s n a n) (upd k n b n) (upd p n c n) = true then 1 else 0) = _
  rw [pk_us, pk_us, pk_us]
  rfl
theorem wt_X_add {s k p : Nat → Int32} {f : Nat} {a b c : Int32} (hf : f < 16) (h : s f = -1) (ha : ¬ a = -1) (P : Int32 → Int32 → Int32 → Bool) : wt_X (upd s f a) (upd k f b) (upd p f c) P = wt_X s k p P + (if P a b c = true then 1 else 0) := by
  have q := wt_ct_one (P := fun i => !decide (s i = -1) && P (s i) (k i) (p i)) (Q := fun i => !decide (upd s f a i = -1) && P (upd s f a i) (upd k f b i) (upd p f c i)) (f := f) (by simp [h]) 16 hf (fun j _ hn => by
    show (!decide (upd s f a j = -1) && P (upd s f a j) (upd k f b j) (upd p f c j)) = (!decide (s j = -1) && P (s j) (k j) (p j))
    rw [pk_un hn, pk_un hn, pk_un hn])
  have e : (!decide (upd s f a f = -1) && P (upd s f a f) (upd k f b f) (upd p f c f)) = P a b c := by
    rw [pk_us, pk_us, pk_us]; simp [ha]
  show wt_ct _ 16 = wt_ct _ 16 + _
  rw [q]
  dsimp only
  rw [e]
/-- X's watches, those that have G among the first i let go -/
def wt_dr (G : Int32 → Int32 → Int32 → Bool) (s k p : Nat → Int32) (i : Nat) : Nat → Int32 := fun j => if j < i ∧ G (s j) (k j) (p j) = true then -1 else s j
theorem wt_dr_0 (G : Int32 → Int32 → Int32 → Bool) (s k p : Nat → Int32) : wt_dr G s k p 0 = s := by
  funext j
  exact if_neg (fun z => absurd z.1 (Nat.not_lt_zero _))
theorem wt_dr_at (G : Int32 → Int32 → Int32 → Bool) (s k p : Nat → Int32) (i : Nat) : wt_dr G s k p i i = s i := if_neg (fun z => absurd z.1 (Nat.lt_irrefl _))
theorem wt_dr_t {G : Int32 → Int32 → Int32 → Bool} {s k p : Nat → Int32} {i : Nat} (h : G (s i) (k i) (p i) = true) : upd (wt_dr G s k p i) i (-1) = wt_dr G s k p (i + 1) := by
  funext j
  by_cases z : j = i
  · subst z
    rw [pk_us]
    exact (if_pos ⟨by omega, h⟩).symm
  · rw [pk_un z]
    have e : (j < i ∧ G (s j) (k j) (p j) = true) ↔ (j < i + 1 ∧ G (s j) (k j) (p j) = true) := ⟨fun y => ⟨by omega, y.2⟩, fun y => ⟨by omega, y.2⟩⟩
    by_cases y : j < i ∧ G (s j) (k j) (p j) = true
    · exact (if_pos y).trans (if_pos (e.mp y)).symm
    · exact (if_neg y).trans (if_neg (fun x => y (e.mpr x))).symm
theorem wt_dr_f {G : Int32 → Int32 → Int32 → Bool} {s k p : Nat → Int32} {i : Nat} (h : ¬ G (s i) (k i) (p i) = true) : wt_dr G s k p i = wt_dr G s k p (i + 1) := by
  funext j
  have e : (j < i ∧ G (s j) (k j) (p j) = true) ↔ (j < i + 1 ∧ G (s j) (k j) (p j) = true) := ⟨fun y => ⟨by omega, y.2⟩, fun y => ⟨by
    by_cases z : j = i
    · subst z; exact absurd y.2 h
    · omega, y.2⟩⟩
  by_cases y : j < i ∧ G (s j) (k j) (p j) = true
  · exact (if_pos y).trans (if_pos (e.mp y)).symm
  · exact (if_neg y).trans (if_neg (fun x => y (e.mpr x))).symm
theorem wt_X_dr {G : Int32 → Int32 → Int32 → Bool} {s k p : Nat → Int32} (P : Int32 → Int32 → Int32 → Bool) : wt_X (wt_dr G s k p 16) k p P = wt_X s k p (fun a b c => P a b c && !G a b c) := by
  refine wt_ct_cg 16 (fun j hj => ?_)
  show (!decide (wt_dr G s k p 16 j = -1) && P (wt_dr G s k p 16 j) (k j) (p j)) = (!decide (s j = -1) && (P (s j) (k j) (p j) && !G (s j) (k j) (p j)))
  by_cases y : G (s j) (k j) (p j) = true
  · have e : wt_dr G s k p 16 j = -1 := if_pos ⟨hj, y⟩
    rw [e, y]; simp
  · have e : wt_dr G s k p 16 j = s j := if_neg (fun x => y x.2)
    rw [e]; simp [y]
/-- Y's watches, packed: how many stay of the first k, and the three arrays then -/
def wt_cp (G : Int32 → Int32 → Int32 → Bool) (a b c : Nat → Int32) : Nat → Nat × (Nat → Int32) × (Nat → Int32) × (Nat → Int32)
  | 0 => (0, a, b, c)
  | k + 1 => if G ((wt_cp G a b c k).2.1 k) ((wt_cp G a b c k).2.2.1 k) ((wt_cp G a b c k).2.2.2 k) = true then wt_cp G a b c k else ((wt_cp G a b c k).1 + 1, upd (wt_cp G a b c k).2.1 (wt_cp G a b c k).1 ((wt_cp G a b c k).2.1 k), upd (wt_cp G a b c k).2.2.1 (wt_cp G a b c k).1 ((wt_cp G a b c k).2.2.1 k), upd (wt_cp G a b c k).2.2.2 (wt_cp G a b c k).1 ((wt_cp G a b c k).2.2.2 k))
theorem wt_cp_t {G : Int32 → Int32 → Int32 → Bool} {a b c : Nat → Int32} {k : Nat} (h : G ((wt_cp G a b c k).2.1 k) ((wt_cp G a b c k).2.2.1 k) ((wt_cp G a b c k).2.2.2 k) = true) : wt_cp G a b c (k + 1) = wt_cp G a b c k := if_pos h
theorem wt_cp_f {G : Int32 → Int32 → Int32 → Bool} {a b c : Nat → Int32} {k : Nat} (h : ¬ G ((wt_cp G a b c k).2.1 k) ((wt_cp G a b c k).2.2.1 k) ((wt_cp G a b c k).2.2.2 k) = true) : wt_cp G a b c (k + 1) = ((wt_cp G a b c k).1 + 1, upd (wt_cp G a b c k).2.1 (wt_cp G a b c k).1 ((wt_cp G a b c k).2.1 k), upd (wt_cp G a b c k).2.2.1 (wt_cp G a b c k).1 ((wt_cp G a b c k).2.2.1 k), upd (wt_cp G a b c k).2.2.2 (wt_cp G a b c k).1 ((wt_cp G a b c k).2.2.2 k)) := if_neg h
theorem wt_cp_spec (G : Int32 → Int32 → Int32 → Bool) (a b c : Nat → Int32) : ∀ k, (wt_cp G a b c k).1 ≤ k ∧ (∀ j, k ≤ j → (wt_cp G a b c k).2.1 j = a j ∧ (wt_cp G a b c k).2.2.1 j = b j ∧ (wt_cp G a b c k).2.2.2 j = c j) ∧ (∀ P, wt_W (wt_cp G a b c k).2.1 (wt_cp G a b c k).2.2.1 (wt_cp G a b c k).2.2.2 (wt_cp G a b c k).1 P = wt_W a b c k (fun x y z => P x y z && !G x y z)) := by
  intro k
  induction k with
  | zero => exact ⟨Nat.le_refl _, fun j _ => ⟨rfl, rfl, rfl⟩, fun P => rfl⟩
  | succ k ih =>
    obtain ⟨h1, h2, h3⟩ := ih
    obtain ⟨ea, eb, ec⟩ := h2 k (Nat.le_refl _)
    have ew : ∀ P : Int32 → Int32 → Int32 → Bool, wt_W a b c (k + 1) P = wt_W a b c k P + (if P (a k) (b k) (c k) = true then 1 else 0) := fun P => rfl
    by_cases g : G ((wt_cp G a b c k).2.1 k) ((wt_cp G a b c k).2.2.1 k) ((wt_cp G a b c k).2.2.2 k) = true
    · rw [wt_cp_t g]
      rw [ea, eb, ec] at g
      refine ⟨by omega, fun j hj => h2 j (by omega), fun P => ?_⟩
      rw [h3, ew]
      simp [g]
    · rw [wt_cp_f g]
      rw [ea, eb, ec] at g ⊢
      dsimp only
      refine ⟨by omega, fun j hj => ?_, fun P => ?_⟩
      · rw [pk_un (by omega), pk_un (by omega), pk_un (by omega)]
        exact h2 j (by omega)
      · rw [wt_W_add, h3, ew]
        simp [g]
theorem wt_and {a b : Bool} (h : (a && b) = true) : a = true ∧ b = true := by
  revert h
  cases a <;> cases b <;> decide
noncomputable def wt_dc (P : Prop) : Bool := @decide P (Classical.propDecidable P)
theorem wt_dc_t {P : Prop} : wt_dc P = true ↔ P := @decide_eq_true_iff P (Classical.propDecidable P)
/-- a property that every place of Y's has stays -/
theorem wt_cp_all {H : Int32 → Int32 → Int32 → Bool} {a b c : Nat → Int32} {k : Nat} (Q : Int32 → Int32 → Int32 → Prop) (h : ∀ j, j < k → Q (a j) (b j) (c j)) : ∀ j, j < (wt_cp H a b c k).1 → Q ((wt_cp H a b c k).2.1 j) ((wt_cp H a b c k).2.2.1 j) ((wt_cp H a b c k).2.2.2 j) := by
  obtain ⟨_, _, h3⟩ := wt_cp_spec H a b c k
  have q := h3 (fun x y z => wt_dc (¬ Q x y z))
  have z : wt_W a b c k (fun x y z => wt_dc (¬ Q x y z) && !H x y z) = 0 := wt_W_0.mpr (fun i hi y => by
    exact wt_dc_t.mp (wt_and y).1 (h i hi))
  rw [z] at q
  intro j hj
  have r := wt_W_0.mp q j hj
  exact Classical.byContradiction (fun y => r (wt_dc_t.mpr y))
/-- the relation of the watches: as many of each on both sides; Y's have an open session and a kind -/
def wt_WR (o xs xk xp ys yk yp : Nat → Int32) (wc : Int32) : Prop := ∃ c, c ≤ 16 ∧ wc = nI c ∧ (∀ P, wt_X xs xk xp P = wt_W ys yk yp c P) ∧ (∀ j, j < c → (∃ s, s < 4 ∧ ys j = nI s ∧ o s = 1) ∧ ∃ b, b ≤ 2 ∧ yk j = nI b)
/-- what stays when the watches with G (X) or H (Y) go -/
theorem wt_WR_dr {o xs xk xp ys yk yp : Nat → Int32} {c : Nat} {G H : Int32 → Int32 → Int32 → Bool} (hc : c ≤ 16) (h : ∀ P, wt_X xs xk xp P = wt_W ys yk yp c P) (hg : ∀ j, j < c → (∃ s, s < 4 ∧ ys j = nI s ∧ o s = 1) ∧ ∃ b, b ≤ 2 ∧ yk j = nI b) (e : ∀ j, j < c → G (ys j) (yk j) (yp j) = H (ys j) (yk j) (yp j)) :
    wt_WR o (wt_dr G xs xk xp 16) xk xp (wt_cp H ys yk yp c).2.1 (wt_cp H ys yk yp c).2.2.1 (wt_cp H ys yk yp c).2.2.2 (nI (wt_cp H ys yk yp c).1) ∧ (wt_X xs xk xp G = 0 ↔ (wt_cp H ys yk yp c).1 = c) ∧ (wt_cp H ys yk yp c).1 ≤ c ∧ (∀ j, j < (wt_cp H ys yk yp c).1 → ¬ H ((wt_cp H ys yk yp c).2.1 j) ((wt_cp H ys yk yp c).2.2.1 j) ((wt_cp H ys yk yp c).2.2.2 j) = true) := by
  obtain ⟨h1, _, h3⟩ := wt_cp_spec H ys yk yp c
  refine ⟨⟨_, by omega, rfl, fun P => ?_, fun j hj => ?_⟩, ?_, h1, fun j hj => ?_⟩
  · rw [wt_X_dr, h, h3]
    exact wt_W_cg (fun j hj => by rw [e j hj])
  · exact wt_cp_all (fun x y _ => (∃ s, s < 4 ∧ x = nI s ∧ o s = 1) ∧ ∃ b, b ≤ 2 ∧ y = nI b) hg j hj
  · rw [h]
    have a1 := wt_W_cut ys yk yp c (fun _ _ _ => true) H
    have a2 := wt_W_all ys yk yp c
    have a3 := h3 (fun _ _ _ => true)
    rw [wt_W_all] at a3
    have a4 : wt_W ys yk yp c G = wt_W ys yk yp c (fun x y z => true && H x y z) := wt_W_cg (fun j hj => by rw [e j hj]; rfl)
    omega
  · have q := h3 H
    have z : wt_W ys yk yp c (fun x y z => H x y z && !H x y z) = 0 := wt_W_0.mpr (fun i hi y => by
      have t := wt_and y
      have t2 := t.2
      rw [t.1] at t2
      exact absurd t2 (by decide))
    rw [z] at q
    exact wt_W_0.mp q j hj
end
section
/-- sessions: open (1) on both sides with timeout and deadline, or not open -/
def wt_S (B : Nat) (xt xd yo yt yd : Nat → Int32) : Prop := ∀ s, s < 4 → (yo s = 1 ∧ (∃ a, 1 ≤ a ∧ a ≤ 20 ∧ xt s = nI a ∧ yt s = nI a) ∧ (∃ d, d ≤ B + 20 ∧ xd s = nI d ∧ yd s = nI d)) ∨ (yo s = 0 ∧ xt s = 0)
theorem wt_S_up {B C : Nat} {xt xd yo yt yd : Nat → Int32} (h : wt_S B xt xd yo yt yd) (hb : B ≤ C) : wt_S C xt xd yo yt yd := by
  intro s hs
  rcases h s hs with ⟨a, b, d, d1, d2⟩ | c
  · exact Or.inl ⟨a, b, d, by omega, d2⟩
  · exact Or.inr c
theorem wt_S_xt {B : Nat} {xt xd yo yt yd : Nat → Int32} (h : wt_S B xt xd yo yt yd) {s : Nat} (hs : s < 4) : xt s = 0 ↔ yo s = 0 := by
  rcases h s hs with ⟨a, ⟨b, b1, b2, b3, _⟩, _⟩ | c
  · rw [a, b3]
    exact ⟨fun z => absurd z (nI_ne0 (by omega) (by omega)), fun z => absurd z (by decide)⟩
  · exact ⟨fun _ => c.1, fun _ => c.2⟩
theorem wt_S_o {B : Nat} {xt xd yo yt yd : Nat → Int32} (h : wt_S B xt xd yo yt yd) {s : Nat} (hs : s < 4) : yo s = 1 ∨ yo s = 0 := by
  rcases h s hs with c | c
  · exact Or.inl c.1
  · exact Or.inr c.1
/-- events: as many on both sides, 8 at most, none of a session that isn't open; those that wait are the same -/
def wt_E (yo xe xc ye yc : Nat → Int32) : Prop := ∀ s, s < 4 → ∃ n, n ≤ 8 ∧ xc s = nI n ∧ yc s = nI n ∧ (yo s = 0 → n = 0) ∧ ∀ j, j < n → xe (8 * s + j) = ye (8 * s + j)
/-- what the transaction under way changed -/
def wt_C (c : Nat) (xk xp yh yw : Nat → Int32) : Prop := c ≤ 20 ∧ ∀ i, i < c → xk i = yw i ∧ xp i = yh i ∧ (yw i = 1 ∨ yw i = 2 ∨ yw i = 3) ∧ ∃ a, a ≤ 1030300 ∧ yh i = nI a
theorem wt_C_0 (xk xp yh yw : Nat → Int32) : wt_C 0 xk xp yh yw := ⟨by omega, fun i hi => absurd hi (Nat.not_lt_zero _)⟩
theorem wt_C_s {c : Nat} {xk xp yh yw : Nat → Int32} {x k : Int32} (h : wt_C c xk xp yh yw) (hc : c < 20) (hk : k = 1 ∨ k = 2 ∨ k = 3) (hx : ∃ a, a ≤ 1030300 ∧ x = nI a) : wt_C (c + 1) (upd xk c k) (upd xp c x) (upd yh c x) (upd yw c k) := by
  refine ⟨by omega, fun i hi => ?_⟩
  by_cases e : i = c
  · subst e
    rw [pk_us, pk_us, pk_us, pk_us]
    exact ⟨rfl, rfl, hk, hx⟩
  · rw [pk_un e, pk_un e, pk_un e, pk_un e]
    exact h.2 i (by omega)
/-- the parts that wait -/
def wt_P (xc yc : Int32) (xk xp xa xb yp : Nat → Int32) : Prop := ∃ c, c ≤ 6 ∧ xc = nI c ∧ yc = nI c ∧ ∀ i, i < c → xk i = yp (4 * i) ∧ xp i = yp (4 * i + 1) ∧ xa i = yp (4 * i + 2) ∧ xb i = yp (4 * i + 3) ∧ ∃ b, b ≤ 3 ∧ yp (4 * i) = nI b ∧ (b = 0 → ∃ f, f ≤ 3 ∧ yp (4 * i + 3) = nI f)
/-- the numbers of the log and of a snapshot under way -/
def wt_N (xn xl xs xp yn yl ys yp : Int32) : Prop := xn = yn ∧ xn - xl = yl ∧ xp = yp ∧ (∃ a, a ≤ 24 ∧ yp = nI a) ∧ (¬ yp = 0 → xn - xs = ys)
theorem wt_sub1 (a b : Int32) : a + 1 - b = a - b + 1 := by grind
theorem wt_N_s {xn xl xs xp yn yl ys yp : Int32} (h : wt_N xn xl xs xp yn yl ys yp) : wt_N (xn + 1) xl xs xp (yn + 1) (yl + 1) (ys + 1) yp := by
  obtain ⟨a, b, c, d, e⟩ := h
  refine ⟨by rw [a], by rw [← b, wt_sub1], c, d, fun z => by rw [← e z, wt_sub1]⟩
section
variable {x_time x_partCount x_wrongAt x_changeCount x_transactions x_logStart x_snapshotStart x_placesLeft : Int32} {x_tree x_treeBefore x_timeouts x_deadlines x_events x_eventCounts x_watchSessions x_watchKinds x_watchPaths x_partKinds x_partPaths x_partAs x_partBs x_changePaths x_changeKinds : Nat → Int32}
variable {y_time y_last y_watchCount y_partCount y_wrong y_changes y_log y_since y_placesLeft : Int32} {y_paths y_values y_open y_timeouts y_deadlines y_events y_eventCounts y_watchers y_watchKinds y_watchPaths y_parts y_happened y_how : Nat → Int32}
def wt_R (B : Nat) (u : SX) (v : SY) : Prop := match u, v with
  | (x_time, x_partCount, x_wrongAt, x_changeCount, x_transactions, x_logStart, x_snapshotStart, x_placesLeft, x_tree, x_treeBefore, x_timeouts, x_deadlines, x_events, x_eventCounts, x_watchSessions, x_watchKinds, x_watchPaths, x_partKinds, x_partPaths, x_partAs, x_partBs, x_changePaths, x_changeKinds), (y_time, y_last, y_watchCount, y_partCount, y_wrong, y_changes, y_log, y_since, y_placesLeft, y_paths, y_values, y_open, y_timeouts, y_deadlines, y_events, y_eventCounts, y_watchers, y_watchKinds, y_watchPaths, y_parts, y_happened, y_how) => wt_T x_tree y_paths y_values ∧ wt_I y_paths y_values ∧ wt_V B y_values ∧ wt_S B x_timeouts x_deadlines y_open y_timeouts y_deadlines ∧ (∃ t, t ≤ B ∧ x_time = nI t ∧ y_time = nI t) ∧ wt_E y_open x_events x_eventCounts y_events y_eventCounts ∧ wt_WR y_open x_watchSessions x_watchKinds x_watchPaths y_watchers y_watchKinds y_watchPaths y_watchCount ∧ wt_P x_partCount y_partCount x_partKinds x_partPaths x_partAs x_partBs y_parts ∧ x_wrongAt = y_wrong ∧ wt_N x_transactions x_logStart x_snapshotStart x_placesLeft y_last y_log y_since y_placesLeft ∧ x_changeCount = 0
end
def i_Rel (k : Nat) (u : SX) (v : SY) : Prop := wt_R (100 * k) u v
section
variable {x_time x_partCount x_wrongAt x_changeCount x_transactions x_logStart x_snapshotStart x_placesLeft : Int32} {x_tree x_treeBefore x_timeouts x_deadlines x_events x_eventCounts x_watchSessions x_watchKinds x_watchPaths x_partKinds x_partPaths x_partAs x_partBs x_changePaths x_changeKinds : Nat → Int32}
variable {y_time y_last y_watchCount y_partCount y_wrong y_changes y_log y_since y_placesLeft : Int32} {y_paths y_values y_open y_timeouts y_deadlines y_events y_eventCounts y_watchers y_watchKinds y_watchPaths y_parts y_happened y_how : Nat → Int32}
theorem wt_R_up {B C : Nat} {u : SX} {v : SY} (h : wt_R B u v) (hb : B ≤ C) : wt_R C u v := by
  obtain ⟨x_time, x_partCount, x_wrongAt, x_changeCount, x_transactions, x_logStart, x_snapshotStart, x_placesLeft, x_tree, x_treeBefore, x_timeouts, x_deadlines, x_events, x_eventCounts, x_watchSessions, x_watchKinds, x_watchPaths, x_partKinds, x_partPaths, x_partAs, x_partBs, x_changePaths, x_changeKinds⟩ := u
  obtain ⟨y_time, y_last, y_watchCount, y_partCount, y_wrong, y_changes, y_log, y_since, y_placesLeft, y_paths, y_values, y_open, y_timeouts, y_deadlines, y_events, y_eventCounts, y_watchers, y_watchKinds, y_watchPaths, y_parts, y_happened, y_how⟩ := v
  obtain ⟨h1, h2, h3, h4, ⟨t, ht, h5⟩, h6⟩ := h
  exact ⟨h1, h2, wt_V_up h3 hb, wt_S_up h4 hb, ⟨t, Nat.le_trans ht hb, h5⟩, h6⟩
end
theorem i_up {k : Nat} {u : SX} {v : SY} (h : i_Rel k u v) : i_Rel (k + 5) u v := wt_R_up h (by omega)
theorem wt_or : ∀ c, c < 21 → ∀ s, s < 4 → ∀ b, b < 8 → b < 2 ^ s → nI (16 * c + b) ||| ((1 : Int32) <<< (nI s &&& 31)) = nI (16 * c + (b + 2 ^ s)) := by decide +kernel
theorem wt_or0 : ∀ s, s < 4 → ∀ b, b < 8 → b < 2 ^ s → nI b ||| ((1 : Int32) <<< (nI s &&& 31)) = nI (b + 2 ^ s) := by decide +kernel
theorem wt_flag2 : ∀ f, f < 4 → (nI f &&& 2 = 0 ↔ nI f ≤ 1) := by decide +kernel
theorem wt_flag1 : ∀ f, f < 4 → (nI f &&& 1 = 0 ↔ ¬ nI f - nI f / 2 * 2 = 1) := by decide +kernel
theorem wt_k7 : ∀ b, b < 3 → ¬ (((7 : Int32) >>> (nI b &&& 31)) &&& 1) = 0 := by decide +kernel
/-- n places moved from a to b -/
def wt_mv (a b n : Nat) (p : Nat → Int32) : Nat → Int32 := fun j => if b ≤ j ∧ j < b + n then p (a + (j - b)) else p j
theorem wt_mv_0 (a b : Nat) (p : Nat → Int32) : wt_mv a b 0 p = p := by
  funext j
  exact if_neg (by omega)
theorem wt_mv_at {a b n j : Nat} {p : Nat → Int32} (h : j < n) : wt_mv a b n p (b + j) = p (a + j) := by
  have e : a + (b + j - b) = a + j := by omega
  exact (if_pos (by omega)).trans (by rw [e])
theorem wt_mv_out {a b n j : Nat} {p : Nat → Int32} (h : ¬ (b ≤ j ∧ j < b + n)) : wt_mv a b n p j = p j := if_neg h
theorem wt_mv_s {a b n k : Nat} {p : Nat → Int32} (h : a + n ≤ b ∨ b + n ≤ a) (hk : k < n) : upd (wt_mv a b k p) (b + k) (wt_mv a b k p (a + k)) = wt_mv a b (k + 1) p := by
  have e : wt_mv a b k p (a + k) = p (a + k) := wt_mv_out (by omega)
  rw [e]
  funext j
  by_cases z : j = b + k
  · subst z
    rw [pk_us, wt_mv_at (by omega)]
  · rw [pk_un z]
    by_cases y : b ≤ j ∧ j < b + k
    · exact (if_pos y).trans (if_pos (by omega)).symm
    · exact (if_neg y).trans (if_neg (by omega)).symm
/-- n places filled from another array -/
def wt_mx (n : Nat) (p q : Nat → Int32) : Nat → Int32 := fun j => if j < n then p j else q j
theorem wt_mx_0 (p q : Nat → Int32) : wt_mx 0 p q = q := by
  funext j
  exact if_neg (Nat.not_lt_zero _)
theorem wt_mx_at {n j : Nat} {p q : Nat → Int32} (h : j < n) : wt_mx n p q j = p j := if_pos h
theorem wt_mx_s {k : Nat} {p q : Nat → Int32} : upd (wt_mx k p q) k (p k) = wt_mx (k + 1) p q := by
  funext j
  by_cases z : j = k
  · subst z
    rw [pk_us, wt_mx_at (by omega)]
  · rw [pk_un z]
    by_cases y : j < k
    · exact (if_pos y).trans (if_pos (by omega)).symm
    · exact (if_neg y).trans (if_neg (by omega)).symm
/-- n places from f on, each with what stood behind it -/
def wt_sh (f n : Nat) (e : Nat → Int32) : Nat → Int32 := fun j => if f ≤ j ∧ j < f + n then e (j + 1) else e j
theorem wt_sh_0 (f : Nat) (e : Nat → Int32) : wt_sh f 0 e = e := by
  funext j
  exact if_neg (by omega)
theorem wt_sh_in {f n j : Nat} {e : Nat → Int32} (h : f ≤ j ∧ j < f + n) : wt_sh f n e j = e (j + 1) := if_pos h
theorem wt_sh_out {f n j : Nat} {e : Nat → Int32} (h : ¬ (f ≤ j ∧ j < f + n)) : wt_sh f n e j = e j := if_neg h
theorem wt_sh_s {f k : Nat} {e : Nat → Int32} : upd (wt_sh f k e) (f + k) (wt_sh f k e (f + k + 1)) = wt_sh f (k + 1) e := by
  rw [wt_sh_out (by omega)]
  funext j
  by_cases z : j = f + k
  · subst z
    rw [pk_us, wt_sh_in (by omega)]
  · rw [pk_un z]
    by_cases y : f ≤ j ∧ j < f + k
    · rw [wt_sh_in y, wt_sh_in (by omega)]
    · rw [wt_sh_out y, wt_sh_out (by omega)]
/-- the first n places set to x -/
def wt_fl (n : Nat) (x : Int32) (q : Nat → Int32) : Nat → Int32 := wt_mx n (fun _ => x) q
theorem wt_fl_s {k : Nat} {x : Int32} {q : Nat → Int32} : upd (wt_fl k x q) k x = wt_fl (k + 1) x q := wt_mx_s (p := fun _ => x)
theorem wt_fl_0 (x : Int32) (q : Nat → Int32) : wt_fl 0 x q = q := wt_mx_0 _ _
theorem wt_fl_at {n j : Nat} {x : Int32} {q : Nat → Int32} (h : j < n) : wt_fl n x q j = x := if_pos h
/-- X's tree against Y's after writes -/
theorem wt_T_cg {t p w t' p' w' : Nat → Int32} (h : wt_T t p w) (a : ∀ j, j < 147 → t' j = t j) (b : ∀ j, j < 21 → p' j = p j) (c : ∀ j, j < 126 → w' j = w j) : wt_T t' p' w' := by
  intro k hk
  refine ⟨?_, fun j hj => ?_⟩
  · rw [a _ (by omega), b _ hk]; exact (h k hk).1
  · rw [a _ (by omega), c _ (by omega)]; exact (h k hk).2 j hj
theorem wt_I_cg {p w p' w' : Nat → Int32} (h : wt_I p w) (b : ∀ j, j < 21 → p' j = p j) (c : ∀ j, j < 126 → w' j = w j) : wt_I p' w' := by
  obtain ⟨h0, h5, h1, h2⟩ := h
  refine ⟨(b 0 (by omega)).trans h0, (c 5 (by omega)).trans h5, fun k k1 k2 => ?_, fun k k1 k2 k3 => ?_⟩
  · rw [b k k2]; exact h1 k k1 k2
  · rw [b k k2] at k3 ⊢
    obtain ⟨j, hj, x, y⟩ := h2 k k1 k2 k3
    exact ⟨j, hj, (b j hj).trans x, (c _ (by omega)).trans y⟩
theorem wt_V_cg {B : Nat} {w w' : Nat → Int32} (h : wt_V B w) (c : ∀ j, j < 126 → w' j = w j) : wt_V B w' := by
  intro k hk j hj
  rw [c _ (by omega)]
  exact h k hk j hj
theorem wt_E_ev {yo xe xc ye yc : Nat → Int32} {s n : Nat} (h : wt_E yo xe xc ye yc) (hs : s < 4) (hn : n + 1 ≤ 8) (e : yc s = nI (n + 1)) : wt_E yo (wt_sh (8 * s) 7 xe) (upd xc s (nI n)) (wt_sh (8 * s) n ye) (upd yc s (nI n)) := by
  intro i hi
  obtain ⟨m, m1, m2, m3, m4, m5⟩ := h i hi
  by_cases z : i = s
  · subst z
    have em : m = n + 1 := (nI_eq (by omega) (by omega)).mp (m3.symm.trans e)
    subst em
    refine ⟨n, by omega, pk_us, pk_us, fun y => absurd (m4 y) (by omega), fun j hj => ?_⟩
    rw [wt_sh_in (by omega), wt_sh_in (by omega)]
    exact m5 (j + 1) (by omega)
  · refine ⟨m, m1, by rw [pk_un z]; exact m2, by rw [pk_un z]; exact m3, m4, fun j hj => ?_⟩
    rw [wt_sh_out (by omega), wt_sh_out (by omega)]
    exact m5 j hj
theorem wt_E_pu {yo xe xc ye yc : Nat → Int32} {s n : Nat} {x : Int32} (h : wt_E yo xe xc ye yc) (hs : s < 4) (hn : n < 8) (e : yc s = nI n) (ho : yo s = 1) : wt_E yo (upd xe (8 * s + n) x) (upd xc s (nI (n + 1))) (upd ye (8 * s + n) x) (upd yc s (nI (n + 1))) := by
  intro i hi
  obtain ⟨m, m1, m2, m3, m4, m5⟩ := h i hi
  by_cases z : i = s
  · subst z
    have em : m = n := (nI_eq (by omega) (by omega)).mp (m3.symm.trans e)
    subst em
    refine ⟨m + 1, by omega, pk_us, pk_us, fun y => absurd (ho.symm.trans y) (by decide), fun j hj => ?_⟩
    by_cases q : j = m
    · subst q; rw [pk_us, pk_us]
    · rw [pk_un (by omega), pk_un (by omega)]; exact m5 j (by omega)
  · refine ⟨m, m1, by rw [pk_un z]; exact m2, by rw [pk_un z]; exact m3, m4, fun j hj => ?_⟩
    rw [pk_un (by omega), pk_un (by omega)]
    exact m5 j hj
theorem wt_E_cl {yo xe xc ye yc : Nat → Int32} {s : Nat} (h : wt_E yo xe xc ye yc) : wt_E (upd yo s 0) xe (upd xc s 0) ye (upd yc s 0) := by
  intro i hi
  obtain ⟨m, m1, m2, m3, m4, m5⟩ := h i hi
  by_cases z : i = s
  · subst z
    exact ⟨0, by omega, pk_us, pk_us, fun _ => rfl, fun j hj => absurd hj (Nat.not_lt_zero _)⟩
  · exact ⟨m, m1, by rw [pk_un z]; exact m2, by rw [pk_un z]; exact m3, by rw [pk_un z]; exact m4, m5⟩
theorem wt_E_op {yo xe xc ye yc : Nat → Int32} {s : Nat} (h : wt_E yo xe xc ye yc) (hs : s < 4) (h0 : yo s = 0) : wt_E (upd yo s 1) xe xc ye (upd yc s 0) := by
  intro i hi
  obtain ⟨m, m1, m2, m3, m4, m5⟩ := h i hi
  by_cases z : i = s
  · subst z
    have em := m4 h0
    subst em
    exact ⟨0, by omega, m2, pk_us, fun _ => rfl, fun j hj => absurd hj (Nat.not_lt_zero _)⟩
  · exact ⟨m, m1, m2, by rw [pk_un z]; exact m3, by rw [pk_un z]; exact m4, m5⟩
theorem wt_E_0 {yo xe xc ye yc : Nat → Int32} (a : ∀ s, s < 4 → xc s = 0) (b : ∀ s, s < 4 → yc s = 0) : wt_E yo xe xc ye yc := fun s hs => ⟨0, by omega, a s hs, b s hs, fun _ => rfl, fun j hj => absurd hj (Nat.not_lt_zero _)⟩
theorem wt_S_cl {B s : Nat} {xt xd yo yt yd : Nat → Int32} (h : wt_S B xt xd yo yt yd) : wt_S B (upd xt s 0) xd (upd yo s 0) yt yd := by
  intro i hi
  by_cases z : i = s
  · subst z; exact Or.inr ⟨pk_us, pk_us⟩
  · rw [pk_un z, pk_un z]; exact h i hi
theorem wt_S_op {B s a t : Nat} {xt xd yo yt yd : Nat → Int32} (h : wt_S B xt xd yo yt yd) (a1 : 1 ≤ a) (a2 : a ≤ 20) (ht : t ≤ B) : wt_S B (upd xt s (nI a)) (upd xd s (nI (t + a))) (upd yo s 1) (upd yt s (nI a)) (upd yd s (nI (t + a))) := by
  intro i hi
  by_cases z : i = s
  · subst z
    exact Or.inl ⟨pk_us, ⟨a, a1, a2, pk_us, pk_us⟩, ⟨t + a, by omega, pk_us, pk_us⟩⟩
  · rw [pk_un z, pk_un z, pk_un z, pk_un z, pk_un z]; exact h i hi
theorem wt_S_tc {B s t a : Nat} {xt xd yo yt yd : Nat → Int32} (h : wt_S B xt xd yo yt yd) (ht : t ≤ B) (a2 : a ≤ 20) : wt_S B xt (upd xd s (nI (t + a))) yo yt (upd yd s (nI (t + a))) := by
  intro i hi
  by_cases z : i = s
  · subst z
    rcases h i hi with ⟨o, b, _⟩ | c
    · exact Or.inl ⟨o, b, ⟨t + a, by omega, pk_us, pk_us⟩⟩
    · exact Or.inr c
  · rw [pk_un z, pk_un z]; exact h i hi
theorem wt_S_cr {B t : Nat} {xt xd yo yt yd xd' yd' : Nat → Int32} (h : wt_S B xt xd yo yt yd) (ht : t ≤ B) (a : ∀ s, s < 4 → xd' s = nI t + xt s) (b : ∀ s, s < 4 → yd' s = nI t + yt s) : wt_S B xt xd' yo yt yd' := by
  intro i hi
  rcases h i hi with ⟨o, ⟨c, c1, c2, c3, c4⟩, _⟩ | c
  · exact Or.inl ⟨o, ⟨c, c1, c2, c3, c4⟩, ⟨t + c, by omega, by rw [a i hi, c3, nI_add], by rw [b i hi, c4, nI_add]⟩⟩
  · exact Or.inr c
theorem wt_WR_op {o xs xk xp ys yk yp : Nat → Int32} {wc : Int32} {s : Nat} (h : wt_WR o xs xk xp ys yk yp wc) : wt_WR (upd o s 1) xs xk xp ys yk yp wc := by
  obtain ⟨c, h1, h2, h3, h4⟩ := h
  refine ⟨c, h1, h2, h3, fun j hj => ?_⟩
  obtain ⟨⟨t, t1, t2, t3⟩, q⟩ := h4 j hj
  refine ⟨⟨t, t1, t2, ?_⟩, q⟩
  by_cases z : t = s
  · subst z; exact pk_us
  · rw [pk_un z]; exact t3
theorem wt_WR_cl {o xs xk xp ys yk yp : Nat → Int32} {c s : Nat} (h : wt_WR o xs xk xp ys yk yp (nI c)) (hc : c ≤ 16) (hn : ∀ j, j < c → ¬ ys j = nI s) : wt_WR (upd o s 0) xs xk xp ys yk yp (nI c) := by
  obtain ⟨d, h1, h2, h3, h4⟩ := h
  have e : c = d := (nI_eq (by omega) (by omega)).mp h2
  subst e
  refine ⟨c, h1, rfl, h3, fun j hj => ?_⟩
  obtain ⟨⟨t, t1, t2, t3⟩, q⟩ := h4 j hj
  refine ⟨⟨t, t1, t2, ?_⟩, q⟩
  by_cases z : t = s
  · subst z; exact absurd t2 (hn j hj)
  · rw [pk_un z]; exact t3
theorem wt_WR_0 {o xs xk xp ys yk yp : Nat → Int32} (h : ∀ j, j < 16 → xs j = -1) : wt_WR o xs xk xp ys yk yp 0 := by
  refine ⟨0, by omega, rfl, fun P => ?_, fun j hj => absurd hj (Nat.not_lt_zero _)⟩
  refine wt_W_0.mpr (fun j hj => ?_)
  rw [h j hj]
  simp
theorem wt_WR_ad {o xs xk xp ys yk yp : Nat → Int32} {c f s b : Nat} {x : Int32} (hc : c < 16) (h3 : ∀ P, wt_X xs xk xp P = wt_W ys yk yp c P) (h4 : ∀ j, j < c → (∃ s, s < 4 ∧ ys j = nI s ∧ o s = 1) ∧ ∃ b, b ≤ 2 ∧ yk j = nI b) (hf : f < 16) (h : xs f = -1) (hs : s < 4) (ho : o s = 1) (hb : b ≤ 2) : wt_WR o (upd xs f (nI s)) (upd xk f (nI b)) (upd xp f x) (upd ys c (nI s)) (upd yk c (nI b)) (upd yp c x) (nI (c + 1)) := by
  refine ⟨c + 1, by omega, rfl, fun P => ?_, fun j hj => ?_⟩
  · rw [wt_X_add hf h (wt_nn (by omega)), wt_W_add, h3]
  · by_cases z : j = c
    · subst z
      rw [pk_us, pk_us]
      exact ⟨⟨s, hs, rfl, ho⟩, b, hb, rfl⟩
    · rw [pk_un z, pk_un z]
      exact h4 j (by omega)
end
section
theorem wt_7 (i : Nat) : nI (7 * i) + 7 = nI (7 * (i + 1)) := nI_add (7 * i) 7
theorem wt_7j (i j : Nat) : nI (7 * i) + nI j = nI (7 * i + j) := nI_add (7 * i) j
theorem wt_7c (i j : Nat) (hi : i < 21) (hj : j < 7) : (nI (7 * i) + nI j).toNatClampNeg = 7 * i + j := by
  rw [wt_7j]; exact nI_clamp (by omega)
theorem wt_7in (i j : Nat) (hi : i < 21) (hj : j < 7) : vp_in (nI (7 * i) + nI j) 147 := by
  rw [wt_7j]; exact vp_in_nI (by omega) (by omega)
theorem wt_7ge (i : Nat) (hi : i < 21) : ¬ (147 : Int32) ≤ nI (7 * i) := nI_ge (b := 147) (by omega) (by omega)
theorem wt_7le : (147 : Int32) ≤ nI (7 * 21) := nI_le (a := 147) (b := 147) (by omega) (by omega)
theorem wt_ne101 : ¬ (101 : Int32) = 0 := by decide
theorem wt_ne100 : ¬ (100 : Int32) = 0 := by decide
theorem wt_le0 {x : Int32} : x ≤ 0 ↔ ¬ 0 < x := Int32.not_lt.symm
def wt_ch (p : Nat → Int32) (x : Int32) (k : Nat) : Bool := decide (0 < p k ∧ p k / 101 = x)
def wt_nd (p : Nat → Int32) (k : Nat) : Bool := decide (0 < p k)
/-- the greatest path so far -/
def wt_g (p : Nat → Int32) (k : Nat) : Int32 := if k < 21 then p k else 0
theorem wt_ow_yes {p w : Nat → Int32} {s : Int32} {i : Nat} (hi : i < 21) (a : w (6 * i + 5) = s) (b : ¬ p i ≤ wt_g p (wt_ow p w s i)) : wt_ow p w s (i + 1) = i := by
  rcases wt_ow_spec p w s i (by omega) with ⟨e, _⟩ | ⟨e, _, c⟩
  · rw [e] at b
    have b' : ¬ p i ≤ 0 := b
    exact wt_ow_t ⟨a, Int32.not_le.mp b', Or.inl e⟩
  · have g : wt_g p (wt_ow p w s i) = p (wt_ow p w s i) := if_pos (by omega)
    rw [g] at b
    have b' := Int32.not_le.mp b
    exact wt_ow_t ⟨a, Int32.lt_trans c b', Or.inr b'⟩
theorem wt_ow_no {p w : Nat → Int32} {s : Int32} {i : Nat} (hi : i < 21) (a : ¬ w (6 * i + 5) = s ∨ p i ≤ wt_g p (wt_ow p w s i)) : wt_ow p w s (i + 1) = wt_ow p w s i := by
  refine wt_ow_f (fun z => ?_)
  rcases a with a | a
  · exact a z.1
  · rcases wt_ow_spec p w s i (by omega) with ⟨e, _⟩ | ⟨e, _, c⟩
    · rw [e] at a
      have a' : p i ≤ 0 := a
      exact wt_le0.mp a' z.2.1
    · have g : wt_g p (wt_ow p w s i) = p (wt_ow p w s i) := if_pos (by omega)
      rw [g] at a
      rcases z.2.2 with y | y
      · omega
      · exact Int32.not_le.mpr y a
section
variable {x_time x_partCount x_wrongAt x_changeCount x_transactions x_logStart x_snapshotStart x_placesLeft : Int32} {x_tree x_treeBefore x_timeouts x_deadlines x_events x_eventCounts x_watchSessions x_watchKinds x_watchPaths x_partKinds x_partPaths x_partAs x_partBs x_changePaths x_changeKinds : Nat → Int32}
variable {p w : Nat → Int32}
theorem wx_find_lp {post : Int32 → Prop} {x : Int32} (hT : wt_T x_tree p w) : ∀ d i, i + d = 21 → post (wt_r 7 (wt_fs (fun k => decide (p k = x)) d i)) → wX_find_8 post x x_time x_partCount x_wrongAt x_changeCount x_transactions x_logStart x_snapshotStart x_placesLeft x_tree x_treeBefore x_timeouts x_deadlines x_events x_eventCounts x_watchSessions x_watchKinds x_watchPaths x_partKinds x_partPaths x_partAs x_partBs x_changePaths x_changeKinds (d + 1) (nI (7 * i)) := by
  intro d
  induction d with
  | zero =>
    intro i hi hp
    have e : i = 21 := by omega
    subst e
    exact br_t wt_7le hp
  | succ d ih =>
    intro i hi hp
    refine br_f (wt_7ge i (by omega)) ⟨wt_7in i 6 (by omega) (by omega), ?_⟩
    have hc : x_tree (nI (7 * i) + 6).toNatClampNeg = p i := by
      have q := wt_7c i 6 (by omega) (by omega)
      exact (congrArg x_tree q).trans (hT i (by omega)).1
    rw [hc]
    by_cases e : p i = x
    · rw [wt_fs_t (decide_eq_true e), wt_r_t (by omega)] at hp
      exact br_t e hp
    · rw [wt_fs_f (fun z => e (of_decide_eq_true z))] at hp
      exact br_f e (nm_r (wt_7 i) (ih (i + 1) (by omega) hp))
theorem wx_find {post : Int32 → Prop} {x : Int32} (hT : wt_T x_tree p w) (hp : post (wt_r 7 (wt_fd p x))) : wpX_find post (x_time, x_partCount, x_wrongAt, x_changeCount, x_transactions, x_logStart, x_snapshotStart, x_placesLeft, x_tree, x_treeBefore, x_timeouts, x_deadlines, x_events, x_eventCounts, x_watchSessions, x_watchKinds, x_watchPaths, x_partKinds, x_partPaths, x_partAs, x_partBs, x_changePaths, x_changeKinds) x := by
  by_cases z : x < 0
  · rw [wt_fd_neg z] at hp
    exact br_f (fun y => Int32.not_le.mpr z y) hp
  · rw [wt_fd_pos z] at hp
    exact br_t (Int32.not_lt.mp z) ⟨22, wx_find_lp hT 21 0 rfl hp⟩
theorem wx_find_t {post : Int32 → Prop} {x : Int32} (hT : wt_T x_tree p w) (h : wt_fd p x < 21) (hp : post (nI (7 * wt_fd p x))) : wpX_find post (x_time, x_partCount, x_wrongAt, x_changeCount, x_transactions, x_logStart, x_snapshotStart, x_placesLeft, x_tree, x_treeBefore, x_timeouts, x_deadlines, x_events, x_eventCounts, x_watchSessions, x_watchKinds, x_watchPaths, x_partKinds, x_partPaths, x_partAs, x_partBs, x_changePaths, x_changeKinds) x := wx_find hT (by rw [wt_r_t h]; exact hp)
theorem wx_find_f {post : Int32 → Prop} {x : Int32} (hT : wt_T x_tree p w) (h : ¬ wt_fd p x < 21) (hp : post (-1)) : wpX_find post (x_time, x_partCount, x_wrongAt, x_changeCount, x_transactions, x_logStart, x_snapshotStart, x_placesLeft, x_tree, x_treeBefore, x_timeouts, x_deadlines, x_events, x_eventCounts, x_watchSessions, x_watchKinds, x_watchPaths, x_partKinds, x_partPaths, x_partAs, x_partBs, x_changePaths, x_changeKinds) x := wx_find hT (by rw [wt_r_f h]; exact hp)
theorem wx_findFree_lp {post : Int32 → Prop} (hT : wt_T x_tree p w) : ∀ d i, i + d = 21 → post (wt_r 7 (wt_fs (fun k => decide (p k = -1)) d i)) → wX_findFree_2 post x_time x_partCount x_wrongAt x_changeCount x_transactions x_logStart x_snapshotStart x_placesLeft x_tree x_treeBefore x_timeouts x_deadlines x_events x_eventCounts x_watchSessions x_watchKinds x_watchPaths x_partKinds x_partPaths x_partAs x_partBs x_changePaths x_changeKinds (d + 1) (nI (7 * i)) := by
  intro d
  induction d with
  | zero =>
    intro i hi hp
    have e : i = 21 := by omega
    subst e
    exact br_t wt_7le hp
  | succ d ih =>
    intro i hi hp
    refine br_f (wt_7ge i (by omega)) ⟨wt_7in i 6 (by omega) (by omega), ?_⟩
    have hc : x_tree (nI (7 * i) + 6).toNatClampNeg = p i := by
      have q := wt_7c i 6 (by omega) (by omega)
      exact (congrArg x_tree q).trans (hT i (by omega)).1
    rw [hc]
    by_cases e : p i = -1
    · rw [wt_fs_t (decide_eq_true e), wt_r_t (by omega)] at hp
      exact br_t e hp
    · rw [wt_fs_f (fun z => e (of_decide_eq_true z))] at hp
      exact br_f e (nm_r (wt_7 i) (ih (i + 1) (by omega) hp))
theorem wx_findFree {post : Int32 → Prop} (hT : wt_T x_tree p w) (hp : post (wt_r 7 (wt_fs (fun k => decide (p k = -1)) 21 0))) : wpX_findFree post (x_time, x_partCount, x_wrongAt, x_changeCount, x_transactions, x_logStart, x_snapshotStart, x_placesLeft, x_tree, x_treeBefore, x_timeouts, x_deadlines, x_events, x_eventCounts, x_watchSessions, x_watchKinds, x_watchPaths, x_partKinds, x_partPaths, x_partAs, x_partBs, x_changePaths, x_changeKinds) := ⟨22, wx_findFree_lp hT 21 0 rfl hp⟩
theorem wx_greatest_lp {post : Int32 → Prop} {s : Int32} (hT : wt_T x_tree p w) (hp : post (wt_r 7 (wt_ow p w s 21))) : ∀ d i, i + d = 21 → wX_findGreatestOwned_7 post s x_time x_partCount x_wrongAt x_changeCount x_transactions x_logStart x_snapshotStart x_placesLeft x_tree x_treeBefore x_timeouts x_deadlines x_events x_eventCounts x_watchSessions x_watchKinds x_watchPaths x_partKinds x_partPaths x_partAs x_partBs x_changePaths x_changeKinds (d + 1) (wt_r 7 (wt_ow p w s i)) (wt_g p (wt_ow p w s i)) (nI (7 * i)) := by
  intro d
  induction d with
  | zero =>
    intro i hi
    have e : i = 21 := by omega
    subst e
    exact br_t wt_7le hp
  | succ d ih =>
    intro i hi
    refine br_f (wt_7ge i (by omega)) ⟨wt_7in i 5 (by omega) (by omega), ?_⟩
    have hc : x_tree (nI (7 * i) + 6).toNatClampNeg = p i := by
      have q := wt_7c i 6 (by omega) (by omega)
      exact (congrArg x_tree q).trans (hT i (by omega)).1
    have hc5 : x_tree (nI (7 * i) + 5).toNatClampNeg = w (6 * i + 5) := by
      have q := wt_7c i 5 (by omega) (by omega)
      exact (congrArg x_tree q).trans ((hT i (by omega)).2 5 (by omega))
    rw [hc, hc5]
    have hn := ih (i + 1) (by omega)
    by_cases e : w (6 * i + 5) = s
    · refine br_t e ⟨wt_7in i 6 (by omega) (by omega), ?_⟩
      by_cases f : p i ≤ wt_g p (wt_ow p w s i)
      · rw [wt_ow_no (by omega) (Or.inr f)] at hn
        exact br_t f (nm_r (wt_7 i) hn)
      · rw [wt_ow_yes (by omega) e f] at hn
        have g1 : wt_r 7 i = nI (7 * i) := wt_r_t (by omega)
        have g2 : wt_g p i = p i := if_pos (by omega)
        rw [g1, g2] at hn
        exact br_f f ⟨wt_7in i 6 (by omega) (by omega), nm_e (nm_r (wt_7 i) hn)⟩
    · rw [wt_ow_no (by omega) (Or.inl e)] at hn
      exact br_f e (nm_r (wt_7 i) hn)
theorem wx_greatest {post : Int32 → Prop} {s : Int32} (hT : wt_T x_tree p w) (hp : post (wt_r 7 (wt_ow p w s 21))) : wpX_findGreatestOwned post (x_time, x_partCount, x_wrongAt, x_changeCount, x_transactions, x_logStart, x_snapshotStart, x_placesLeft, x_tree, x_treeBefore, x_timeouts, x_deadlines, x_events, x_eventCounts, x_watchSessions, x_watchKinds, x_watchPaths, x_partKinds, x_partPaths, x_partAs, x_partBs, x_changePaths, x_changeKinds) s := ⟨22, wx_greatest_lp hT hp 21 0 rfl⟩
theorem wx_cch_lp {post : Int32 → Prop} {x : Int32} (hT : wt_T x_tree p w) (hp : post (nI (wt_ct (wt_ch p x) 21))) : ∀ d i, i + d = 21 → wX_countChildren_4 post x x_time x_partCount x_wrongAt x_changeCount x_transactions x_logStart x_snapshotStart x_placesLeft x_tree x_treeBefore x_timeouts x_deadlines x_events x_eventCounts x_watchSessions x_watchKinds x_watchPaths x_partKinds x_partPaths x_partAs x_partBs x_changePaths x_changeKinds (d + 1) (nI (wt_ct (wt_ch p x) i)) (nI (7 * i)) := by
  intro d
  induction d with
  | zero =>
    intro i hi
    have e : i = 21 := by omega
    subst e
    exact br_t wt_7le hp
  | succ d ih =>
    intro i hi
    refine br_f (wt_7ge i (by omega)) ⟨wt_7in i 6 (by omega) (by omega), ?_⟩
    have hc : x_tree (nI (7 * i) + 6).toNatClampNeg = p i := by
      have q := wt_7c i 6 (by omega) (by omega)
      exact (congrArg x_tree q).trans (hT i (by omega)).1
    refine nm_r hc ?_
    have hn := ih (i + 1) (by omega)
    by_cases e : p i ≤ 0
    · rw [wt_ct_f (fun z => wt_le0.mp e (of_decide_eq_true z).1)] at hn
      exact br_t e (nm_r (wt_7 i) hn)
    · refine br_f e ⟨wt_ne101, ?_⟩
      by_cases f : p i / 101 = x
      · rw [wt_ct_t (decide_eq_true ⟨Int32.not_le.mp e, f⟩)] at hn
        exact br_t f (nm_r (nI_1 _) (nm_r (wt_7 i) hn))
      · rw [wt_ct_f (fun z => f (of_decide_eq_true z).2)] at hn
        exact br_f f (nm_r (wt_7 i) hn)
theorem wx_cch {post : Int32 → Prop} {x : Int32} (hT : wt_T x_tree p w) (hp : post (nI (wt_ct (wt_ch p x) 21))) : wpX_countChildren post (x_time, x_partCount, x_wrongAt, x_changeCount, x_transactions, x_logStart, x_snapshotStart, x_placesLeft, x_tree, x_treeBefore, x_timeouts, x_deadlines, x_events, x_eventCounts, x_watchSessions, x_watchKinds, x_watchPaths, x_partKinds, x_partPaths, x_partAs, x_partBs, x_changePaths, x_changeKinds) x := ⟨22, wx_cch_lp hT hp 21 0 rfl⟩
theorem wx_cnd_lp {post : Int32 → Prop} (hT : wt_T x_tree p w) (hp : post (nI (wt_ct (wt_nd p) 21))) : ∀ d i, i + d = 21 → wX_countNodes_4 post x_time x_partCount x_wrongAt x_changeCount x_transactions x_logStart x_snapshotStart x_placesLeft x_tree x_treeBefore x_timeouts x_deadlines x_events x_eventCounts x_watchSessions x_watchKinds x_watchPaths x_partKinds x_partPaths x_partAs x_partBs x_changePaths x_changeKinds (d + 1) (nI (wt_ct (wt_nd p) i)) (nI (7 * i)) := by
  intro d
  induction d with
  | zero =>
    intro i hi
    have e : i = 21 := by omega
    subst e
    exact br_t wt_7le hp
  | succ d ih =>
    intro i hi
    refine br_f (wt_7ge i (by omega)) ⟨wt_7in i 6 (by omega) (by omega), ?_⟩
    have hc : x_tree (nI (7 * i) + 6).toNatClampNeg = p i := by
      have q := wt_7c i 6 (by omega) (by omega)
      exact (congrArg x_tree q).trans (hT i (by omega)).1
    rw [hc]
    have hn := ih (i + 1) (by omega)
    by_cases e : p i ≤ 0
    · rw [wt_ct_f (fun z => wt_le0.mp e (of_decide_eq_true z))] at hn
      exact br_t e (nm_r (wt_7 i) hn)
    · rw [wt_ct_t (decide_eq_true (Int32.not_le.mp e))] at hn
      exact br_f e (nm_r (nI_1 _) (nm_r (wt_7 i) hn))
theorem wx_cnd {post : Int32 → Prop} (hT : wt_T x_tree p w) (hp : post (nI (wt_ct (wt_nd p) 21))) : wpX_countNodes post (x_time, x_partCount, x_wrongAt, x_changeCount, x_transactions, x_logStart, x_snapshotStart, x_placesLeft, x_tree, x_treeBefore, x_timeouts, x_deadlines, x_events, x_eventCounts, x_watchSessions, x_watchKinds, x_watchPaths, x_partKinds, x_partPaths, x_partAs, x_partBs, x_changePaths, x_changeKinds) := ⟨22, wx_cnd_lp hT hp 21 0 rfl⟩
end
end
section
theorem wt_rem101 {a : Nat} (h : a < 2 ^ 31) : nI a - nI a / 101 * 101 = nI (a % 101) := by
  rw [wt_101, pk_rem h (by decide) (by decide)]
theorem wx_isPath_lp {post : Int32 → Prop} : ∀ d i a, i + d = 3 → a < 101 ^ d → a < 2 ^ 31 → post (wt_b (wt_ok d a)) → wX_isPath_16 post (d + 1) (nI a) (nI i) := by
  intro d
  induction d with
  | zero =>
    intro i a hi h1 h2 hp
    have e : i = 3 := by omega
    have e2 : a = 0 := by simp at h1; exact h1
    subst e; subst e2
    exact br_t (nI_le (a := 3) (b := 3) (by omega) (by omega)) hp
  | succ d ih =>
    intro i a hi h1 h2 hp
    refine br_f (nI_ge (b := 3) (by omega) (by omega)) ?_
    by_cases z : a = 0
    · subst z
      rw [wt_ok_0] at hp
      exact br_t rfl hp
    · refine br_f (nI_ne0 (by omega) h2) ⟨wt_ne101, ?_⟩
      rw [wt_rem101 h2]
      by_cases y : a % 101 = 0
      · rw [wt_ok_f z y] at hp
        rw [y]
        exact br_t rfl hp
      · rw [wt_ok_s z y] at hp
        have h3 : 101 ^ (d + 1) = 101 ^ d * 101 := Nat.pow_succ _ _
        refine br_f (nI_ne0 (by omega) (by omega)) ⟨wt_ne101, nm_r (wt_d101 h2) (nm_r (nI_1 i) (ih (i + 1) (a / 101) (by omega) ?_ (by omega) hp))⟩
        exact (Nat.div_lt_iff_lt_mul (by decide)).mpr (by omega)
theorem wx_isPath {post : Int32 → Prop} {x : Int32} (hp : post (wt_b (wt_ip x))) : wpX_isPath post x := by
  by_cases z : x < 0
  · rw [wt_ip_neg z] at hp
    exact br_t z hp
  · obtain ⟨a, ha, rfl⟩ := nI_of z
    refine br_f z ?_
    rw [wt_ip_nI ha] at hp
    have h3 : 101 ^ 3 = 1030301 := by decide
    by_cases y : a ≤ 1030300
    · exact br_t (nI_le (b := 1030300) y (by omega)) ⟨4, wx_isPath_lp 3 0 a rfl (by omega) ha hp⟩
    · rw [wt_ok_big 3 a (by omega)] at hp
      exact br_f (nI_ge (a := 1030300) (by omega) (by omega)) hp
theorem wx_isPath_t {post : Int32 → Prop} {x : Int32} (h : wt_ip x = true) (hp : post 1) : wpX_isPath post x := wx_isPath (by rw [h]; exact hp)
theorem wx_isPath_f {post : Int32 → Prop} {x : Int32} (h : ¬ wt_ip x = true) (hp : post 0) : wpX_isPath post x := wx_isPath (by rw [Bool.not_eq_true] at h; rw [h]; exact hp)
theorem wy_isPath_lp {post : Int32 → Prop} : ∀ d i a, i + d = 3 → a < 2 ^ 31 → post (wt_b (wt_ok d a)) → wY_isPath_4 post (d + 1) (nI a) (nI i) := by
  intro d
  induction d with
  | zero =>
    intro i a hi h2 hp
    have e : i = 3 := by omega
    subst e
    refine br_t (nI_le (a := 3) (b := 3) (by omega) (by omega)) ?_
    by_cases z : a = 0
    · subst z; exact br_t rfl hp
    · have q : wt_ok 0 a = false := decide_eq_false z
      rw [q] at hp
      exact br_f (nI_ne0 (by omega) h2) hp
  | succ d ih =>
    intro i a hi h2 hp
    refine br_f (nI_ge (b := 3) (by omega) (by omega)) ?_
    by_cases z : a = 0
    · subst z
      rw [wt_ok_0] at hp
      exact br_t (by decide) (br_t rfl hp)
    · refine br_f (nI_nle (by omega) h2) ⟨wt_ne101, ?_⟩
      rw [wt_rem101 h2]
      by_cases y : a % 101 = 0
      · rw [wt_ok_f z y] at hp
        rw [y]
        exact br_t rfl hp
      · rw [wt_ok_s z y] at hp
        exact br_f (nI_ne0 (by omega) (by omega)) ⟨wt_ne101, nm_r (wt_d101 h2) (nm_r (nI_1 i) (ih (i + 1) (a / 101) (by omega) (by omega) hp))⟩
theorem wy_isPath {post : Int32 → Prop} {x : Int32} (hp : post (wt_b (wt_ip x))) : wpY_isPath post x := by
  by_cases z : x < 0
  · rw [wt_ip_neg z] at hp
    have hle : x ≤ 0 := Int32.le_of_lt z
    have hne : ¬ x = 0 := fun y => absurd (y ▸ z : (0 : Int32) < 0) (by decide)
    exact ⟨1, br_f (by decide) (br_t hle (br_f hne hp))⟩
  · obtain ⟨a, ha, rfl⟩ := nI_of z
    rw [wt_ip_nI ha] at hp
    exact ⟨4, wy_isPath_lp 3 0 a rfl ha hp⟩
theorem wy_isPath_t {post : Int32 → Prop} {x : Int32} (h : wt_ip x = true) (hp : post 1) : wpY_isPath post x := wy_isPath (by rw [h]; exact hp)
theorem wy_isPath_f {post : Int32 → Prop} {x : Int32} (h : ¬ wt_ip x = true) (hp : post 0) : wpY_isPath post x := wy_isPath (by rw [Bool.not_eq_true] at h; rw [h]; exact hp)
theorem wx_flags_t {post : Int32 → Prop} {f : Nat} (h : f ≤ 3) (hp : post 1) : wpX_areFlags post (nI f) := br_f (nI_pos (by omega)) (br_f (nI_nlt (a := 3) (by omega) (by omega)) hp)
theorem wx_flags_f {post : Int32 → Prop} {v : Int32} (h : ∀ f, f ≤ 3 → ¬ v = nI f) (hp : post 0) : wpX_areFlags post v := by
  refine br_c (fun _ => hp) (fun z => br_c (fun _ => hp) (fun y => ?_))
  obtain ⟨a, ha, rfl⟩ := nI_of z
  have q : ¬ nI 3 < nI a := y
  rw [nI_ltI (by omega) ha] at q
  exact absurd rfl (h a (by omega))
/-- a session's number is that of an open one, or of none -/
theorem wt_cases {B : Nat} {xt xd yo yt yd : Nat → Int32} (h : wt_S B xt xd yo yt yd) (v : Int32) : (∃ s, s < 4 ∧ v = nI s ∧ yo s = 1 ∧ ¬ xt s = 0) ∨ ((∀ s, s < 4 → v = nI s → xt s = 0) ∧ (∀ s, s < 4 → v = nI s → yo s = 0)) := by
  by_cases e : ∃ s, s < 4 ∧ v = nI s ∧ yo s = 1
  · obtain ⟨s, a, b, c⟩ := e
    refine Or.inl ⟨s, a, b, c, fun z => ?_⟩
    rw [wt_S_xt h a, c] at z
    exact absurd z (by decide)
  · have q : ∀ s, s < 4 → v = nI s → yo s = 0 := fun s a b => by
      rcases wt_S_o h a with c | c
      · exact absurd ⟨s, a, b, c⟩ e
      · exact c
    exact Or.inr ⟨fun s a b => (wt_S_xt h a).mpr (q s a b), q⟩
section
variable {x_time x_partCount x_wrongAt x_changeCount x_transactions x_logStart x_snapshotStart x_placesLeft : Int32} {x_tree x_treeBefore x_timeouts x_deadlines x_events x_eventCounts x_watchSessions x_watchKinds x_watchPaths x_partKinds x_partPaths x_partAs x_partBs x_changePaths x_changeKinds : Nat → Int32}
theorem wx_open_t {post : Int32 → Prop} {s : Nat} (hs : s < 4) (h : ¬ x_timeouts s = 0) (hp : post 1) : wpX_isOpen post (x_time, x_partCount, x_wrongAt, x_changeCount, x_transactions, x_logStart, x_snapshotStart, x_placesLeft, x_tree, x_treeBefore, x_timeouts, x_deadlines, x_events, x_eventCounts, x_watchSessions, x_watchKinds, x_watchPaths, x_partKinds, x_partPaths, x_partAs, x_partBs, x_changePaths, x_changeKinds) (nI s) :=
  br_f (nI_pos (by omega)) (br_f (nI_ge (b := 4) hs (by omega)) ⟨vp_in_nI hs (by omega), br_f (by rw [nI_clamp (by omega)]; exact h) hp⟩)
theorem wx_open_f {post : Int32 → Prop} {v : Int32} (h : ∀ s, s < 4 → v = nI s → x_timeouts s = 0) (hp : post 0) : wpX_isOpen post (x_time, x_partCount, x_wrongAt, x_changeCount, x_transactions, x_logStart, x_snapshotStart, x_placesLeft, x_tree, x_treeBefore, x_timeouts, x_deadlines, x_events, x_eventCounts, x_watchSessions, x_watchKinds, x_watchPaths, x_partKinds, x_partPaths, x_partAs, x_partBs, x_changePaths, x_changeKinds) v := by
  rcases pk_ix v (n := 4) (by omega) with a | a | ⟨j, hj, e⟩
  · exact br_t a hp
  · exact br_c (fun _ => hp) (fun _ => br_t a hp)
  · subst e
    exact br_f (nI_pos (by omega)) (br_f (nI_ge (b := 4) hj (by omega)) ⟨vp_in_nI hj (by omega), br_t (by rw [nI_clamp (by omega)]; exact h j hj rfl) hp⟩)
theorem wx_least_lp {post : Int32 → Prop} : ∀ d i, i + d = 4 → post (if wt_fs (fun k => decide (x_timeouts k = 0)) d i < 4 then nI (wt_fs (fun k => decide (x_timeouts k = 0)) d i) else -1) → wX_leastNotOpen_2 post x_time x_partCount x_wrongAt x_changeCount x_transactions x_logStart x_snapshotStart x_placesLeft x_tree x_treeBefore x_timeouts x_deadlines x_events x_eventCounts x_watchSessions x_watchKinds x_watchPaths x_partKinds x_partPaths x_partAs x_partBs x_changePaths x_changeKinds (d + 1) (nI i) := by
  intro d
  induction d with
  | zero =>
    intro i hi hp
    have e : i = 4 := by omega
    subst e
    exact br_t (nI_le (a := 4) (b := 4) (by omega) (by omega)) hp
  | succ d ih =>
    intro i hi hp
    refine br_f (nI_ge (b := 4) (by omega) (by omega)) ⟨vp_in_nI (by omega) (by omega), ?_⟩
    rw [nI_clamp (by omega)]
    by_cases e : x_timeouts i = 0
    · rw [wt_fs_t (decide_eq_true e), if_pos (by omega)] at hp
      exact br_t e hp
    · rw [wt_fs_f (fun z => e (of_decide_eq_true z))] at hp
      exact br_f e (nm_r (nI_1 i) (ih (i + 1) (by omega) hp))
theorem wx_least {post : Int32 → Prop} (hp : post (if wt_fs (fun k => decide (x_timeouts k = 0)) 4 0 < 4 then nI (wt_fs (fun k => decide (x_timeouts k = 0)) 4 0) else -1)) : wpX_leastNotOpen post (x_time, x_partCount, x_wrongAt, x_changeCount, x_transactions, x_logStart, x_snapshotStart, x_placesLeft, x_tree, x_treeBefore, x_timeouts, x_deadlines, x_events, x_eventCounts, x_watchSessions, x_watchKinds, x_watchPaths, x_partKinds, x_partPaths, x_partAs, x_partBs, x_changePaths, x_changeKinds) := ⟨5, wx_least_lp 4 0 rfl hp⟩
theorem wx_has_lp {post : Int32 → Prop} {s k q : Int32} : ∀ d i, i + d = 16 → post (wt_b (decide (wt_fs (fun j => decide (x_watchSessions j = s ∧ x_watchKinds j = k ∧ x_watchPaths j = q)) d i < 16))) → wX_hasWatch_3 post s k q x_time x_partCount x_wrongAt x_changeCount x_transactions x_logStart x_snapshotStart x_placesLeft x_tree x_treeBefore x_timeouts x_deadlines x_events x_eventCounts x_watchSessions x_watchKinds x_watchPaths x_partKinds x_partPaths x_partAs x_partBs x_changePaths x_changeKinds (d + 1) (nI i) := by
  intro d
  induction d with
  | zero =>
    intro i hi hp
    have e : i = 16 := by omega
    subst e
    exact br_t (nI_le (a := 16) (b := 16) (by omega) (by omega)) hp
  | succ d ih =>
    intro i hi hp
    have c : (nI i).toNatClampNeg = i := nI_clamp (by omega)
    have vi : vp_in (nI i) 16 := vp_in_nI (by omega) (by omega)
    refine br_f (nI_ge (b := 16) (by omega) (by omega)) ⟨vi, ?_⟩
    rw [c]
    by_cases e : x_watchSessions i = s ∧ x_watchKinds i = k ∧ x_watchPaths i = q
    · have t : wt_fs (fun j => decide (x_watchSessions j = s ∧ x_watchKinds j = k ∧ x_watchPaths j = q)) (d + 1) i < 16 := by
        rw [wt_fs_t (decide_eq_true e)]; omega
      rw [decide_eq_true t] at hp
      exact br_t e.1 ⟨vi, br_t e.2.1 ⟨vi, br_t e.2.2 hp⟩⟩
    · rw [wt_fs_f (fun z => e (of_decide_eq_true z))] at hp
      have hn := ih (i + 1) (by omega) hp
      refine br_c (fun e1 => ⟨vi, br_c (fun e2 => ⟨vi, br_f (fun e3 => e ⟨e1, e2, e3⟩) (nm_r (nI_1 i) hn)⟩) (fun _ => nm_r (nI_1 i) hn)⟩) (fun _ => nm_r (nI_1 i) hn)
theorem wx_has {post : Int32 → Prop} {s k q : Int32} (hp : post (wt_b (decide (wt_fs (fun j => decide (x_watchSessions j = s ∧ x_watchKinds j = k ∧ x_watchPaths j = q)) 16 0 < 16)))) : wpX_hasWatch post (x_time, x_partCount, x_wrongAt, x_changeCount, x_transactions, x_logStart, x_snapshotStart, x_placesLeft, x_tree, x_treeBefore, x_timeouts, x_deadlines, x_events, x_eventCounts, x_watchSessions, x_watchKinds, x_watchPaths, x_partKinds, x_partPaths, x_partAs, x_partBs, x_changePaths, x_changeKinds) s k q := ⟨17, wx_has_lp 16 0 rfl hp⟩
theorem wx_ffw_lp {post : Int32 → Prop} : ∀ d i, i + d = 16 → post (if wt_fs (fun j => decide (x_watchSessions j = -1)) d i < 16 then nI (wt_fs (fun j => decide (x_watchSessions j = -1)) d i) else -1) → wX_findFreeWatch_2 post x_time x_partCount x_wrongAt x_changeCount x_transactions x_logStart x_snapshotStart x_placesLeft x_tree x_treeBefore x_timeouts x_deadlines x_events x_eventCounts x_watchSessions x_watchKinds x_watchPaths x_partKinds x_partPaths x_partAs x_partBs x_changePaths x_changeKinds (d + 1) (nI i) := by
  intro d
  induction d with
  | zero =>
    intro i hi hp
    have e : i = 16 := by omega
    subst e
    exact br_t (nI_le (a := 16) (b := 16) (by omega) (by omega)) hp
  | succ d ih =>
    intro i hi hp
    refine br_f (nI_ge (b := 16) (by omega) (by omega)) ⟨vp_in_nI (by omega) (by omega), ?_⟩
    rw [nI_clamp (by omega)]
    by_cases e : x_watchSessions i = -1
    · rw [wt_fs_t (decide_eq_true e), if_pos (by omega)] at hp
      exact br_t e hp
    · rw [wt_fs_f (fun z => e (of_decide_eq_true z))] at hp
      exact br_f e (nm_r (nI_1 i) (ih (i + 1) (by omega) hp))
theorem wx_ffw {post : Int32 → Prop} (hp : post (if wt_fs (fun j => decide (x_watchSessions j = -1)) 16 0 < 16 then nI (wt_fs (fun j => decide (x_watchSessions j = -1)) 16 0) else -1)) : wpX_findFreeWatch post (x_time, x_partCount, x_wrongAt, x_changeCount, x_transactions, x_logStart, x_snapshotStart, x_placesLeft, x_tree, x_treeBefore, x_timeouts, x_deadlines, x_events, x_eventCounts, x_watchSessions, x_watchKinds, x_watchPaths, x_partKinds, x_partPaths, x_partAs, x_partBs, x_changePaths, x_changeKinds) := ⟨17, wx_ffw_lp 16 0 rfl hp⟩
theorem wx_watches_lp {post : Int32 → Prop} (hp : post (nI (wt_ct (fun j => decide (¬ x_watchSessions j = -1)) 16))) : ∀ d i, i + d = 16 → wX_watches_4 post x_time x_partCount x_wrongAt x_changeCount x_transactions x_logStart x_snapshotStart x_placesLeft x_tree x_treeBefore x_timeouts x_deadlines x_events x_eventCounts x_watchSessions x_watchKinds x_watchPaths x_partKinds x_partPaths x_partAs x_partBs x_changePaths x_changeKinds (d + 1) (nI (wt_ct (fun j => decide (¬ x_watchSessions j = -1)) i)) (nI i) := by
  intro d
  induction d with
  | zero =>
    intro i hi
    have e : i = 16 := by omega
    subst e
    exact br_t (nI_le (a := 16) (b := 16) (by omega) (by omega)) hp
  | succ d ih =>
    intro i hi
    refine br_f (nI_ge (b := 16) (by omega) (by omega)) ⟨vp_in_nI (by omega) (by omega), ?_⟩
    rw [nI_clamp (by omega)]
    have hn := ih (i + 1) (by omega)
    by_cases e : x_watchSessions i = -1
    · rw [wt_ct_f (fun z => (of_decide_eq_true z) e)] at hn
      exact br_t e (nm_r (nI_1 i) hn)
    · rw [wt_ct_t (decide_eq_true e)] at hn
      exact br_f e (nm_r (nI_1 _) (nm_r (nI_1 i) hn))
theorem wx_watches {post : Int32 → Prop} (hp : post (nI (wt_ct (fun j => decide (¬ x_watchSessions j = -1)) 16))) : wpX_watches post (x_time, x_partCount, x_wrongAt, x_changeCount, x_transactions, x_logStart, x_snapshotStart, x_placesLeft, x_tree, x_treeBefore, x_timeouts, x_deadlines, x_events, x_eventCounts, x_watchSessions, x_watchKinds, x_watchPaths, x_partKinds, x_partPaths, x_partAs, x_partBs, x_changePaths, x_changeKinds) := ⟨17, wx_watches_lp hp 16 0 rfl⟩
end
end
section
theorem wt_6j (i j : Nat) : (6 : Int32) * nI i + nI j = nI (6 * i + j) := by
  have e : (6 : Int32) * nI i = nI (6 * i) := pk_mul 6 i
  rw [e, nI_add]
theorem wt_60 (i : Nat) : (6 : Int32) * nI i = nI (6 * i) := pk_mul 6 i
theorem wt_6c (i j : Nat) (hi : i < 21) (hj : j < 6) : ((6 : Int32) * nI i + nI j).toNatClampNeg = 6 * i + j := by
  rw [wt_6j]; exact nI_clamp (by omega)
theorem wt_6in (i j : Nat) (hi : i < 21) (hj : j < 6) : vp_in ((6 : Int32) * nI i + nI j) 252 := by
  rw [wt_6j]; exact vp_in_nI (by omega) (by omega)
theorem wt_6c0 (i : Nat) (hi : i < 21) : ((6 : Int32) * nI i).toNatClampNeg = 6 * i := by
  rw [wt_60]; exact nI_clamp (by omega)
theorem wt_6in0 (i : Nat) (hi : i < 21) : vp_in ((6 : Int32) * nI i) 252 := by
  rw [wt_60]; exact vp_in_nI (by omega) (by omega)
theorem wt_21le : (21 : Int32) ≤ nI 21 := nI_le (a := 21) (b := 21) (by omega) (by omega)
theorem wt_21ge (i : Nat) (hi : i < 21) : ¬ (21 : Int32) ≤ nI i := nI_ge (b := 21) (by omega) (by omega)
theorem wt_lt_ge {x : Int32} (h : ¬ x < 0) : 0 ≤ x := Int32.not_lt.mp h
section
variable {y_time y_last y_watchCount y_partCount y_wrong y_changes y_log y_since y_placesLeft : Int32} {y_paths y_values y_open y_timeouts y_deadlines y_events y_eventCounts y_watchers y_watchKinds y_watchPaths y_parts y_happened y_how : Nat → Int32}
theorem wy_find_lp {post : Int32 → Prop} {x : Int32} (hx : ¬ x < 0) : ∀ d i, i + d = 21 → post (wt_r 1 (wt_fs (fun k => decide (y_paths k = x)) d i)) → wY_find_2 post x y_time y_last y_watchCount y_partCount y_wrong y_changes y_log y_since y_placesLeft y_paths y_values y_open y_timeouts y_deadlines y_events y_eventCounts y_watchers y_watchKinds y_watchPaths y_parts y_happened y_how (d + 1) (nI i) := by
  intro d
  induction d with
  | zero =>
    intro i hi hp
    have e : i = 21 := by omega
    subst e
    exact br_t wt_21le hp
  | succ d ih =>
    intro i hi hp
    refine br_f (wt_21ge i (by omega)) ⟨vp_in_nI (by omega) (by omega), ?_⟩
    rw [nI_clamp (by omega)]
    by_cases e : y_paths i = x
    · rw [wt_fs_t (decide_eq_true e), wt_r_t (by omega), Nat.one_mul] at hp
      exact br_t e (br_f hx hp)
    · rw [wt_fs_f (fun z => e (of_decide_eq_true z))] at hp
      exact br_f e (nm_r (nI_1 i) (ih (i + 1) (by omega) hp))
theorem wy_find_ng {post : Int32 → Prop} {x : Int32} (hx : x < 0) (hp : post (-1)) : ∀ d i, i + d = 21 → wY_find_2 post x y_time y_last y_watchCount y_partCount y_wrong y_changes y_log y_since y_placesLeft y_paths y_values y_open y_timeouts y_deadlines y_events y_eventCounts y_watchers y_watchKinds y_watchPaths y_parts y_happened y_how (d + 1) (nI i) := by
  intro d
  induction d with
  | zero =>
    intro i hi
    have e : i = 21 := by omega
    subst e
    exact br_t wt_21le hp
  | succ d ih =>
    intro i hi
    have hn := ih (i + 1) (by omega)
    refine br_f (wt_21ge i (by omega)) ⟨vp_in_nI (by omega) (by omega), br_c (fun _ => br_t hx (nm_r (nI_1 i) hn)) (fun _ => nm_r (nI_1 i) hn)⟩
theorem wy_find {post : Int32 → Prop} {x : Int32} (hp : post (wt_r 1 (wt_fd y_paths x))) : wpY_find post (y_time, y_last, y_watchCount, y_partCount, y_wrong, y_changes, y_log, y_since, y_placesLeft, y_paths, y_values, y_open, y_timeouts, y_deadlines, y_events, y_eventCounts, y_watchers, y_watchKinds, y_watchPaths, y_parts, y_happened, y_how) x := by
  by_cases z : x < 0
  · rw [wt_fd_neg z] at hp
    exact ⟨22, wy_find_ng z hp 21 0 rfl⟩
  · rw [wt_fd_pos z] at hp
    exact ⟨22, wy_find_lp z 21 0 rfl hp⟩
theorem wy_find_t {post : Int32 → Prop} {x : Int32} (h : wt_fd y_paths x < 21) (hp : post (nI (wt_fd y_paths x))) : wpY_find post (y_time, y_last, y_watchCount, y_partCount, y_wrong, y_changes, y_log, y_since, y_placesLeft, y_paths, y_values, y_open, y_timeouts, y_deadlines, y_events, y_eventCounts, y_watchers, y_watchKinds, y_watchPaths, y_parts, y_happened, y_how) x := wy_find (by rw [wt_r_t h, Nat.one_mul]; exact hp)
theorem wy_find_f {post : Int32 → Prop} {x : Int32} (h : ¬ wt_fd y_paths x < 21) (hp : post (-1)) : wpY_find post (y_time, y_last, y_watchCount, y_partCount, y_wrong, y_changes, y_log, y_since, y_placesLeft, y_paths, y_values, y_open, y_timeouts, y_deadlines, y_events, y_eventCounts, y_watchers, y_watchKinds, y_watchPaths, y_parts, y_happened, y_how) x := wy_find (by rw [wt_r_f h]; exact hp)
theorem wy_open_t {post : Int32 → Prop} {s : Nat} (hs : s < 4) (h : y_open s = 1) (hp : post 1) : wpY_isOpen post (y_time, y_last, y_watchCount, y_partCount, y_wrong, y_changes, y_log, y_since, y_placesLeft, y_paths, y_values, y_open, y_timeouts, y_deadlines, y_events, y_eventCounts, y_watchers, y_watchKinds, y_watchPaths, y_parts, y_happened, y_how) (nI s) :=
  br_f (nI_pos (by omega)) (br_f (nI_ge (b := 4) hs (by omega)) ⟨vp_in_nI hs (by omega), br_f (by rw [nI_clamp (by omega), h]; decide) hp⟩)
theorem wy_open_f {post : Int32 → Prop} {v : Int32} (h : ∀ s, s < 4 → v = nI s → y_open s = 0) (hp : post 0) : wpY_isOpen post (y_time, y_last, y_watchCount, y_partCount, y_wrong, y_changes, y_log, y_since, y_placesLeft, y_paths, y_values, y_open, y_timeouts, y_deadlines, y_events, y_eventCounts, y_watchers, y_watchKinds, y_watchPaths, y_parts, y_happened, y_how) v := by
  rcases pk_ix v (n := 4) (by omega) with a | a | ⟨j, hj, e⟩
  · exact br_t a hp
  · exact br_c (fun _ => hp) (fun _ => br_t a hp)
  · subst e
    exact br_f (nI_pos (by omega)) (br_f (nI_ge (b := 4) hj (by omega)) ⟨vp_in_nI hj (by omega), br_t (by rw [nI_clamp (by omega)]; exact h j hj rfl) hp⟩)
theorem wy_many_lp {post : Int32 → Prop} (hI : wt_I y_paths y_values) (hp : post (nI (wt_ct (wt_nd y_paths) 21))) : ∀ d i, 1 ≤ i → i + d = 21 → wY_many_4 post y_time y_last y_watchCount y_partCount y_wrong y_changes y_log y_since y_placesLeft y_paths y_values y_open y_timeouts y_deadlines y_events y_eventCounts y_watchers y_watchKinds y_watchPaths y_parts y_happened y_how (d + 1) (nI (wt_ct (wt_nd y_paths) i)) (nI i) := by
  intro d
  induction d with
  | zero =>
    intro i _ hi
    have e : i = 21 := by omega
    subst e
    exact br_t wt_21le hp
  | succ d ih =>
    intro i h1 hi
    refine br_f (wt_21ge i (by omega)) ⟨vp_in_nI (by omega) (by omega), ?_⟩
    rw [nI_clamp (by omega)]
    have hn := ih (i + 1) (by omega) (by omega)
    by_cases e : y_paths i < 0
    · rw [wt_ct_f (fun z => Int32.lt_asymm e (of_decide_eq_true z))] at hn
      exact br_t e (nm_r (nI_1 i) hn)
    · rw [wt_ct_t (decide_eq_true ((wt_I_ge hI h1 (by omega)).mp (wt_lt_ge e)))] at hn
      exact br_f e (nm_r (nI_1 _) (nm_r (nI_1 i) hn))
theorem wt_nd0 {p w : Nat → Int32} (hI : wt_I p w) : ¬ wt_nd p 0 = true := fun z => wt_I_0 hI (of_decide_eq_true z)
theorem wt_ch0 {p w : Nat → Int32} {x : Int32} (hI : wt_I p w) : ¬ wt_ch p x 0 = true := fun z => wt_I_0 hI (of_decide_eq_true z).1
theorem wy_many {post : Int32 → Prop} (hI : wt_I y_paths y_values) (hp : post (nI (wt_ct (wt_nd y_paths) 21))) : wpY_many post (y_time, y_last, y_watchCount, y_partCount, y_wrong, y_changes, y_log, y_since, y_placesLeft, y_paths, y_values, y_open, y_timeouts, y_deadlines, y_events, y_eventCounts, y_watchers, y_watchKinds, y_watchPaths, y_parts, y_happened, y_how) := by
  have h := wy_many_lp (post := post) (y_time := y_time) (y_last := y_last) (y_watchCount := y_watchCount) (y_partCount := y_partCount) (y_wrong := y_wrong) (y_changes := y_changes) (y_log := y_log) (y_since := y_since) (y_placesLeft := y_placesLeft) (y_paths := y_paths) (y_values := y_values) (y_open := y_open) (y_timeouts := y_timeouts) (y_deadlines := y_deadlines) (y_events := y_events) (y_eventCounts := y_eventCounts) (y_watchers := y_watchers) (y_watchKinds := y_watchKinds) (y_watchPaths := y_watchPaths) (y_parts := y_parts) (y_happened := y_happened) (y_how := y_how) hI hp 20 1 (by omega) rfl
  rw [wt_ct_f (wt_nd0 hI)] at h
  exact ⟨21, h⟩
theorem wy_chi_lp {post : Int32 → Prop} {x : Int32} (hI : wt_I y_paths y_values) (hp : post (nI (wt_ct (wt_ch y_paths x) 21))) : ∀ d i, 1 ≤ i → i + d = 21 → wY_childrenOf_4 post x y_time y_last y_watchCount y_partCount y_wrong y_changes y_log y_since y_placesLeft y_paths y_values y_open y_timeouts y_deadlines y_events y_eventCounts y_watchers y_watchKinds y_watchPaths y_parts y_happened y_how (d + 1) (nI (wt_ct (wt_ch y_paths x) i)) (nI i) := by
  intro d
  induction d with
  | zero =>
    intro i _ hi
    have e : i = 21 := by omega
    subst e
    exact br_t wt_21le hp
  | succ d ih =>
    intro i h1 hi
    refine br_f (wt_21ge i (by omega)) ⟨vp_in_nI (by omega) (by omega), ?_⟩
    rw [nI_clamp (by omega)]
    have hn := ih (i + 1) (by omega) (by omega)
    by_cases e : y_paths i < 0
    · rw [wt_ct_f (fun z => Int32.lt_asymm e (of_decide_eq_true z).1)] at hn
      exact br_t e (nm_r (nI_1 i) hn)
    · refine br_f e ⟨vp_in_nI (by omega) (by omega), wt_ne101, ?_⟩
      by_cases f : y_paths i / 101 = x
      · rw [wt_ct_t (decide_eq_true ⟨(wt_I_ge hI h1 (by omega)).mp (wt_lt_ge e), f⟩)] at hn
        exact br_t f (nm_r (nI_1 _) (nm_r (nI_1 i) hn))
      · rw [wt_ct_f (fun z => f (of_decide_eq_true z).2)] at hn
        exact br_f f (nm_r (nI_1 i) hn)
theorem wy_chi {post : Int32 → Prop} {x : Int32} (hI : wt_I y_paths y_values) (hp : post (nI (wt_ct (wt_ch y_paths x) 21))) : wpY_childrenOf post (y_time, y_last, y_watchCount, y_partCount, y_wrong, y_changes, y_log, y_since, y_placesLeft, y_paths, y_values, y_open, y_timeouts, y_deadlines, y_events, y_eventCounts, y_watchers, y_watchKinds, y_watchPaths, y_parts, y_happened, y_how) x := by
  have h := wy_chi_lp (post := post) (x := x) (y_time := y_time) (y_last := y_last) (y_watchCount := y_watchCount) (y_partCount := y_partCount) (y_wrong := y_wrong) (y_changes := y_changes) (y_log := y_log) (y_since := y_since) (y_placesLeft := y_placesLeft) (y_paths := y_paths) (y_values := y_values) (y_open := y_open) (y_timeouts := y_timeouts) (y_deadlines := y_deadlines) (y_events := y_events) (y_eventCounts := y_eventCounts) (y_watchers := y_watchers) (y_watchKinds := y_watchKinds) (y_watchPaths := y_watchPaths) (y_parts := y_parts) (y_happened := y_happened) (y_how := y_how) hI hp 20 1 (by omega) rfl
  rw [wt_ct_f (wt_ch0 hI)] at h
  exact ⟨21, h⟩
theorem wy_owned_lp {post : Int32 → Prop} {s : Int32} (hI : wt_I y_paths y_values) (hp : post (wt_r 1 (wt_ow y_paths y_values s 21))) : ∀ d i, 1 ≤ i → i + d = 21 → wY_owned_4 post s y_time y_last y_watchCount y_partCount y_wrong y_changes y_log y_since y_placesLeft y_paths y_values y_open y_timeouts y_deadlines y_events y_eventCounts y_watchers y_watchKinds y_watchPaths y_parts y_happened y_how (d + 1) (wt_r 1 (wt_ow y_paths y_values s i)) (nI i) := by
  intro d
  induction d with
  | zero =>
    intro i _ hi
    have e : i = 21 := by omega
    subst e
    exact br_t wt_21le hp
  | succ d ih =>
    intro i h1 hi
    have vi : vp_in (nI i) 42 := vp_in_nI (by omega) (by omega)
    have ci : (nI i).toNatClampNeg = i := nI_clamp (by omega)
    have c5 : y_values ((6 : Int32) * nI i + 5).toNatClampNeg = y_values (6 * i + 5) := congrArg y_values (wt_6c i 5 (by omega) (by omega))
    refine br_f (wt_21ge i (by omega)) ⟨vi, ?_⟩
    rw [ci]
    have hn := ih (i + 1) (by omega) (by omega)
    by_cases e : y_paths i < 0
    · have k : wt_ow y_paths y_values s (i + 1) = wt_ow y_paths y_values s i := wt_ow_f (fun z => Int32.lt_asymm e z.2.1)
      rw [k] at hn
      exact br_t e (nm_r (nI_1 i) hn)
    · have pos := (wt_I_ge hI h1 (by omega)).mp (wt_lt_ge e)
      refine br_f e ⟨wt_6in i 5 (by omega) (by omega), ?_⟩
      rw [c5]
      by_cases f : y_values (6 * i + 5) = s
      · refine br_t f ?_
        have g1 : wt_r 1 i = nI i := by rw [wt_r_t (by omega), Nat.one_mul]
        rcases wt_ow_spec y_paths y_values s i (by omega) with ⟨q, _⟩ | ⟨q, _, _⟩
        · have k : wt_ow y_paths y_values s (i + 1) = i := wt_ow_t ⟨f, pos, Or.inl q⟩
          rw [k, g1] at hn
          rw [q]
          exact br_t (by decide) (nm_r (nI_1 i) hn)
        · have g2 : wt_r 1 (wt_ow y_paths y_values s i) = nI (wt_ow y_paths y_values s i) := by rw [wt_r_t (by omega), Nat.one_mul]
          rw [g2]
          refine br_f (nI_pos (by omega)) ⟨vi, vp_in_nI (by omega) (by omega), ?_⟩
          rw [nI_clamp (n := wt_ow y_paths y_values s i) (by omega)]
          by_cases l : y_paths i ≤ y_paths (wt_ow y_paths y_values s i)
          · have k : wt_ow y_paths y_values s (i + 1) = wt_ow y_paths y_values s i := wt_ow_f (fun z => by
              rcases z.2.2 with y | y
              · omega
              · exact Int32.not_le.mpr y l)
            rw [k, g2] at hn
            exact br_t l (nm_r (nI_1 i) hn)
          · have k : wt_ow y_paths y_values s (i + 1) = i := wt_ow_t ⟨f, pos, Or.inr (Int32.not_le.mp l)⟩
            rw [k, g1] at hn
            exact br_f l (nm_r (nI_1 i) hn)
      · have k : wt_ow y_paths y_values s (i + 1) = wt_ow y_paths y_values s i := wt_ow_f (fun z => f z.1)
        rw [k] at hn
        exact br_f f (nm_r (nI_1 i) hn)
theorem wy_owned {post : Int32 → Prop} {s : Int32} (hI : wt_I y_paths y_values) (hp : post (wt_r 1 (wt_ow y_paths y_values s 21))) : wpY_owned post (y_time, y_last, y_watchCount, y_partCount, y_wrong, y_changes, y_log, y_since, y_placesLeft, y_paths, y_values, y_open, y_timeouts, y_deadlines, y_events, y_eventCounts, y_watchers, y_watchKinds, y_watchPaths, y_parts, y_happened, y_how) s := by
  have h := wy_owned_lp (post := post) (s := s) (y_time := y_time) (y_last := y_last) (y_watchCount := y_watchCount) (y_partCount := y_partCount) (y_wrong := y_wrong) (y_changes := y_changes) (y_log := y_log) (y_since := y_since) (y_placesLeft := y_placesLeft) (y_paths := y_paths) (y_values := y_values) (y_open := y_open) (y_timeouts := y_timeouts) (y_deadlines := y_deadlines) (y_events := y_events) (y_eventCounts := y_eventCounts) (y_watchers := y_watchers) (y_watchKinds := y_watchKinds) (y_watchPaths := y_watchPaths) (y_parts := y_parts) (y_happened := y_happened) (y_how := y_how) hI hp 20 1 (by omega) rfl
  have k : wt_ow y_paths y_values s 1 = 21 := wt_ow_f (fun z => wt_I_0 hI z.2.1)
  rw [k] at h
  exact ⟨21, h⟩
theorem wy_done {post : SY → Prop} (hp : post (y_time, (y_last + 1), y_watchCount, y_partCount, y_wrong, y_changes, (y_log + 1), (y_since + 1), y_placesLeft, y_paths, y_values, y_open, y_timeouts, y_deadlines, y_events, y_eventCounts, y_watchers, y_watchKinds, y_watchPaths, y_parts, y_happened, y_how)) : wpY_done post (y_time, y_last, y_watchCount, y_partCount, y_wrong, y_changes, y_log, y_since, y_placesLeft, y_paths, y_values, y_open, y_timeouts, y_deadlines, y_events, y_eventCounts, y_watchers, y_watchKinds, y_watchPaths, y_parts, y_happened, y_how) := nm_e (nm_e (nm_e hp))
theorem wy_note {post : SY → Prop} {c : Nat} {x k : Int32} (hc : c < 21) (hp : post (y_time, y_last, y_watchCount, y_partCount, y_wrong, (nI (c + 1)), y_log, y_since, y_placesLeft, y_paths, y_values, y_open, y_timeouts, y_deadlines, y_events, y_eventCounts, y_watchers, y_watchKinds, y_watchPaths, y_parts, (upd y_happened c x), (upd y_how c k))) : wpY_note post (y_time, y_last, y_watchCount, y_partCount, y_wrong, (nI c), y_log, y_since, y_placesLeft, y_paths, y_values, y_open, y_timeouts, y_deadlines, y_events, y_eventCounts, y_watchers, y_watchKinds, y_watchPaths, y_parts, y_happened, y_how) x k := by
  have v : vp_in (nI c) 21 := vp_in_nI hc (by omega)
  have e : (nI c).toNatClampNeg = c := nI_clamp (by omega)
  exact ⟨v, nm_r (by rw [e]) (nm_r (nI_1 c) ⟨v, nm_r (by rw [e]) hp⟩)⟩
end
end
section
section
variable {x_time x_partCount x_wrongAt x_changeCount x_transactions x_logStart x_snapshotStart x_placesLeft : Int32} {x_tree x_treeBefore x_timeouts x_deadlines x_events x_eventCounts x_watchSessions x_watchKinds x_watchPaths x_partKinds x_partPaths x_partAs x_partBs x_changePaths x_changeKinds : Nat → Int32}
variable {y_time y_last y_watchCount y_partCount y_wrong y_changes y_log y_since y_placesLeft : Int32} {y_paths y_values y_open y_timeouts y_deadlines y_events y_eventCounts y_watchers y_watchKinds y_watchPaths y_parts y_happened y_how : Nat → Int32}
variable {p w : Nat → Int32}
theorem wx_note {post : SX → Prop} {c : Nat} {k x : Int32} (hc : c < 20) (hp : post (x_time, x_partCount, x_wrongAt, (nI (c + 1)), x_transactions, x_logStart, x_snapshotStart, x_placesLeft, x_tree, x_treeBefore, x_timeouts, x_deadlines, x_events, x_eventCounts, x_watchSessions, x_watchKinds, x_watchPaths, x_partKinds, x_partPaths, x_partAs, x_partBs, (upd x_changePaths c x), (upd x_changeKinds c k))) : wpX_noteChange post (x_time, x_partCount, x_wrongAt, (nI c), x_transactions, x_logStart, x_snapshotStart, x_placesLeft, x_tree, x_treeBefore, x_timeouts, x_deadlines, x_events, x_eventCounts, x_watchSessions, x_watchKinds, x_watchPaths, x_partKinds, x_partPaths, x_partAs, x_partBs, x_changePaths, x_changeKinds) k x := by
  have v : vp_in (nI c) 20 := vp_in_nI hc (by omega)
  have e : (nI c).toNatClampNeg = c := nI_clamp (by omega)
  exact br_f (nI_pos (by omega)) (br_f (nI_ge (b := 20) hc (by omega)) ⟨v, nm_r (by rw [e]) ⟨v, nm_r (by rw [e]) (nm_r (nI_1 c) hp)⟩⟩)
theorem wx_take {post : Int32 → SX → Prop} {f c : Nat} (hT : wt_T x_tree p w) (hI : wt_I p w) (f1 : 1 ≤ f) (hf : f < 21) (hpf : ¬ p f = -1) (hc : c < 20) (h : post (w (6 * wt_fd p (p f / 101) + 2) + 1) (x_time, x_partCount, x_wrongAt, (nI (c + 1)), x_transactions, x_logStart, x_snapshotStart, x_placesLeft, (upd (upd x_tree (7 * f + 6) (-1)) (7 * wt_fd p (p f / 101) + 2) (w (6 * wt_fd p (p f / 101) + 2) + 1)), x_treeBefore, x_timeouts, x_deadlines, x_events, x_eventCounts, x_watchSessions, x_watchKinds, x_watchPaths, x_partKinds, x_partPaths, x_partAs, x_partBs, (upd x_changePaths c (p f)), (upd x_changeKinds c 2))) : wpX_takeNodeAway post (x_time, x_partCount, x_wrongAt, (nI c), x_transactions, x_logStart, x_snapshotStart, x_placesLeft, x_tree, x_treeBefore, x_timeouts, x_deadlines, x_events, x_eventCounts, x_watchSessions, x_watchKinds, x_watchPaths, x_partKinds, x_partPaths, x_partAs, x_partBs, x_changePaths, x_changeKinds) (nI (7 * f)) := by
  obtain ⟨a1, a2, a3, _⟩ := wt_I_pa hI f1 hf hpf
  have ct : x_tree (nI (7 * f) + 6).toNatClampNeg = p f := (congrArg x_tree (wt_7c f 6 hf (by omega))).trans (hT f hf).1
  have cu : upd x_tree (nI (7 * f) + 6).toNatClampNeg (-1) = upd x_tree (7 * f + 6) (-1) := by
    have q := wt_7c f 6 hf (by omega)
    exact congrArg (fun i => upd x_tree i (-1)) q
  have T1 : wt_T (upd x_tree (7 * f + 6) (-1)) (upd p f (-1)) w := wt_T_p hT (-1)
  refine ⟨wt_7in f 6 hf (by omega), nm_r ct ⟨wt_7in f 6 hf (by omega), nm_r cu ?_⟩⟩
  refine wx_note hc ⟨wt_ne101, wx_find_t T1 (by rw [a2]; exact a1) ?_⟩
  rw [a2]
  generalize hq : wt_fd p (p f / 101) = q at *
  have in2 := wt_7in q 2 a1 (by omega)
  have c2 := wt_7c q 2 a1 (by omega)
  have v2 : upd x_tree (7 * f + 6) (-1) (nI (7 * q) + 2).toNatClampNeg = w (6 * q + 2) := (congrArg (upd x_tree (7 * f + 6) (-1)) c2).trans ((T1 q a1).2 2 (by omega))
  have u2 : upd (upd x_tree (7 * f + 6) (-1)) (nI (7 * q) + 2).toNatClampNeg (upd x_tree (7 * f + 6) (-1) (nI (7 * q) + 2).toNatClampNeg + 1) = upd (upd x_tree (7 * f + 6) (-1)) (7 * q + 2) (w (6 * q + 2) + 1) := by
    rw [v2]
    exact congrArg (fun i => upd (upd x_tree (7 * f + 6) (-1)) i (w (6 * q + 2) + 1)) c2
  refine br_f (wt_nn (by omega)) ⟨in2, in2, nm_r u2 ⟨in2, ?_⟩⟩
  have r2 : upd (upd x_tree (7 * f + 6) (-1)) (7 * q + 2) (w (6 * q + 2) + 1) (nI (7 * q) + 2).toNatClampNeg = w (6 * q + 2) + 1 := (congrArg (upd (upd x_tree (7 * f + 6) (-1)) (7 * q + 2) (w (6 * q + 2) + 1)) c2).trans pk_us
  rw [r2]
  exact h
theorem wy_take {post : Int32 → SY → Prop} {f c : Nat} (hI : wt_I y_paths y_values) (f1 : 1 ≤ f) (hf : f < 21) (hpf : ¬ y_paths f = -1) (hc : c < 21) (h : post (y_values (6 * wt_fd y_paths (y_paths f / 101) + 2) + 1) (y_time, y_last, y_watchCount, y_partCount, y_wrong, (nI (c + 1)), y_log, y_since, y_placesLeft, (upd y_paths f (-1)), (upd y_values (6 * wt_fd y_paths (y_paths f / 101) + 2) (y_values (6 * wt_fd y_paths (y_paths f / 101) + 2) + 1)), y_open, y_timeouts, y_deadlines, y_events, y_eventCounts, y_watchers, y_watchKinds, y_watchPaths, y_parts, (upd y_happened c (y_paths f)), (upd y_how c 2))) : wpY_take post (y_time, y_last, y_watchCount, y_partCount, y_wrong, (nI c), y_log, y_since, y_placesLeft, y_paths, y_values, y_open, y_timeouts, y_deadlines, y_events, y_eventCounts, y_watchers, y_watchKinds, y_watchPaths, y_parts, y_happened, y_how) (nI f) := by
  obtain ⟨a1, _, _, _⟩ := wt_I_pa hI f1 hf hpf
  have v : vp_in (nI f) 42 := vp_in_nI (by omega) (by omega)
  have e : (nI f).toNatClampNeg = f := nI_clamp (by omega)
  refine ⟨v, wt_ne101, ?_⟩
  rw [e]
  refine wy_find_t a1 ⟨v, wy_note hc ⟨v, nm_e ?_⟩⟩
  generalize hq : wt_fd y_paths (y_paths f / 101) = q at *
  have in2 := wt_6in q 2 a1 (by omega)
  have c2 := wt_6c q 2 a1 (by omega)
  have v2 : y_values (6 * nI q + 2).toNatClampNeg = y_values (6 * q + 2) := congrArg y_values c2
  refine ⟨in2, in2, nm_r (e' := upd y_values (6 * q + 2) (y_values (6 * q + 2) + 1)) ?_ ?_⟩
  · rw [v2]
    exact congrArg (fun i => upd y_values i (y_values (6 * q + 2) + 1)) c2
  · rw [v2]
    exact h
/-- what holds after both sides have taken a node away -/
theorem wt_taken {B c f : Nat} {t xk xp yh yw : Nat → Int32} (hT : wt_T t p w) (hI : wt_I p w) (hV : wt_V B w) (hC : wt_C c xk xp yh yw) (hc : c < 20) (hB : B < 2 ^ 30) (f1 : 1 ≤ f) (hf : f < 21) (hpf : ¬ p f = -1) (hn : ¬ w (6 * f + 5) = -1 ∨ ∀ j, j < 21 → 0 < p j → ¬ p j / 101 = p f) : wt_T (upd (upd t (7 * f + 6) (-1)) (7 * wt_fd p (p f / 101) + 2) (w (6 * wt_fd p (p f / 101) + 2) + 1)) (upd p f (-1)) (upd w (6 * wt_fd p (p f / 101) + 2) (w (6 * wt_fd p (p f / 101) + 2) + 1)) ∧ wt_I (upd p f (-1)) (upd w (6 * wt_fd p (p f / 101) + 2) (w (6 * wt_fd p (p f / 101) + 2) + 1)) ∧ wt_V (B + 1) (upd w (6 * wt_fd p (p f / 101) + 2) (w (6 * wt_fd p (p f / 101) + 2) + 1)) ∧ wt_C (c + 1) (upd xk c 2) (upd xp c (p f)) (upd yh c (p f)) (upd yw c 2) ∧ ¬ w (6 * wt_fd p (p f / 101) + 2) + 1 < 0 := by
  · obtain ⟨a1, a2, a3, a, b1, b2, b3⟩ := wt_I_pa hI f1 hf hpf
    obtain ⟨z, z1, z2⟩ := hV _ a1 2 (Or.inr rfl)
    refine ⟨wt_T_w (wt_T_p hT (-1)) (by omega) _, wt_I_tk hI f1 hn (fun j hj => pk_un (by omega)), wt_V_i hV a1 (Or.inr rfl), wt_C_s hC hc (Or.inr (Or.inl rfl)) ⟨a, b2, b3⟩, ?_⟩
    rw [z2, nI_1]
    exact nI_pos (by omega)
end
end
section
/-- what a request leaves behind: r of X, r' of Y -/
def wt_O (B c : Nat) (p w : Nat → Int32) (kind r r' : Int32) (t' p' w' xk' xp' yh' yw' : Nat → Int32) (c' : Nat) : Prop := wt_T t' p' w' ∧ wt_I p' w' ∧ wt_V (B + 1) w' ∧ wt_C c' xk' xp' yh' yw' ∧ (∀ j, 21 ≤ j → p' j = p j) ∧ (∀ j, 126 ≤ j → w' j = w j) ∧ ((r < 0 ∧ r' = r ∧ c' = c) ∨ (¬ r < 0 ∧ ¬ r' < 0 ∧ (¬ kind = 3 → r' = r) ∧ c' ≤ c + 1))
theorem wt_O_f {B c : Nat} {p w t xk xp yh yw : Nat → Int32} {kind r : Int32} (hT : wt_T t p w) (hI : wt_I p w) (hV : wt_V B w) (hC : wt_C c xk xp yh yw) (hr : r < 0) : wt_O B c p w kind r r t p w xk xp yh yw c := ⟨hT, hI, wt_V_up hV (by omega), hC, fun _ _ => rfl, fun _ _ => rfl, Or.inl ⟨hr, rfl, rfl⟩⟩
/-- the six values of a new node -/
def wt_nw (w : Nat → Int32) (f : Nat) (d t o : Int32) : Nat → Int32 := upd (upd (upd (upd (upd (upd w (6 * f + 0) d) (6 * f + 1) 0) (6 * f + 2) 0) (6 * f + 3) t) (6 * f + 4) t) (6 * f + 5) o
def wt_nx (x : Nat → Int32) (f : Nat) (m d t o : Int32) : Nat → Int32 := upd (upd (upd (upd (upd (upd (upd x (7 * f + 0) d) (7 * f + 1) 0) (7 * f + 2) 0) (7 * f + 3) t) (7 * f + 4) t) (7 * f + 5) o) (7 * f + 6) m
theorem wt_T_nw {x p w : Nat → Int32} {f : Nat} {m d t o : Int32} (hT : wt_T x p w) : wt_T (wt_nx x f m d t o) (upd p f m) (wt_nw w f d t o) :=
  wt_T_p (wt_T_w (wt_T_w (wt_T_w (wt_T_w (wt_T_w (wt_T_w hT (j := 0) (by omega) d) (j := 1) (by omega) 0) (j := 2) (by omega) 0) (j := 3) (by omega) t) (j := 4) (by omega) t) (j := 5) (by omega) o) m
theorem wt_nw_o {w : Nat → Int32} {f : Nat} {d t o : Int32} (j : Nat) : wt_nw w f d t o (6 * j + 5) = if j = f then o else w (6 * j + 5) := by
  by_cases e : j = f
  · subst e
    rw [if_pos rfl]
    exact pk_us
  · rw [if_neg e]
    unfold wt_nw
    rw [pk_un (by omega), pk_un (by omega), pk_un (by omega), pk_un (by omega), pk_un (by omega), pk_un (by omega)]
theorem wt_nw_x {w : Nat → Int32} {f : Nat} {d t o : Int32} {j : Nat} (h : j < 6 * f ∨ 6 * f + 6 ≤ j) : wt_nw w f d t o j = w j := by
  unfold wt_nw
  rw [pk_un (by omega), pk_un (by omega), pk_un (by omega), pk_un (by omega), pk_un (by omega), pk_un (by omega)]
theorem wt_V_nw {B : Nat} {w : Nat → Int32} {f : Nat} {d t o : Int32} (h : wt_V B w) : wt_V B (wt_nw w f d t o) :=
  wt_V_n (wt_V_n (wt_V_n (wt_V_b (wt_V_b (wt_V_n h (by omega) (by omega) (by omega)) ⟨0, by omega, rfl⟩) ⟨0, by omega, rfl⟩) (by omega) (by omega) (by omega)) (by omega) (by omega) (by omega)) (by omega) (by omega) (by omega)
section
variable {x_time x_partCount x_wrongAt x_changeCount x_transactions x_logStart x_snapshotStart x_placesLeft : Int32} {x_tree x_treeBefore x_timeouts x_deadlines x_events x_eventCounts x_watchSessions x_watchKinds x_watchPaths x_partKinds x_partPaths x_partAs x_partBs x_changePaths x_changeKinds : Nat → Int32}
variable {y_time y_last y_watchCount y_partCount y_wrong y_changes y_log y_since y_placesLeft : Int32} {y_paths y_values y_open y_timeouts y_deadlines y_events y_eventCounts y_watchers y_watchKinds y_watchPaths y_parts y_happened y_how : Nat → Int32}
variable {n : Int32}
theorem wx_new {post : SX → Prop} {f : Nat} {m d o : Int32} (hf : f < 21) (hp : post (x_time, x_partCount, x_wrongAt, x_changeCount, x_transactions, x_logStart, x_snapshotStart, x_placesLeft, (wt_nx x_tree f m d (x_transactions + 1) o), x_treeBefore, x_timeouts, x_deadlines, x_events, x_eventCounts, x_watchSessions, x_watchKinds, x_watchPaths, x_partKinds, x_partPaths, x_partAs, x_partBs, x_changePaths, x_changeKinds)) : wpX_writeNewNode post (x_time, x_partCount, x_wrongAt, x_changeCount, x_transactions, x_logStart, x_snapshotStart, x_placesLeft, x_tree, x_treeBefore, x_timeouts, x_deadlines, x_events, x_eventCounts, x_watchSessions, x_watchKinds, x_watchPaths, x_partKinds, x_partPaths, x_partAs, x_partBs, x_changePaths, x_changeKinds) (nI (7 * f)) m d o := by
  have c0 := wt_7c f 0 hf (by omega)
  have c1 := wt_7c f 1 hf (by omega)
  have c2 := wt_7c f 2 hf (by omega)
  have c3 := wt_7c f 3 hf (by omega)
  have c4 := wt_7c f 4 hf (by omega)
  have c5 := wt_7c f 5 hf (by omega)
  have c6 := wt_7c f 6 hf (by omega)
  have U : ∀ (x : Nat → Int32) (v : Int32) {a b : Nat}, a = b → upd x a v = upd x b v := fun x v a b h => by rw [h]
  exact nm_e ⟨wt_7in f 0 hf (by omega), nm_r (U _ _ c0) ⟨wt_7in f 1 hf (by omega), nm_r (U _ _ c1) ⟨wt_7in f 2 hf (by omega), nm_r (U _ _ c2) ⟨wt_7in f 3 hf (by omega), nm_r (U _ _ c3) ⟨wt_7in f 4 hf (by omega), nm_r (U _ _ c4) ⟨wt_7in f 5 hf (by omega), nm_r (U _ _ c5) ⟨wt_7in f 6 hf (by omega), nm_r (U _ _ c6) hp⟩⟩⟩⟩⟩⟩⟩
/-- the write of a new node, X -/
theorem wx_mk {post : Int32 → SX → Prop} {p w : Nat → Int32} {f q c : Nat} {m d o : Int32} (hT : wt_T x_tree p w) (hf : f < 21) (hq : q < 21) (hc : c < 20) (hp : post m (x_time, x_partCount, x_wrongAt, (nI (c + 1)), x_transactions, x_logStart, x_snapshotStart, x_placesLeft, (upd (wt_nx x_tree f m d (x_transactions + 1) o) (7 * q + 2) (wt_nw w f d (x_transactions + 1) o (6 * q + 2) + 1)), x_treeBefore, x_timeouts, x_deadlines, x_events, x_eventCounts, x_watchSessions, x_watchKinds, x_watchPaths, x_partKinds, x_partPaths, x_partAs, x_partBs, (upd x_changePaths c m), (upd x_changeKinds c 1))) : wX_performCreate_130 post d (nI (7 * q)) m (nI (7 * f)) o x_time x_partCount x_wrongAt (nI c) x_transactions x_logStart x_snapshotStart x_placesLeft x_tree x_treeBefore x_timeouts x_deadlines x_events x_eventCounts x_watchSessions x_watchKinds x_watchPaths x_partKinds x_partPaths x_partAs x_partBs x_changePaths x_changeKinds := by
  unfold wX_performCreate_130
  refine wx_new hf ?_
  have T1 := wt_T_nw (f := f) (m := m) (d := d) (t := x_transactions + 1) (o := o) hT
  have in2 := wt_7in q 2 hq (by omega)
  have c2 := wt_7c q 2 hq (by omega)
  have v2 : wt_nx x_tree f m d (x_transactions + 1) o (nI (7 * q) + 2).toNatClampNeg = wt_nw w f d (x_transactions + 1) o (6 * q + 2) := (congrArg (wt_nx x_tree f m d (x_transactions + 1) o) c2).trans ((T1 q hq).2 2 (by omega))
  refine ⟨in2, in2, nm_r (e' := upd (wt_nx x_tree f m d (x_transactions + 1) o) (7 * q + 2) (wt_nw w f d (x_transactions + 1) o (6 * q + 2) + 1)) ?_ ?_⟩
  · rw [v2]
    exact congrArg (fun i => upd (wt_nx x_tree f m d (x_transactions + 1) o) i (wt_nw w f d (x_transactions + 1) o (6 * q + 2) + 1)) c2
  · exact wx_note hc hp
theorem wy_mk5 {post : Int32 → SY → Prop} {f q c : Nat} {m o : Int32} (hf : f < 21) (hq : q < 21) (hc : c < 21) (hp : post m (y_time, y_last, y_watchCount, y_partCount, y_wrong, (nI (c + 1)), y_log, y_since, y_placesLeft, y_paths, (upd (upd y_values (6 * f + 5) o) (6 * q + 2) (upd y_values (6 * f + 5) o (6 * q + 2) + 1)), y_open, y_timeouts, y_deadlines, y_events, y_eventCounts, y_watchers, y_watchKinds, y_watchPaths, y_parts, (upd y_happened c m), (upd y_how c 1))) : wY_make_215 post (nI q) m o ((6 : Int32) * nI f + 5) y_time y_last y_watchCount y_partCount y_wrong (nI c) y_log y_since y_placesLeft y_paths y_values y_open y_timeouts y_deadlines y_events y_eventCounts y_watchers y_watchKinds y_watchPaths y_parts y_happened y_how := by
  have c5 := wt_6c f 5 hf (by omega)
  have in2 := wt_6in q 2 hq (by omega)
  have c2 := wt_6c q 2 hq (by omega)
  have U : ∀ (x : Nat → Int32) (v : Int32) {a b : Nat}, a = b → upd x a v = upd x b v := fun x v a b h => by rw [h]
  refine ⟨wt_6in f 5 hf (by omega), nm_r (U _ _ c5) ⟨in2, in2, nm_r (e' := upd (upd y_values (6 * f + 5) o) (6 * q + 2) (upd y_values (6 * f + 5) o (6 * q + 2) + 1)) ?_ (wy_note hc hp)⟩⟩
  have v2 : upd y_values (6 * f + 5) o ((6 : Int32) * nI q + 2).toNatClampNeg = upd y_values (6 * f + 5) o (6 * q + 2) := congrArg _ c2
  rw [v2]
  exact U _ _ c2
/-- the write of a new node, Y: f is the first free place -/
theorem wy_mk {post : Int32 → SY → Prop} {f q c fl : Nat} {m d o s t : Int32} (hI : wt_I y_paths y_values) (hf : f < 21) (hfp : y_paths f = -1) (hb : ∀ j, j < f → ¬ y_paths j = -1) (hq : q < 21) (hc : c < 21) (hfl : fl < 4) (ho : o = if nI fl &&& 1 = 0 then -1 else s) (hp : post m (y_time, y_last, y_watchCount, y_partCount, y_wrong, (nI (c + 1)), y_log, y_since, y_placesLeft, (upd y_paths f m), (upd (wt_nw y_values f d t o) (6 * q + 2) (wt_nw y_values f d t o (6 * q + 2) + 1)), y_open, y_timeouts, y_deadlines, y_events, y_eventCounts, y_watchers, y_watchKinds, y_watchPaths, y_parts, (upd y_happened c m), (upd y_how c 1))) : ∀ e i, 1 ≤ i → i + e = f → wY_make_101 post s d (nI fl) t (nI q) m y_time y_last y_watchCount y_partCount y_wrong (nI c) y_log y_since y_placesLeft y_paths y_values y_open y_timeouts y_deadlines y_events y_eventCounts y_watchers y_watchKinds y_watchPaths y_parts y_happened y_how (e + 1) (nI i) := by
  intro e
  induction e with
  | zero =>
    intro i _ hi
    have e : i = f := by omega
    subst e
    have v : vp_in (nI i) 42 := vp_in_nI (by omega) (by omega)
    have ci : (nI i).toNatClampNeg = i := nI_clamp (by omega)
    have lt : y_paths (nI i).toNatClampNeg < 0 := by rw [ci, hfp]; decide
    have U : ∀ (x : Nat → Int32) (v : Int32) {a b : Nat}, a = b → upd x a v = upd x b v := fun x v a b h => by rw [h]
    refine ⟨v, br_t lt ⟨v, nm_r (U _ _ ci) ⟨wt_6in0 i hf, nm_r (U _ _ (wt_6c0 i hf)) ⟨wt_6in i 1 hf (by omega), nm_r (U _ _ (wt_6c i 1 hf (by omega))) ⟨wt_6in i 2 hf (by omega), nm_r (U _ _ (wt_6c i 2 hf (by omega))) ⟨wt_6in i 3 hf (by omega), nm_r (U _ _ (wt_6c i 3 hf (by omega))) ⟨wt_6in i 4 hf (by omega), nm_r (U _ _ (wt_6c i 4 hf (by omega))) ⟨by decide, ?_⟩⟩⟩⟩⟩⟩⟩⟩
    by_cases g : nI fl &&& 1 = 0
    · rw [if_pos g] at ho
      subst ho
      exact br_f ((wt_flag1 fl hfl).mp g) (wy_mk5 hf hq hc hp)
    · rw [if_neg g] at ho
      subst ho
      exact br_t (Decidable.byContradiction (fun z => g ((wt_flag1 fl hfl).mpr z))) (wy_mk5 hf hq hc hp)
  | succ e ih =>
    intro i h1 hi
    have v : vp_in (nI i) 42 := vp_in_nI (by omega) (by omega)
    have ge : ¬ y_paths (nI i).toNatClampNeg < 0 := by
      rw [nI_clamp (by omega)]
      intro z
      exact hb i (by omega) ((wt_I_fr hI (by omega)).mpr (fun y => Int32.not_le.mpr z y))
    exact ⟨v, br_f ge (nm_r (nI_1 i) (ih (i + 1) (by omega) (by omega)))⟩
/-- creating under the parent at q, the path being nI a -/
theorem wt_mk {B c q a fl : Nat} {s d : Int32} (hT : wt_T x_tree y_paths y_values) (hI : wt_I y_paths y_values) (hV : wt_V B y_values) (hC : wt_C c x_changeKinds x_changePaths y_happened y_how) (hc : c < 20) (hq : q < 21) (h1 : 1 ≤ a) (h2 : a ≤ 1030300) (hpq : y_paths q = nI (a / 101)) (hoq : y_values (6 * q + 5) = -1) (hfl : fl < 4) :
    ∃ (r : Int32) (t' p' w' xk' xp' yh' yw' : Nat → Int32) (c' : Nat), (∀ post : Int32 → SX → Prop, post r (x_time, x_partCount, x_wrongAt, (nI c'), n, x_logStart, x_snapshotStart, x_placesLeft, t', x_treeBefore, x_timeouts, x_deadlines, x_events, x_eventCounts, x_watchSessions, x_watchKinds, x_watchPaths, x_partKinds, x_partPaths, x_partAs, x_partBs, xp', xk') → wX_performCreate_88 post s d (nI fl) (nI (7 * q)) (nI a) x_time x_partCount x_wrongAt (nI c) n x_logStart x_snapshotStart x_placesLeft x_tree x_treeBefore x_timeouts x_deadlines x_events x_eventCounts x_watchSessions x_watchKinds x_watchPaths x_partKinds x_partPaths x_partAs x_partBs x_changePaths x_changeKinds) ∧ (∀ post : Int32 → SY → Prop, post r (y_time, n, y_watchCount, y_partCount, y_wrong, (nI c'), y_log, y_since, y_placesLeft, p', w', y_open, y_timeouts, y_deadlines, y_events, y_eventCounts, y_watchers, y_watchKinds, y_watchPaths, y_parts, yh', yw') → wY_make_72 post s d (nI fl) (n + 1) (nI q) (nI a) y_time n y_watchCount y_partCount y_wrong (nI c) y_log y_since y_placesLeft y_paths y_values y_open y_timeouts y_deadlines y_events y_eventCounts y_watchers y_watchKinds y_watchPaths y_parts y_happened y_how) ∧ wt_O B c y_paths y_values 0 r r t' p' w' xk' xp' yh' yw' c' := by
  have hg : ¬ nI a < 0 := nI_pos (by omega)
  by_cases hx : wt_fd y_paths (nI a) < 21
  · refine ⟨-5, _, _, _, _, _, _, _, _, fun post hp => ?_, fun post hp => ?_, wt_O_f hT hI hV hC (by decide)⟩
    · unfold wX_performCreate_88
      exact wx_find_t hT hx (br_f (wt_nn (by omega)) hp)
    · unfold wY_make_72
      exact wy_find_t hx (br_f (nI_pos (by omega)) hp)
  · have nd0 := wt_nd0 hI
    obtain ⟨_, b1, b2, b3⟩ := wt_fs_spec (fun k => decide (y_paths k = -1)) 21 0
    by_cases hf : wt_fs (fun k => decide (y_paths k = -1)) 21 0 < 21
    · have hfp : y_paths (wt_fs (fun k => decide (y_paths k = -1)) 21 0) = -1 := of_decide_eq_true (b2 (by omega))
      have hb : ∀ j, j < wt_fs (fun k => decide (y_paths k = -1)) 21 0 → ¬ y_paths j = -1 := fun j hj z => b3 j (by omega) hj (decide_eq_true z)
      have n20 : ¬ wt_ct (wt_nd y_paths) 21 = 20 := by
        intro z
        have k0 : ¬ wt_fs (fun k => decide (y_paths k = -1)) 21 0 = 0 := fun y => by
          rw [y, hI.1] at hfp
          exact absurd hfp (by decide)
        have := (wt_ct_full nd0).mp z _ (by omega) hf
        have q := of_decide_eq_true this
        rw [hfp] at q
        exact absurd q (by decide)
      have f0 : 1 ≤ wt_fs (fun k => decide (y_paths k = -1)) 21 0 := by
        apply Nat.pos_of_ne_zero
        intro y
        rw [y, hI.1] at hfp
        exact absurd hfp (by decide)
      have hfr : wt_r 7 (wt_fs (fun k => decide (y_paths k = -1)) 21 0) = nI (7 * wt_fs (fun k => decide (y_paths k = -1)) 21 0) := wt_r_t hf
      generalize hF : wt_fs (fun k => decide (y_paths k = -1)) 21 0 = f at hf hfp hb f0 hfr
      obtain ⟨o, ho⟩ : ∃ o : Int32, o = if nI fl &&& 1 = 0 then -1 else s := ⟨_, rfl⟩
      have hle := wt_ct_le (wt_nd y_paths) 21
      have nq : ¬ q = f := fun z => by
        subst z
        rw [hpq] at hfp
        exact wt_nn (by omega) hfp
      refine ⟨nI a, upd (wt_nx x_tree f (nI a) d (n + 1) o) (7 * q + 2) (wt_nw y_values f d (n + 1) o (6 * q + 2) + 1), upd y_paths f (nI a), upd (wt_nw y_values f d (n + 1) o) (6 * q + 2) (wt_nw y_values f d (n + 1) o (6 * q + 2) + 1), upd x_changeKinds c 1, upd x_changePaths c (nI a), upd y_happened c (nI a), upd y_how c 1, c + 1, fun post hp => ?_, fun post hp => ?_, ?_⟩
      · unfold wX_performCreate_88
        refine wx_find_f hT hx (br_t rfl (wx_findFree hT ?_))
        rw [hF, hfr]
        refine br_f (wt_nn (by omega)) ?_
        by_cases g : nI fl &&& 1 = 0
        · rw [if_pos g] at ho
          subst ho
          exact br_t g (wx_mk hT hf hq hc hp)
        · rw [if_neg g] at ho
          subst ho
          exact br_f g (wx_mk hT hf hq hc hp)
      · unfold wY_make_72
        refine wy_find_f hx (br_t (by decide) (wy_many hI (br_f ?_ ⟨f, ?_⟩)))
        · intro z
          exact n20 ((nI_eq (by omega) (by omega)).mp z)
        · have k := wy_mk (post := post) (f := f) (q := q) (c := c) (fl := fl) (m := nI a) (d := d) (o := o) (s := s) (t := n + 1) hI hf hfp hb hq (by omega) hfl ho hp (f - 1) 1 (by omega) (by omega)
          have e : f - 1 + 1 = f := by omega
          rw [e] at k
          exact k
      · refine ⟨wt_T_w (wt_T_nw hT) (by omega) _, ?_, wt_V_i (wt_V_nw hV) hq (Or.inr rfl), wt_C_s hC hc (Or.inl rfl) ⟨a, h2, rfl⟩, fun j hj => pk_un (by omega), fun j hj => ?_, Or.inr ⟨hg, hg, fun _ => rfl, by omega⟩⟩
        · refine wt_I_mk hI hf hfp h1 h2 hq hpq hoq (o := o) (fun j hj => ?_)
          rw [pk_un (by omega)]
          exact wt_nw_o j
        · rw [pk_un (by omega)]
          exact wt_nw_x (by omega)
    · refine ⟨-6, _, _, _, _, _, _, _, _, fun post hp => ?_, fun post hp => ?_, wt_O_f hT hI hV hC (by decide)⟩
      · unfold wX_performCreate_88
        refine wx_find_f hT hx (br_t rfl (wx_findFree hT ?_))
        rw [wt_r_f hf]
        exact br_t rfl hp
      · unfold wY_make_72
        refine wy_find_f hx (br_t (by decide) (wy_many hI ?_))
        have e : wt_ct (wt_nd y_paths) 21 = 20 := (wt_ct_full nd0).mpr (fun k k1 k2 => by
          refine decide_eq_true ((wt_I_ge hI k1 k2).mp ?_)
          refine Decidable.byContradiction (fun z => ?_)
          exact b3 k (by omega) (by omega) (decide_eq_true ((wt_I_fr hI k2).mpr z)))
        rw [e]
        exact br_t rfl hp
end
end
section
theorem wt_num {a b : Nat} (ha : a < 2 ^ 31) : nI a - nI a / 100 * 100 = nI (a % 100) := by
  have e : (100 : Int32) = nI 100 := rfl
  rw [e, pk_rem ha (by decide) (by decide)]
section
variable {x_time x_partCount x_wrongAt x_changeCount x_transactions x_logStart x_snapshotStart x_placesLeft : Int32} {x_tree x_treeBefore x_timeouts x_deadlines x_events x_eventCounts x_watchSessions x_watchKinds x_watchPaths x_partKinds x_partPaths x_partAs x_partBs x_changePaths x_changeKinds : Nat → Int32}
variable {y_time y_last y_watchCount y_partCount y_wrong y_changes y_log y_since y_placesLeft : Int32} {y_paths y_values y_open y_timeouts y_deadlines y_events y_eventCounts y_watchers y_watchKinds y_watchPaths y_parts y_happened y_how : Nat → Int32}
variable {n : Int32}
theorem wt_create {B c fl : Nat} {s d x : Int32} (hT : wt_T x_tree y_paths y_values) (hI : wt_I y_paths y_values) (hV : wt_V B y_values) (hC : wt_C c x_changeKinds x_changePaths y_happened y_how) (hc : c < 20) (hB : B < 2 ^ 30) (hfl : fl < 4) :
    ∃ (r : Int32) (t' p' w' xk' xp' yh' yw' : Nat → Int32) (c' : Nat), (∀ post : Int32 → SX → Prop, post r (x_time, x_partCount, x_wrongAt, (nI c'), n, x_logStart, x_snapshotStart, x_placesLeft, t', x_treeBefore, x_timeouts, x_deadlines, x_events, x_eventCounts, x_watchSessions, x_watchKinds, x_watchPaths, x_partKinds, x_partPaths, x_partAs, x_partBs, xp', xk') → wpX_perform post (x_time, x_partCount, x_wrongAt, (nI c), n, x_logStart, x_snapshotStart, x_placesLeft, x_tree, x_treeBefore, x_timeouts, x_deadlines, x_events, x_eventCounts, x_watchSessions, x_watchKinds, x_watchPaths, x_partKinds, x_partPaths, x_partAs, x_partBs, x_changePaths, x_changeKinds) s 0 x d (nI fl)) ∧ (∀ post : Int32 → SY → Prop, post r (y_time, n, y_watchCount, y_partCount, y_wrong, (nI c'), y_log, y_since, y_placesLeft, p', w', y_open, y_timeouts, y_deadlines, y_events, y_eventCounts, y_watchers, y_watchKinds, y_watchPaths, y_parts, yh', yw') → wpY_request post (y_time, n, y_watchCount, y_partCount, y_wrong, (nI c), y_log, y_since, y_placesLeft, y_paths, y_values, y_open, y_timeouts, y_deadlines, y_events, y_eventCounts, y_watchers, y_watchKinds, y_watchPaths, y_parts, y_happened, y_how) s 0 x d (nI fl) (n + 1)) ∧ wt_O B c y_paths y_values 0 r r t' p' w' xk' xp' yh' yw' c' := by
  by_cases hip : wt_ip x = true
  · obtain ⟨a, ha, rfl⟩ := wt_ip_t hip
    by_cases a0 : a = 0
    · subst a0
      refine ⟨-2, _, _, _, _, _, _, _, _, fun post hp => ?_, fun post hp => ?_, wt_O_f hT hI hV hC (by decide)⟩
      · exact br_f (by decide) (br_f (by decide) (br_t rfl (br_t rfl hp)))
      · unfold wpY_request
        exact wy_isPath_t hip (br_f (by decide) (br_t rfl (br_t rfl hp)))
    · have an : ¬ nI a = 0 := nI_ne0 (by omega) (by omega)
      have ed := wt_d101 (a := a) (by omega)
      by_cases hq : wt_fd y_paths (nI (a / 101)) < 21
      · have hqa := (wt_fd_at hq).1
        generalize hQ : wt_fd y_paths (nI (a / 101)) = q at *
        have xo : x_tree (nI (7 * q) + 5).toNatClampNeg = y_values (6 * q + 5) := (congrArg x_tree (wt_7c q 5 hq (by omega))).trans ((hT q hq).2 5 (by omega))
        have xv : x_tree (nI (7 * q) + 2).toNatClampNeg = y_values (6 * q + 2) := (congrArg x_tree (wt_7c q 2 hq (by omega))).trans ((hT q hq).2 2 (by omega))
        have yo : y_values ((6 : Int32) * nI q + 5).toNatClampNeg = y_values (6 * q + 5) := congrArg y_values (wt_6c q 5 hq (by omega))
        have yv : y_values ((6 : Int32) * nI q + 2).toNatClampNeg = y_values (6 * q + 2) := congrArg y_values (wt_6c q 2 hq (by omega))
        by_cases ho : y_values (6 * q + 5) = -1
        · obtain ⟨v, v1, v2⟩ := hV q hq 2 (Or.inr rfl)
          have ev : y_values (6 * q + 2) - y_values (6 * q + 2) / 100 * 100 = nI (v % 100) := by
            rw [v2]; exact wt_num (b := 0) (by omega)
          have em : nI (a / 101) * 101 + nI (v % 100) + 1 = nI (a / 101 * 101 + v % 100 + 1) := by
            rw [wt_101, pk_mul, nI_add, nI_1]
          by_cases g : nI fl ≤ 1
          · obtain ⟨r, t', p', w', xk', xp', yh', yw', c', hX, hY, hO⟩ := wt_mk (x_time := x_time) (x_partCount := x_partCount) (x_wrongAt := x_wrongAt) (x_logStart := x_logStart) (x_snapshotStart := x_snapshotStart) (x_placesLeft := x_placesLeft) (x_tree := x_tree) (x_treeBefore := x_treeBefore) (x_timeouts := x_timeouts) (x_deadlines := x_deadlines) (x_events := x_events) (x_eventCounts := x_eventCounts) (x_watchSessions := x_watchSessions) (x_watchKinds := x_watchKinds) (x_watchPaths := x_watchPaths) (x_partKinds := x_partKinds) (x_partPaths := x_partPaths) (x_partAs := x_partAs) (x_partBs := x_partBs) (x_changePaths := x_changePaths) (x_changeKinds := x_changeKinds) (y_time := y_time) (y_watchCount := y_watchCount) (y_partCount := y_partCount) (y_wrong := y_wrong) (y_log := y_log) (y_since := y_since) (y_placesLeft := y_placesLeft) (y_paths := y_paths) (y_values := y_values) (y_open := y_open) (y_timeouts := y_timeouts) (y_deadlines := y_deadlines) (y_events := y_events) (y_eventCounts := y_eventCounts) (y_watchers := y_watchers) (y_watchKinds := y_watchKinds) (y_watchPaths := y_watchPaths) (y_parts := y_parts) (y_happened := y_happened) (y_how := y_how) (n := n) (s := s) (d := d) hT hI hV hC hc hq (by omega) ha hqa ho hfl
            refine ⟨r, t', p', w', xk', xp', yh', yw', c', fun post hp => ?_, fun post hp => ?_, hO⟩
            · refine br_f (by decide) (br_f (by decide) (br_t rfl ?_))
              refine br_f an (wx_isPath_t hip (br_f (by decide) ⟨wt_ne101, nm_r ed (wx_find_t hT (by rw [hQ]; exact hq) ?_)⟩))
              rw [hQ]
              refine br_f (wt_nn (by omega)) ⟨wt_7in q 5 hq (by omega), br_t (xo.trans ho) ⟨wt_7in q 2 hq (by omega), wt_ne100, nm_e (br_t ((wt_flag2 fl hfl).mpr g) ?_)⟩⟩
              exact hX _ hp
            · unfold wpY_request
              refine wy_isPath_t hip (br_f (by decide) (br_f an (br_t rfl ⟨wt_ne101, ?_⟩)))
              rw [ed]
              refine wy_find_t (by rw [hQ]; exact hq) ?_
              rw [hQ]
              refine br_t (nI_pos' (by omega)) ⟨wt_6in q 5 hq (by omega), br_t (yo.trans ho) (br_t g ?_)⟩
              exact hY _ hp
          · obtain ⟨r, t', p', w', xk', xp', yh', yw', c', hX, hY, hO⟩ := wt_mk (x_time := x_time) (x_partCount := x_partCount) (x_wrongAt := x_wrongAt) (x_logStart := x_logStart) (x_snapshotStart := x_snapshotStart) (x_placesLeft := x_placesLeft) (x_tree := x_tree) (x_treeBefore := x_treeBefore) (x_timeouts := x_timeouts) (x_deadlines := x_deadlines) (x_events := x_events) (x_eventCounts := x_eventCounts) (x_watchSessions := x_watchSessions) (x_watchKinds := x_watchKinds) (x_watchPaths := x_watchPaths) (x_partKinds := x_partKinds) (x_partPaths := x_partPaths) (x_partAs := x_partAs) (x_partBs := x_partBs) (x_changePaths := x_changePaths) (x_changeKinds := x_changeKinds) (y_time := y_time) (y_watchCount := y_watchCount) (y_partCount := y_partCount) (y_wrong := y_wrong) (y_log := y_log) (y_since := y_since) (y_placesLeft := y_placesLeft) (y_paths := y_paths) (y_values := y_values) (y_open := y_open) (y_timeouts := y_timeouts) (y_deadlines := y_deadlines) (y_events := y_events) (y_eventCounts := y_eventCounts) (y_watchers := y_watchers) (y_watchKinds := y_watchKinds) (y_watchPaths := y_watchPaths) (y_parts := y_parts) (y_happened := y_happened) (y_how := y_how) (n := n) (s := s) (d := d) (a := a / 101 * 101 + v % 100 + 1) hT hI hV hC hc hq (by omega) (by omega) (by rw [hqa]; exact congrArg nI (by omega)) ho hfl
            refine ⟨r, t', p', w', xk', xp', yh', yw', c', fun post hp => ?_, fun post hp => ?_, hO⟩
            · refine br_f (by decide) (br_f (by decide) (br_t rfl ?_))
              refine br_f an (wx_isPath_t hip (br_f (by decide) ⟨wt_ne101, nm_r ed (wx_find_t hT (by rw [hQ]; exact hq) ?_)⟩))
              rw [hQ]
              refine br_f (wt_nn (by omega)) ⟨wt_7in q 5 hq (by omega), br_t (xo.trans ho) ⟨wt_7in q 2 hq (by omega), wt_ne100, nm_r (e' := nI (v % 100)) (by rw [xv]; exact ev) (br_f (fun z => g ((wt_flag2 fl hfl).mp z)) ?_)⟩⟩
              rw [em]
              exact hX _ hp
            · unfold wpY_request
              refine wy_isPath_t hip (br_f (by decide) (br_f an (br_t rfl ⟨wt_ne101, ?_⟩)))
              rw [ed]
              refine wy_find_t (by rw [hQ]; exact hq) ?_
              rw [hQ]
              refine br_t (nI_pos' (by omega)) ⟨wt_6in q 5 hq (by omega), br_t (yo.trans ho) (br_f g ⟨wt_ne101, wt_6in q 2 hq (by omega), wt_ne100, ?_⟩)⟩
              rw [yv, ev, em]
              exact hY _ hp
        · refine ⟨-4, _, _, _, _, _, _, _, _, fun post hp => ?_, fun post hp => ?_, wt_O_f hT hI hV hC (by decide)⟩
          · refine br_f (by decide) (br_f (by decide) (br_t rfl ?_))
            refine br_f an (wx_isPath_t hip (br_f (by decide) ⟨wt_ne101, nm_r ed (wx_find_t hT (by rw [hQ]; exact hq) ?_)⟩))
            rw [hQ]
            exact br_f (wt_nn (by omega)) ⟨wt_7in q 5 hq (by omega), br_f (fun z => ho (xo.symm.trans z)) hp⟩
          · unfold wpY_request
            refine wy_isPath_t hip (br_f (by decide) (br_f an (br_t rfl ⟨wt_ne101, ?_⟩)))
            rw [ed]
            refine wy_find_t (by rw [hQ]; exact hq) ?_
            rw [hQ]
            exact br_t (nI_pos' (by omega)) ⟨wt_6in q 5 hq (by omega), br_f (fun z => ho (yo.symm.trans z)) hp⟩
      · refine ⟨-3, _, _, _, _, _, _, _, _, fun post hp => ?_, fun post hp => ?_, wt_O_f hT hI hV hC (by decide)⟩
        · refine br_f (by decide) (br_f (by decide) (br_t rfl ?_))
          exact br_f an (wx_isPath_t hip (br_f (by decide) ⟨wt_ne101, nm_r ed (wx_find_f hT hq (br_t rfl hp))⟩))
        · unfold wpY_request
          refine wy_isPath_t hip (br_f (by decide) (br_f an (br_t rfl ⟨wt_ne101, ?_⟩)))
          rw [ed]
          exact wy_find_f hq (br_f (by decide) hp)
  · refine ⟨-2, _, _, _, _, _, _, _, _, fun post hp => ?_, fun post hp => ?_, wt_O_f hT hI hV hC (by decide)⟩
    · exact br_f (by decide) (br_f (by decide) (br_t rfl (br_c (fun _ => hp) (fun _ => wx_isPath_f hip (br_t rfl hp)))))
    · unfold wpY_request
      exact wy_isPath_f hip (br_t rfl hp)
/-- findWithVersion -/
theorem wx_fv_np {post : Int32 → Prop} {x b : Int32} (hip : ¬ wt_ip x = true) (hp : post (-2)) : wpX_findWithVersion post (x_time, x_partCount, x_wrongAt, x_changeCount, x_transactions, x_logStart, x_snapshotStart, x_placesLeft, x_tree, x_treeBefore, x_timeouts, x_deadlines, x_events, x_eventCounts, x_watchSessions, x_watchKinds, x_watchPaths, x_partKinds, x_partPaths, x_partAs, x_partBs, x_changePaths, x_changeKinds) x b := by
  unfold wpX_findWithVersion
  exact wx_isPath_f hip (br_t rfl hp)
theorem wx_fv_nn {post : Int32 → Prop} {p w : Nat → Int32} {x b : Int32} (hT : wt_T x_tree p w) (hip : wt_ip x = true) (hq : ¬ wt_fd p x < 21) (hp : post (-3)) : wpX_findWithVersion post (x_time, x_partCount, x_wrongAt, x_changeCount, x_transactions, x_logStart, x_snapshotStart, x_placesLeft, x_tree, x_treeBefore, x_timeouts, x_deadlines, x_events, x_eventCounts, x_watchSessions, x_watchKinds, x_watchPaths, x_partKinds, x_partPaths, x_partAs, x_partBs, x_changePaths, x_changeKinds) x b := by
  unfold wpX_findWithVersion
  exact wx_isPath_t hip (br_f (by decide) (wx_find_f hT hq (br_t rfl hp)))
theorem wx_fv_v {post : Int32 → Prop} {p w : Nat → Int32} {x b : Int32} (hT : wt_T x_tree p w) (hip : wt_ip x = true) (hq : wt_fd p x < 21) (h1 : ¬ b = -1) (h2 : ¬ b = w (6 * wt_fd p x + 1)) (hp : post (-7)) : wpX_findWithVersion post (x_time, x_partCount, x_wrongAt, x_changeCount, x_transactions, x_logStart, x_snapshotStart, x_placesLeft, x_tree, x_treeBefore, x_timeouts, x_deadlines, x_events, x_eventCounts, x_watchSessions, x_watchKinds, x_watchPaths, x_partKinds, x_partPaths, x_partAs, x_partBs, x_changePaths, x_changeKinds) x b := by
  unfold wpX_findWithVersion
  have xv : x_tree (nI (7 * wt_fd p x) + 1).toNatClampNeg = w (6 * wt_fd p x + 1) := (congrArg x_tree (wt_7c _ 1 hq (by omega))).trans ((hT _ hq).2 1 (by omega))
  refine wx_isPath_t hip (br_f (by decide) (wx_find_t hT hq (br_f (wt_nn (by omega)) (br_f h1 ⟨wt_7in _ 1 hq (by omega), br_f (fun z => h2 (z.trans xv)) hp⟩))))
theorem wx_fv_ok {post : Int32 → Prop} {p w : Nat → Int32} {x b : Int32} (hT : wt_T x_tree p w) (hip : wt_ip x = true) (hq : wt_fd p x < 21) (h : b = -1 ∨ b = w (6 * wt_fd p x + 1)) (hp : post (nI (7 * wt_fd p x))) : wpX_findWithVersion post (x_time, x_partCount, x_wrongAt, x_changeCount, x_transactions, x_logStart, x_snapshotStart, x_placesLeft, x_tree, x_treeBefore, x_timeouts, x_deadlines, x_events, x_eventCounts, x_watchSessions, x_watchKinds, x_watchPaths, x_partKinds, x_partPaths, x_partAs, x_partBs, x_changePaths, x_changeKinds) x b := by
  unfold wpX_findWithVersion
  have xv : x_tree (nI (7 * wt_fd p x) + 1).toNatClampNeg = w (6 * wt_fd p x + 1) := (congrArg x_tree (wt_7c _ 1 hq (by omega))).trans ((hT _ hq).2 1 (by omega))
  refine wx_isPath_t hip (br_f (by decide) (wx_find_t hT hq (br_f (wt_nn (by omega)) (br_c (fun _ => hp) (fun z => ⟨wt_7in _ 1 hq (by omega), br_t ?_ hp⟩)))))
  rcases h with h | h
  · exact absurd h z
  · exact h.trans xv.symm
end
end
section
theorem wt_ucomm {f : Nat → Int32} {i j : Nat} {a b : Int32} (h : i ≠ j) : upd (upd f i a) j b = upd (upd f j b) i a := by
  funext k
  by_cases e : k = j
  · subst e
    rw [pk_us, pk_un (Ne.symm h), pk_us]
  · rw [pk_un e]
    by_cases e2 : k = i
    · subst e2
      rw [pk_us, pk_us]
    · rw [pk_un e2, pk_un e2, pk_un e]
theorem wt_ui (x : Nat → Int32) (v : Int32) {a b : Nat} (h : a = b) : upd x a v = upd x b v := by rw [h]
section
variable {x_time x_partCount x_wrongAt x_changeCount x_transactions x_logStart x_snapshotStart x_placesLeft : Int32} {x_tree x_treeBefore x_timeouts x_deadlines x_events x_eventCounts x_watchSessions x_watchKinds x_watchPaths x_partKinds x_partPaths x_partAs x_partBs x_changePaths x_changeKinds : Nat → Int32}
variable {y_time y_last y_watchCount y_partCount y_wrong y_changes y_log y_since y_placesLeft : Int32} {y_paths y_values y_open y_timeouts y_deadlines y_events y_eventCounts y_watchers y_watchKinds y_watchPaths y_parts y_happened y_how : Nat → Int32}
variable {n : Int32}
theorem wy_req_np {post : Int32 → SY → Prop} {s kd x d b t : Int32} (hip : ¬ wt_ip x = true) (hp : post (-2) (y_time, y_last, y_watchCount, y_partCount, y_wrong, y_changes, y_log, y_since, y_placesLeft, y_paths, y_values, y_open, y_timeouts, y_deadlines, y_events, y_eventCounts, y_watchers, y_watchKinds, y_watchPaths, y_parts, y_happened, y_how)) : wpY_request post (y_time, y_last, y_watchCount, y_partCount, y_wrong, y_changes, y_log, y_since, y_placesLeft, y_paths, y_values, y_open, y_timeouts, y_deadlines, y_events, y_eventCounts, y_watchers, y_watchKinds, y_watchPaths, y_parts, y_happened, y_how) s kd x d b t := by
  unfold wpY_request
  exact wy_isPath_f hip (br_t rfl hp)
theorem wy_req_23 {post : Int32 → SY → Prop} {s kd x d b t : Int32} (hip : wt_ip x = true) (h0 : ¬ kd = 0) (h2 : x = 0 → ¬ kd = 2) (H : wY_request_23 post s kd x d b t y_time y_last y_watchCount y_partCount y_wrong y_changes y_log y_since y_placesLeft y_paths y_values y_open y_timeouts y_deadlines y_events y_eventCounts y_watchers y_watchKinds y_watchPaths y_parts y_happened y_how) : wpY_request post (y_time, y_last, y_watchCount, y_partCount, y_wrong, y_changes, y_log, y_since, y_placesLeft, y_paths, y_values, y_open, y_timeouts, y_deadlines, y_events, y_eventCounts, y_watchers, y_watchKinds, y_watchPaths, y_parts, y_happened, y_how) s kd x d b t := by
  unfold wpY_request
  exact wy_isPath_t hip (br_f (by decide) (br_c (fun e => br_f h0 (br_f (h2 e) H)) (fun _ => H)))
theorem wy_23_nn {post : Int32 → SY → Prop} {s kd x d b t : Int32} (h0 : ¬ kd = 0) (hq : ¬ wt_fd y_paths x < 21) (hp : post (-3) (y_time, y_last, y_watchCount, y_partCount, y_wrong, y_changes, y_log, y_since, y_placesLeft, y_paths, y_values, y_open, y_timeouts, y_deadlines, y_events, y_eventCounts, y_watchers, y_watchKinds, y_watchPaths, y_parts, y_happened, y_how)) : wY_request_23 post s kd x d b t y_time y_last y_watchCount y_partCount y_wrong y_changes y_log y_since y_placesLeft y_paths y_values y_open y_timeouts y_deadlines y_events y_eventCounts y_watchers y_watchKinds y_watchPaths y_parts y_happened y_how := br_f h0 (wy_find_f hq (br_f (by decide) hp))
theorem wy_23_v {post : Int32 → SY → Prop} {s kd x d b t : Int32} (h0 : ¬ kd = 0) (hq : wt_fd y_paths x < 21) (h1 : ¬ b = -1) (h2 : ¬ b = y_values (6 * wt_fd y_paths x + 1)) (hp : post (-7) (y_time, y_last, y_watchCount, y_partCount, y_wrong, y_changes, y_log, y_since, y_placesLeft, y_paths, y_values, y_open, y_timeouts, y_deadlines, y_events, y_eventCounts, y_watchers, y_watchKinds, y_watchPaths, y_parts, y_happened, y_how)) : wY_request_23 post s kd x d b t y_time y_last y_watchCount y_partCount y_wrong y_changes y_log y_since y_placesLeft y_paths y_values y_open y_timeouts y_deadlines y_events y_eventCounts y_watchers y_watchKinds y_watchPaths y_parts y_happened y_how := by
  have yv : y_values ((6 : Int32) * nI (wt_fd y_paths x) + 1).toNatClampNeg = y_values (6 * wt_fd y_paths x + 1) := congrArg y_values (wt_6c _ 1 hq (by omega))
  exact br_f h0 (wy_find_t hq (br_t (nI_pos' (by omega)) (br_f h1 ⟨wt_6in _ 1 hq (by omega), br_f (fun z => h2 (z.trans yv)) hp⟩)))
theorem wy_23_ok {post : Int32 → SY → Prop} {s kd x d b t : Int32} (h0 : ¬ kd = 0) (hq : wt_fd y_paths x < 21) (h : b = -1 ∨ b = y_values (6 * wt_fd y_paths x + 1)) (H : wY_request_81 post kd x d t (nI (wt_fd y_paths x)) y_time y_last y_watchCount y_partCount y_wrong y_changes y_log y_since y_placesLeft y_paths y_values y_open y_timeouts y_deadlines y_events y_eventCounts y_watchers y_watchKinds y_watchPaths y_parts y_happened y_how) : wY_request_23 post s kd x d b t y_time y_last y_watchCount y_partCount y_wrong y_changes y_log y_since y_placesLeft y_paths y_values y_open y_timeouts y_deadlines y_events y_eventCounts y_watchers y_watchKinds y_watchPaths y_parts y_happened y_how := by
  have yv : y_values ((6 : Int32) * nI (wt_fd y_paths x) + 1).toNatClampNeg = y_values (6 * wt_fd y_paths x + 1) := congrArg y_values (wt_6c _ 1 hq (by omega))
  refine br_f h0 (wy_find_t hq (br_t (nI_pos' (by omega)) (br_c (fun _ => H) (fun z => ⟨wt_6in _ 1 hq (by omega), br_t ?_ H⟩))))
  rcases h with h | h
  · exact absurd h z
  · exact h.trans yv.symm
/-- performSet behind findWithVersion -/
theorem wx_set {post : Int32 → SX → Prop} {p w : Nat → Int32} {k c : Nat} {d x b : Int32} (hT : wt_T x_tree p w) (hk : k < 21) (hc : c < 20) (hp : post (w (6 * k + 1) + 1) (x_time, x_partCount, x_wrongAt, (nI (c + 1)), n, x_logStart, x_snapshotStart, x_placesLeft, (upd (upd (upd x_tree (7 * k + 0) d) (7 * k + 1) (w (6 * k + 1) + 1)) (7 * k + 4) (n + 1)), x_treeBefore, x_timeouts, x_deadlines, x_events, x_eventCounts, x_watchSessions, x_watchKinds, x_watchPaths, x_partKinds, x_partPaths, x_partAs, x_partBs, (upd x_changePaths c x), (upd x_changeKinds c 3))) (fv : ∀ P : Int32 → Prop, P (nI (7 * k)) → wpX_findWithVersion P (x_time, x_partCount, x_wrongAt, (nI c), n, x_logStart, x_snapshotStart, x_placesLeft, x_tree, x_treeBefore, x_timeouts, x_deadlines, x_events, x_eventCounts, x_watchSessions, x_watchKinds, x_watchPaths, x_partKinds, x_partPaths, x_partAs, x_partBs, x_changePaths, x_changeKinds) x b) : wpX_performSet post (x_time, x_partCount, x_wrongAt, (nI c), n, x_logStart, x_snapshotStart, x_placesLeft, x_tree, x_treeBefore, x_timeouts, x_deadlines, x_events, x_eventCounts, x_watchSessions, x_watchKinds, x_watchPaths, x_partKinds, x_partPaths, x_partAs, x_partBs, x_changePaths, x_changeKinds) x d b := by
  unfold wpX_performSet
  have c1 := wt_7c k 1 hk (by omega)
  have v1 : upd x_tree (7 * k + 0) d (nI (7 * k) + 1).toNatClampNeg = w (6 * k + 1) := by
    refine (congrArg (upd x_tree (7 * k + 0) d) c1).trans ?_
    rw [pk_un (by omega)]
    exact (hT k hk).2 1 (by omega)
  refine fv _ (br_t (nI_pos' (by omega)) ⟨wt_7in k 0 hk (by omega), nm_r (wt_ui x_tree d (wt_7c k 0 hk (by omega))) ⟨wt_7in k 1 hk (by omega), wt_7in k 1 hk (by omega), nm_r (e' := upd (upd x_tree (7 * k + 0) d) (7 * k + 1) (w (6 * k + 1) + 1)) ?_ ⟨wt_7in k 4 hk (by omega), nm_r (wt_ui _ _ (wt_7c k 4 hk (by omega))) (wx_note hc ⟨wt_7in k 1 hk (by omega), ?_⟩)⟩⟩⟩)
  · rw [v1]
    exact wt_ui _ _ c1
  · have r1 : upd (upd (upd x_tree (7 * k + 0) d) (7 * k + 1) (w (6 * k + 1) + 1)) (7 * k + 4) (n + 1) (nI (7 * k) + 1).toNatClampNeg = w (6 * k + 1) + 1 := by
      refine (congrArg (upd (upd (upd x_tree (7 * k + 0) d) (7 * k + 1) (w (6 * k + 1) + 1)) (7 * k + 4) (n + 1)) c1).trans ?_
      rw [pk_un (by omega), pk_us]
    rw [r1]
    exact hp
theorem wy_set {post : Int32 → SY → Prop} {k c : Nat} {d x t : Int32} (hk : k < 21) (hc : c < 21) (hp : post (y_values (6 * k + 1) + 1) (y_time, y_last, y_watchCount, y_partCount, y_wrong, (nI (c + 1)), y_log, y_since, y_placesLeft, y_paths, (upd (upd (upd y_values (6 * k + 0) d) (6 * k + 1) (y_values (6 * k + 1) + 1)) (6 * k + 4) t), y_open, y_timeouts, y_deadlines, y_events, y_eventCounts, y_watchers, y_watchKinds, y_watchPaths, y_parts, (upd y_happened c x), (upd y_how c 3))) : wY_request_81 post 1 x d t (nI k) y_time y_last y_watchCount y_partCount y_wrong (nI c) y_log y_since y_placesLeft y_paths y_values y_open y_timeouts y_deadlines y_events y_eventCounts y_watchers y_watchKinds y_watchPaths y_parts y_happened y_how := by
  have c1 := wt_6c k 1 hk (by omega)
  have v1 : upd (upd y_values (6 * k + 0) d) (6 * k + 4) t ((6 : Int32) * nI k + 1).toNatClampNeg = y_values (6 * k + 1) := by
    refine (congrArg (upd (upd y_values (6 * k + 0) d) (6 * k + 4) t) c1).trans ?_
    rw [pk_un (by omega), pk_un (by omega)]
  rw [wt_ucomm (i := 6 * k + 1) (j := 6 * k + 4) (by omega)] at hp
  refine br_t rfl ⟨wt_6in0 k hk, nm_r (wt_ui y_values d (wt_6c0 k hk)) ⟨wt_6in k 4 hk (by omega), nm_r (wt_ui _ _ (wt_6c k 4 hk (by omega))) (wy_note hc ⟨wt_6in k 1 hk (by omega), wt_6in k 1 hk (by omega), nm_r (e' := upd (upd (upd y_values (6 * k + 0) d) (6 * k + 4) t) (6 * k + 1) (y_values (6 * k + 1) + 1)) ?_ ?_⟩)⟩⟩
  · have h := congrArg (fun z => upd (upd (upd y_values (6 * k + 0) d) (6 * k + 4) t) ((6 : Int32) * nI k + 1).toNatClampNeg (z + 1)) v1
    exact h.trans (wt_ui _ _ c1)
  · have h := congrArg (fun z => z + 1) v1
    exact (congrArg (fun z => post z (y_time, y_last, y_watchCount, y_partCount, y_wrong, (nI (c + 1)), y_log, y_since, y_placesLeft, y_paths, (upd (upd (upd y_values (6 * k + 0) d) (6 * k + 4) t) (6 * k + 1) (y_values (6 * k + 1) + 1)), y_open, y_timeouts, y_deadlines, y_events, y_eventCounts, y_watchers, y_watchKinds, y_watchPaths, y_parts, (upd y_happened c x), (upd y_how c 3))) h).mpr hp
theorem wt_set {B c : Nat} {s d x b : Int32} (hT : wt_T x_tree y_paths y_values) (hI : wt_I y_paths y_values) (hV : wt_V B y_values) (hC : wt_C c x_changeKinds x_changePaths y_happened y_how) (hc : c < 20) (hB : B < 2 ^ 30) :
    ∃ (r : Int32) (t' p' w' xk' xp' yh' yw' : Nat → Int32) (c' : Nat), (∀ post : Int32 → SX → Prop, post r (x_time, x_partCount, x_wrongAt, (nI c'), n, x_logStart, x_snapshotStart, x_placesLeft, t', x_treeBefore, x_timeouts, x_deadlines, x_events, x_eventCounts, x_watchSessions, x_watchKinds, x_watchPaths, x_partKinds, x_partPaths, x_partAs, x_partBs, xp', xk') → wpX_perform post (x_time, x_partCount, x_wrongAt, (nI c), n, x_logStart, x_snapshotStart, x_placesLeft, x_tree, x_treeBefore, x_timeouts, x_deadlines, x_events, x_eventCounts, x_watchSessions, x_watchKinds, x_watchPaths, x_partKinds, x_partPaths, x_partAs, x_partBs, x_changePaths, x_changeKinds) s 1 x d b) ∧ (∀ post : Int32 → SY → Prop, post r (y_time, n, y_watchCount, y_partCount, y_wrong, (nI c'), y_log, y_since, y_placesLeft, p', w', y_open, y_timeouts, y_deadlines, y_events, y_eventCounts, y_watchers, y_watchKinds, y_watchPaths, y_parts, yh', yw') → wpY_request post (y_time, n, y_watchCount, y_partCount, y_wrong, (nI c), y_log, y_since, y_placesLeft, y_paths, y_values, y_open, y_timeouts, y_deadlines, y_events, y_eventCounts, y_watchers, y_watchKinds, y_watchPaths, y_parts, y_happened, y_how) s 1 x d b (n + 1)) ∧ wt_O B c y_paths y_values 1 r r t' p' w' xk' xp' yh' yw' c' := by
  by_cases hip : wt_ip x = true
  · by_cases hq : wt_fd y_paths x < 21
    · by_cases hb : b = -1 ∨ b = y_values (6 * wt_fd y_paths x + 1)
      · obtain ⟨v, z1, z2⟩ := hV _ hq 1 (Or.inl rfl)
        refine ⟨y_values (6 * wt_fd y_paths x + 1) + 1, upd (upd (upd x_tree (7 * wt_fd y_paths x + 0) d) (7 * wt_fd y_paths x + 1) (y_values (6 * wt_fd y_paths x + 1) + 1)) (7 * wt_fd y_paths x + 4) (n + 1), y_paths, upd (upd (upd y_values (6 * wt_fd y_paths x + 0) d) (6 * wt_fd y_paths x + 1) (y_values (6 * wt_fd y_paths x + 1) + 1)) (6 * wt_fd y_paths x + 4) (n + 1), upd x_changeKinds c 3, upd x_changePaths c x, upd y_happened c x, upd y_how c 3, c + 1, fun post hp => ?_, fun post hp => ?_, ?_⟩
        · exact (br_f (by decide) (br_f (by decide) (br_f (by decide) (br_t rfl (wx_set hT hq hc hp (fun P h => wx_fv_ok hT hip hq hb h))))))
        · exact wy_req_23 hip (by decide) (fun _ => by decide) (wy_23_ok (by decide) hq hb (wy_set hq (by omega) hp))
        · refine ⟨wt_T_w (wt_T_w (wt_T_w hT (j := 0) (by omega) d) (j := 1) (by omega) _) (j := 4) (by omega) (n + 1), wt_I_w hI (fun j hj => ?_), wt_V_n (wt_V_b (wt_V_n (wt_V_up hV (by omega)) (by omega) (by omega) (by omega)) ⟨v + 1, by omega, by rw [z2, nI_1]⟩) (by omega) (by omega) (by omega), wt_C_s hC hc (Or.inr (Or.inr rfl)) ?_, fun j _ => rfl, fun j hj => ?_, Or.inr ⟨?_, ?_, fun _ => rfl, by omega⟩⟩
          · rw [pk_un (by omega), pk_un (by omega), pk_un (by omega)]
          · obtain ⟨a, ha, e⟩ := wt_ip_t hip
            exact ⟨a, ha, e⟩
          · rw [pk_un (by omega), pk_un (by omega), pk_un (by omega)]
          · rw [z2, nI_1]; exact nI_pos (by omega)
          · rw [z2, nI_1]; exact nI_pos (by omega)
      · have hb1 : ¬ b = -1 := fun z => hb (Or.inl z)
        have hb2 : ¬ b = y_values (6 * wt_fd y_paths x + 1) := fun z => hb (Or.inr z)
        refine ⟨-7, _, _, _, _, _, _, _, _, fun post hp => ?_, fun post hp => ?_, wt_O_f hT hI hV hC (by decide)⟩
        · refine br_f (by decide) (br_f (by decide) (br_f (by decide) (br_t rfl ?_)))
          unfold wpX_performSet
          exact wx_fv_v hT hip hq hb1 hb2 (br_f (by decide) hp)
        · exact wy_req_23 hip (by decide) (fun _ => by decide) (wy_23_v (by decide) hq hb1 hb2 hp)
    · refine ⟨-3, _, _, _, _, _, _, _, _, fun post hp => ?_, fun post hp => ?_, wt_O_f hT hI hV hC (by decide)⟩
      · refine br_f (by decide) (br_f (by decide) (br_f (by decide) (br_t rfl ?_)))
        unfold wpX_performSet
        exact wx_fv_nn hT hip hq (br_f (by decide) hp)
      · exact wy_req_23 hip (by decide) (fun _ => by decide) (wy_23_nn (by decide) hq hp)
  · refine ⟨-2, _, _, _, _, _, _, _, _, fun post hp => ?_, fun post hp => ?_, wt_O_f hT hI hV hC (by decide)⟩
    · refine br_f (by decide) (br_f (by decide) (br_f (by decide) (br_t rfl ?_)))
      unfold wpX_performSet
      exact wx_fv_np hip (br_f (by decide) hp)
    · exact wy_req_np hip hp
theorem wt_remove {B c : Nat} {s d x b : Int32} (hT : wt_T x_tree y_paths y_values) (hI : wt_I y_paths y_values) (hV : wt_V B y_values) (hC : wt_C c x_changeKinds x_changePaths y_happened y_how) (hc : c < 20) (hB : B < 2 ^ 30) :
    ∃ (r : Int32) (t' p' w' xk' xp' yh' yw' : Nat → Int32) (c' : Nat), (∀ post : Int32 → SX → Prop, post r (x_time, x_partCount, x_wrongAt, (nI c'), n, x_logStart, x_snapshotStart, x_placesLeft, t', x_treeBefore, x_timeouts, x_deadlines, x_events, x_eventCounts, x_watchSessions, x_watchKinds, x_watchPaths, x_partKinds, x_partPaths, x_partAs, x_partBs, xp', xk') → wpX_perform post (x_time, x_partCount, x_wrongAt, (nI c), n, x_logStart, x_snapshotStart, x_placesLeft, x_tree, x_treeBefore, x_timeouts, x_deadlines, x_events, x_eventCounts, x_watchSessions, x_watchKinds, x_watchPaths, x_partKinds, x_partPaths, x_partAs, x_partBs, x_changePaths, x_changeKinds) s 2 x d b) ∧ (∀ post : Int32 → SY → Prop, post r (y_time, n, y_watchCount, y_partCount, y_wrong, (nI c'), y_log, y_since, y_placesLeft, p', w', y_open, y_timeouts, y_deadlines, y_events, y_eventCounts, y_watchers, y_watchKinds, y_watchPaths, y_parts, yh', yw') → wpY_request post (y_time, n, y_watchCount, y_partCount, y_wrong, (nI c), y_log, y_since, y_placesLeft, y_paths, y_values, y_open, y_timeouts, y_deadlines, y_events, y_eventCounts, y_watchers, y_watchKinds, y_watchPaths, y_parts, y_happened, y_how) s 2 x d b (n + 1)) ∧ wt_O B c y_paths y_values 2 r r t' p' w' xk' xp' yh' yw' c' := by
  by_cases hip : wt_ip x = true
  · by_cases x0 : x = 0
    · refine ⟨-2, _, _, _, _, _, _, _, _, fun post hp => ?_, fun post hp => ?_, wt_O_f hT hI hV hC (by decide)⟩
      · exact br_f (by decide) (br_f (by decide) (br_f (by decide) (br_f (by decide) (br_t rfl (br_t x0 hp)))))
      · unfold wpY_request
        exact wy_isPath_t hip (br_f (by decide) (br_t x0 (br_f (by decide) (br_t rfl hp))))
    · by_cases hq : wt_fd y_paths x < 21
      · by_cases hb : b = -1 ∨ b = y_values (6 * wt_fd y_paths x + 1)
        · have hat := (wt_fd_at hq).1
          have k1 : 1 ≤ wt_fd y_paths x := by
            apply Nat.pos_of_ne_zero
            intro z
            rw [z, hI.1] at hat
            exact x0 hat.symm
          have kn : ¬ y_paths (wt_fd y_paths x) = -1 := fun z => by
            have g := (wt_fd_at hq).2
            rw [← hat, z] at g
            exact g (by decide)
          have fvx : ∀ P : Int32 → Prop, P (nI (7 * wt_fd y_paths x)) → wpX_findWithVersion P (x_time, x_partCount, x_wrongAt, (nI c), n, x_logStart, x_snapshotStart, x_placesLeft, x_tree, x_treeBefore, x_timeouts, x_deadlines, x_events, x_eventCounts, x_watchSessions, x_watchKinds, x_watchPaths, x_partKinds, x_partPaths, x_partAs, x_partBs, x_changePaths, x_changeKinds) x b := fun P h => wx_fv_ok hT hip hq hb h
          have fvy : ∀ post : Int32 → SY → Prop, wY_request_81 post 2 x d (n + 1) (nI (wt_fd y_paths x)) y_time n y_watchCount y_partCount y_wrong (nI c) y_log y_since y_placesLeft y_paths y_values y_open y_timeouts y_deadlines y_events y_eventCounts y_watchers y_watchKinds y_watchPaths y_parts y_happened y_how → wpY_request post (y_time, n, y_watchCount, y_partCount, y_wrong, (nI c), y_log, y_since, y_placesLeft, y_paths, y_values, y_open, y_timeouts, y_deadlines, y_events, y_eventCounts, y_watchers, y_watchKinds, y_watchPaths, y_parts, y_happened, y_how) s 2 x d b (n + 1) := fun post H => wy_req_23 hip (by decide) (fun z => absurd z x0) (wy_23_ok (by decide) hq hb H)
          generalize hK : wt_fd y_paths x = k at *
          by_cases hch : wt_ct (wt_ch y_paths x) 21 = 0
          · have hno : ∀ j, j < 21 → 0 < y_paths j → ¬ y_paths j / 101 = y_paths k := fun j hj h1 h2 => (wt_ct_0 21).mp hch j hj (decide_eq_true ⟨h1, h2.trans hat⟩)
            obtain ⟨g1, g2, g3, g4, g5⟩ := wt_taken hT hI hV hC hc hB k1 hq kn (Or.inr hno)
            refine ⟨_, _, _, _, _, _, _, _, c + 1, fun post hp => ?_, fun post hp => ?_, g1, g2, g3, g4, fun j hj => pk_un (by omega), fun j hj => ?_, Or.inr ⟨g5, g5, fun _ => rfl, by omega⟩⟩
            · refine br_f (by decide) (br_f (by decide) (br_f (by decide) (br_f (by decide) (br_t rfl (br_f x0 ?_)))))
              refine fvx _ (br_t (nI_pos' (by omega)) (wx_cch hT ?_))
              rw [hch]
              exact br_t rfl (wx_take hT hI k1 hq kn hc hp)
            · refine fvy _ (br_f (by decide) (br_f (by decide) (wy_chi hI ?_)))
              rw [hch]
              exact br_t (by decide) (wy_take hI k1 hq kn (by omega) hp)
            · have l := (wt_I_pa hI k1 hq kn).1
              rw [pk_un (by omega)]
          · have hle := wt_ct_le (wt_ch y_paths x) 21
            refine ⟨-8, _, _, _, _, _, _, _, _, fun post hp => ?_, fun post hp => ?_, wt_O_f hT hI hV hC (by decide)⟩
            · refine br_f (by decide) (br_f (by decide) (br_f (by decide) (br_f (by decide) (br_t rfl (br_f x0 ?_)))))
              exact fvx _ (br_t (nI_pos' (by omega)) (wx_cch hT (br_f (nI_ne0 (by omega) (by omega)) hp)))
            · exact fvy _ (br_f (by decide) (br_f (by decide) (wy_chi hI (br_f (nI_nle (by omega) (by omega)) hp))))
        · have hb1 : ¬ b = -1 := fun z => hb (Or.inl z)
          have hb2 : ¬ b = y_values (6 * wt_fd y_paths x + 1) := fun z => hb (Or.inr z)
          refine ⟨-7, _, _, _, _, _, _, _, _, fun post hp => ?_, fun post hp => ?_, wt_O_f hT hI hV hC (by decide)⟩
          · refine br_f (by decide) (br_f (by decide) (br_f (by decide) (br_f (by decide) (br_t rfl (br_f x0 ?_)))))
            exact wx_fv_v hT hip hq hb1 hb2 (br_f (by decide) hp)
          · exact wy_req_23 hip (by decide) (fun z => absurd z x0) (wy_23_v (by decide) hq hb1 hb2 hp)
      · refine ⟨-3, _, _, _, _, _, _, _, _, fun post hp => ?_, fun post hp => ?_, wt_O_f hT hI hV hC (by decide)⟩
        · refine br_f (by decide) (br_f (by decide) (br_f (by decide) (br_f (by decide) (br_t rfl (br_f x0 ?_)))))
          exact wx_fv_nn hT hip hq (br_f (by decide) hp)
        · exact wy_req_23 hip (by decide) (fun z => absurd z x0) (wy_23_nn (by decide) hq hp)
  · refine ⟨-2, _, _, _, _, _, _, _, _, fun post hp => ?_, fun post hp => ?_, wt_O_f hT hI hV hC (by decide)⟩
    · refine br_f (by decide) (br_f (by decide) (br_f (by decide) (br_f (by decide) (br_t rfl (br_c (fun _ => hp) (fun _ => ?_))))))
      exact wx_fv_np hip (br_f (by decide) hp)
    · exact wy_req_np hip hp
theorem wt_check {B c : Nat} {s d x b : Int32} (hT : wt_T x_tree y_paths y_values) (hI : wt_I y_paths y_values) (hV : wt_V B y_values) (hC : wt_C c x_changeKinds x_changePaths y_happened y_how) :
    ∃ (r r' : Int32), (∀ post : Int32 → SX → Prop, post r (x_time, x_partCount, x_wrongAt, (nI c), n, x_logStart, x_snapshotStart, x_placesLeft, x_tree, x_treeBefore, x_timeouts, x_deadlines, x_events, x_eventCounts, x_watchSessions, x_watchKinds, x_watchPaths, x_partKinds, x_partPaths, x_partAs, x_partBs, x_changePaths, x_changeKinds) → wpX_perform post (x_time, x_partCount, x_wrongAt, (nI c), n, x_logStart, x_snapshotStart, x_placesLeft, x_tree, x_treeBefore, x_timeouts, x_deadlines, x_events, x_eventCounts, x_watchSessions, x_watchKinds, x_watchPaths, x_partKinds, x_partPaths, x_partAs, x_partBs, x_changePaths, x_changeKinds) s 3 x d b) ∧ (∀ post : Int32 → SY → Prop, post r' (y_time, n, y_watchCount, y_partCount, y_wrong, (nI c), y_log, y_since, y_placesLeft, y_paths, y_values, y_open, y_timeouts, y_deadlines, y_events, y_eventCounts, y_watchers, y_watchKinds, y_watchPaths, y_parts, y_happened, y_how) → wpY_request post (y_time, n, y_watchCount, y_partCount, y_wrong, (nI c), y_log, y_since, y_placesLeft, y_paths, y_values, y_open, y_timeouts, y_deadlines, y_events, y_eventCounts, y_watchers, y_watchKinds, y_watchPaths, y_parts, y_happened, y_how) s 3 x d b (n + 1)) ∧ wt_O B c y_paths y_values 3 r r' x_tree y_paths y_values x_changeKinds x_changePaths y_happened y_how c := by
  by_cases hip : wt_ip x = true
  · by_cases hq : wt_fd y_paths x < 21
    · by_cases hb : b = -1 ∨ b = y_values (6 * wt_fd y_paths x + 1)
      · refine ⟨nI (7 * wt_fd y_paths x), 0, fun post hp => ?_, fun post hp => ?_, hT, hI, wt_V_up hV (by omega), hC, fun _ _ => rfl, fun _ _ => rfl, Or.inr ⟨nI_pos (by omega), by decide, fun z => absurd rfl z, by omega⟩⟩
        · exact br_f (by decide) (br_t (by decide) (wx_fv_ok hT hip hq hb hp))
        · exact wy_req_23 hip (by decide) (fun _ => by decide) (wy_23_ok (by decide) hq hb (br_f (by decide) (br_t rfl hp)))
      · have hb1 : ¬ b = -1 := fun z => hb (Or.inl z)
        have hb2 : ¬ b = y_values (6 * wt_fd y_paths x + 1) := fun z => hb (Or.inr z)
        refine ⟨-7, -7, fun post hp => ?_, fun post hp => ?_, wt_O_f hT hI hV hC (by decide)⟩
        · exact br_f (by decide) (br_t (by decide) (wx_fv_v hT hip hq hb1 hb2 hp))
        · exact wy_req_23 hip (by decide) (fun _ => by decide) (wy_23_v (by decide) hq hb1 hb2 hp)
    · refine ⟨-3, -3, fun post hp => ?_, fun post hp => ?_, wt_O_f hT hI hV hC (by decide)⟩
      · exact br_f (by decide) (br_t (by decide) (wx_fv_nn hT hip hq hp))
      · exact wy_req_23 hip (by decide) (fun _ => by decide) (wy_23_nn (by decide) hq hp)
  · refine ⟨-2, -2, fun post hp => ?_, fun post hp => ?_, wt_O_f hT hI hV hC (by decide)⟩
    · exact br_f (by decide) (br_t (by decide) (wx_fv_np hip hp))
    · exact wy_req_np hip hp
end
end
section
def wt_G (s q b : Int32) : Int32 → Int32 → Int32 → Bool := fun a k c => decide (¬ ((b >>> (k &&& 31)) &&& 1) = 0) && (decide (a = s) && decide (c = q))
def wt_G0 (s : Int32) : Int32 → Int32 → Int32 → Bool := fun a _ _ => decide (a = s)
def wt_H (s q b : Int32) : Int32 → Int32 → Int32 → Bool := fun a k c => decide (a = s) && (decide (¬ ((b >>> (k &&& 31)) &&& 1) = 0) && (decide (q < 0) || decide (c = q)))
theorem wt_b3 (A B C : Bool) : (A && (B && C)) = (B && (A && (false || C))) := by
  cases A <;> cases B <;> cases C <;> rfl
theorem wt_GH {s q b : Int32} (hq : ¬ q < 0) (x y z : Int32) : wt_G s q b x y z = wt_H s q b x y z := by
  unfold wt_G wt_H
  rw [decide_eq_false hq]
  exact wt_b3 _ _ _
theorem wt_H_t {s q b x y z : Int32} (g1 : x = s) (g2 : ¬ ((b >>> (y &&& 31)) &&& 1) = 0) (g3 : q < 0 ∨ z = q) : wt_H s q b x y z = true := by
  unfold wt_H
  rw [decide_eq_true g1, decide_eq_true g2]
  rcases g3 with g | g
  · rw [decide_eq_true g]; rfl
  · rw [decide_eq_true g]; cases decide (q < 0) <;> rfl
theorem wt_bt {P : Prop} [Decidable P] (h : P) : wt_b (decide P) = 1 := by rw [decide_eq_true h]; rfl
theorem wt_bf {P : Prop} [Decidable P] (h : ¬ P) : wt_b (decide P) = 0 := by rw [decide_eq_false h]; rfl
theorem wt_bn (b : Bool) : narrow .boolean (.int (wt_b b)) = .int (wt_b b) := by cases b <;> rfl
section
variable {x_time x_partCount x_wrongAt x_changeCount x_transactions x_logStart x_snapshotStart x_placesLeft : Int32} {x_tree x_treeBefore x_timeouts x_deadlines x_events x_eventCounts x_watchSessions x_watchKinds x_watchPaths x_partKinds x_partPaths x_partAs x_partBs x_changePaths x_changeKinds : Nat → Int32}
theorem wx_away_lp {post : Int32 → SX → Prop} {s q b : Int32} (hp : post (wt_b (decide (0 < wt_ct (fun j => wt_G s q b (x_watchSessions j) (x_watchKinds j) (x_watchPaths j)) 16))) (x_time, x_partCount, x_wrongAt, x_changeCount, x_transactions, x_logStart, x_snapshotStart, x_placesLeft, x_tree, x_treeBefore, x_timeouts, x_deadlines, x_events, x_eventCounts, (wt_dr (wt_G s q b) x_watchSessions x_watchKinds x_watchPaths 16), x_watchKinds, x_watchPaths, x_partKinds, x_partPaths, x_partAs, x_partBs, x_changePaths, x_changeKinds)) : ∀ d i, i + d = 16 → wX_takeWatchesAway_6 post s q b x_time x_partCount x_wrongAt x_changeCount x_transactions x_logStart x_snapshotStart x_placesLeft (d + 1) (wt_b (decide (0 < wt_ct (fun j => wt_G s q b (x_watchSessions j) (x_watchKinds j) (x_watchPaths j)) i))) (nI i) x_tree x_treeBefore x_timeouts x_deadlines x_events x_eventCounts (wt_dr (wt_G s q b) x_watchSessions x_watchKinds x_watchPaths i) x_watchKinds x_watchPaths x_partKinds x_partPaths x_partAs x_partBs x_changePaths x_changeKinds := by
  intro d
  induction d with
  | zero =>
    intro i hi
    have e : i = 16 := by omega
    subst e
    exact br_t (nI_le (a := 16) (b := 16) (by omega) (by omega)) ⟨wt_bn _, hp⟩
  | succ d ih =>
    intro i hi
    have ci : (nI i).toNatClampNeg = i := nI_clamp (by omega)
    have vi : vp_in (nI i) 16 := vp_in_nI (by omega) (by omega)
    have hn := ih (i + 1) (by omega)
    refine br_f (nI_ge (b := 16) (by omega) (by omega)) ⟨vi, ?_⟩
    unfold wX_takeWatchesAway_32
    rw [ci, wt_dr_at]
    by_cases g : wt_G s q b (x_watchSessions i) (x_watchKinds i) (x_watchPaths i) = true
    · have g1 := of_decide_eq_true (wt_and g).1
      have g2 := of_decide_eq_true (wt_and (wt_and g).2).1
      have g3 := of_decide_eq_true (wt_and (wt_and g).2).2
      have e1 : wt_ct (fun j => wt_G s q b (x_watchSessions j) (x_watchKinds j) (x_watchPaths j)) (i + 1) = wt_ct (fun j => wt_G s q b (x_watchSessions j) (x_watchKinds j) (x_watchPaths j)) i + 1 := wt_ct_t g
      rw [e1, wt_bt (Nat.succ_pos _), ← wt_dr_t g] at hn
      exact br_f g1 (br_f (by decide) ⟨vi, br_t g2 ⟨vi, br_t g3 ⟨vi, nm_e (nm_r (nI_1 i) hn)⟩⟩⟩)
    · have e1 : wt_ct (fun j => wt_G s q b (x_watchSessions j) (x_watchKinds j) (x_watchPaths j)) (i + 1) = wt_ct (fun j => wt_G s q b (x_watchSessions j) (x_watchKinds j) (x_watchPaths j)) i := wt_ct_f g
      rw [e1, ← wt_dr_f g] at hn
      refine br_c (fun _ => br_t rfl (nm_r (nI_1 i) hn)) (fun g1 => br_f (by decide) ⟨vi, br_c (fun g2 => ⟨vi, br_f (fun g3 => g ?_) (nm_r (nI_1 i) hn)⟩) (fun _ => nm_r (nI_1 i) hn)⟩)
      unfold wt_G
      rw [decide_eq_true g1, decide_eq_true g2, decide_eq_true g3]
      rfl
theorem wx_away {post : Int32 → SX → Prop} {s q b : Int32} (hp : post (wt_b (decide (0 < wt_ct (fun j => wt_G s q b (x_watchSessions j) (x_watchKinds j) (x_watchPaths j)) 16))) (x_time, x_partCount, x_wrongAt, x_changeCount, x_transactions, x_logStart, x_snapshotStart, x_placesLeft, x_tree, x_treeBefore, x_timeouts, x_deadlines, x_events, x_eventCounts, (wt_dr (wt_G s q b) x_watchSessions x_watchKinds x_watchPaths 16), x_watchKinds, x_watchPaths, x_partKinds, x_partPaths, x_partAs, x_partBs, x_changePaths, x_changeKinds)) : wpX_takeWatchesAway post (x_time, x_partCount, x_wrongAt, x_changeCount, x_transactions, x_logStart, x_snapshotStart, x_placesLeft, x_tree, x_treeBefore, x_timeouts, x_deadlines, x_events, x_eventCounts, x_watchSessions, x_watchKinds, x_watchPaths, x_partKinds, x_partPaths, x_partAs, x_partBs, x_changePaths, x_changeKinds) s q b := by
  have h := wx_away_lp hp 16 0 rfl
  rw [wt_dr_0] at h
  exact ⟨17, h⟩
theorem wx_dropOf_lp {post : SX → Prop} {s : Int32} (hp : post (x_time, x_partCount, x_wrongAt, x_changeCount, x_transactions, x_logStart, x_snapshotStart, x_placesLeft, x_tree, x_treeBefore, x_timeouts, x_deadlines, x_events, x_eventCounts, (wt_dr (wt_G0 s) x_watchSessions x_watchKinds x_watchPaths 16), x_watchKinds, x_watchPaths, x_partKinds, x_partPaths, x_partAs, x_partBs, x_changePaths, x_changeKinds)) : ∀ d i, i + d = 16 → wX_dropWatchesOf_2 post s x_time x_partCount x_wrongAt x_changeCount x_transactions x_logStart x_snapshotStart x_placesLeft (d + 1) (nI i) x_tree x_treeBefore x_timeouts x_deadlines x_events x_eventCounts (wt_dr (wt_G0 s) x_watchSessions x_watchKinds x_watchPaths i) x_watchKinds x_watchPaths x_partKinds x_partPaths x_partAs x_partBs x_changePaths x_changeKinds := by
  intro d
  induction d with
  | zero =>
    intro i hi
    have e : i = 16 := by omega
    subst e
    exact br_t (nI_le (a := 16) (b := 16) (by omega) (by omega)) hp
  | succ d ih =>
    intro i hi
    have ci : (nI i).toNatClampNeg = i := nI_clamp (by omega)
    have vi : vp_in (nI i) 16 := vp_in_nI (by omega) (by omega)
    have hn := ih (i + 1) (by omega)
    refine br_f (nI_ge (b := 16) (by omega) (by omega)) ⟨vi, ?_⟩
    rw [ci, wt_dr_at]
    by_cases g : x_watchSessions i = s
    · rw [← wt_dr_t (decide_eq_true g)] at hn
      exact br_t g ⟨vi, nm_e (nm_r (nI_1 i) hn)⟩
    · rw [← wt_dr_f (fun z => g (of_decide_eq_true z))] at hn
      exact br_f g (nm_r (nI_1 i) hn)
theorem wx_dropOf {post : SX → Prop} {s : Int32} (hp : post (x_time, x_partCount, x_wrongAt, x_changeCount, x_transactions, x_logStart, x_snapshotStart, x_placesLeft, x_tree, x_treeBefore, x_timeouts, x_deadlines, x_events, x_eventCounts, (wt_dr (wt_G0 s) x_watchSessions x_watchKinds x_watchPaths 16), x_watchKinds, x_watchPaths, x_partKinds, x_partPaths, x_partAs, x_partBs, x_changePaths, x_changeKinds)) : wpX_dropWatchesOf post (x_time, x_partCount, x_wrongAt, x_changeCount, x_transactions, x_logStart, x_snapshotStart, x_placesLeft, x_tree, x_treeBefore, x_timeouts, x_deadlines, x_events, x_eventCounts, x_watchSessions, x_watchKinds, x_watchPaths, x_partKinds, x_partPaths, x_partAs, x_partBs, x_changePaths, x_changeKinds) s := by
  have h := wx_dropOf_lp hp 16 0 rfl
  rw [wt_dr_0] at h
  exact ⟨17, h⟩
theorem wx_dropAll_lp {post : SX → Prop} (hp : post (x_time, x_partCount, x_wrongAt, x_changeCount, x_transactions, x_logStart, x_snapshotStart, x_placesLeft, x_tree, x_treeBefore, x_timeouts, x_deadlines, x_events, x_eventCounts, (wt_fl 16 (-1) x_watchSessions), x_watchKinds, x_watchPaths, x_partKinds, x_partPaths, x_partAs, x_partBs, x_changePaths, x_changeKinds)) : ∀ d i, i + d = 16 → wX_dropAllWatches_2 post x_time x_partCount x_wrongAt x_changeCount x_transactions x_logStart x_snapshotStart x_placesLeft (d + 1) (nI i) x_tree x_treeBefore x_timeouts x_deadlines x_events x_eventCounts (wt_fl i (-1) x_watchSessions) x_watchKinds x_watchPaths x_partKinds x_partPaths x_partAs x_partBs x_changePaths x_changeKinds := by
  intro d
  induction d with
  | zero =>
    intro i hi
    have e : i = 16 := by omega
    subst e
    exact br_t (nI_le (a := 16) (b := 16) (by omega) (by omega)) hp
  | succ d ih =>
    intro i hi
    have ci : (nI i).toNatClampNeg = i := nI_clamp (by omega)
    have hn := ih (i + 1) (by omega)
    rw [← wt_fl_s] at hn
    exact br_f (nI_ge (b := 16) (by omega) (by omega)) ⟨vp_in_nI (by omega) (by omega), nm_r (wt_ui _ _ ci) (nm_r (nI_1 i) hn)⟩
theorem wx_dropAll {post : SX → Prop} (hp : post (x_time, x_partCount, x_wrongAt, x_changeCount, x_transactions, x_logStart, x_snapshotStart, x_placesLeft, x_tree, x_treeBefore, x_timeouts, x_deadlines, x_events, x_eventCounts, (wt_fl 16 (-1) x_watchSessions), x_watchKinds, x_watchPaths, x_partKinds, x_partPaths, x_partAs, x_partBs, x_changePaths, x_changeKinds)) : wpX_dropAllWatches post (x_time, x_partCount, x_wrongAt, x_changeCount, x_transactions, x_logStart, x_snapshotStart, x_placesLeft, x_tree, x_treeBefore, x_timeouts, x_deadlines, x_events, x_eventCounts, x_watchSessions, x_watchKinds, x_watchPaths, x_partKinds, x_partPaths, x_partAs, x_partBs, x_changePaths, x_changeKinds) := by
  have h := wx_dropAll_lp hp 16 0 rfl
  rw [wt_fl_0] at h
  exact ⟨17, h⟩
end
section
variable {y_time y_last y_watchCount y_partCount y_wrong y_changes y_log y_since y_placesLeft : Int32} {y_paths y_values y_open y_timeouts y_deadlines y_events y_eventCounts y_watchers y_watchKinds y_watchPaths y_parts y_happened y_how : Nat → Int32}
theorem wy_59 {post : Int32 → SY → Prop} {J : Int32 → Int32 → (Nat → Int32) → (Nat → Int32) → (Nat → Int32) → (Nat → Int32) → (Nat → Int32) → (Nat → Int32) → (Nat → Int32) → (Nat → Int32) → (Nat → Int32) → (Nat → Int32) → (Nat → Int32) → (Nat → Int32) → (Nat → Int32) → Prop} {s q b : Int32} {n k : Nat} (hn : n < 16) (hk : k < 16) (H : J (nI (n + 1)) (nI (k + 1)) y_paths y_values y_open y_timeouts y_deadlines y_events y_eventCounts (upd y_watchers n (y_watchers k)) (upd y_watchKinds n (y_watchKinds k)) (upd y_watchPaths n (y_watchPaths k)) y_parts y_happened y_how) : wY_drop_60 post J s q b (nI n) (nI k) 0 y_time y_last y_watchCount y_partCount y_wrong y_changes y_log y_since y_placesLeft y_paths y_values y_open y_timeouts y_deadlines y_events y_eventCounts y_watchers y_watchKinds y_watchPaths y_parts y_happened y_how := by
  have vn : vp_in (nI n) 16 := vp_in_nI hn (by omega)
  have vk : vp_in (nI k) 16 := vp_in_nI hk (by omega)
  have cn : (nI n).toNatClampNeg = n := nI_clamp (by omega)
  have ck : (nI k).toNatClampNeg = k := nI_clamp (by omega)
  refine br_t rfl ⟨vk, vn, nm_r (by rw [cn, ck]) ⟨vk, vn, nm_r (by rw [cn, ck]) (nm_r (nI_1 n) ⟨vk, vn, nm_r (by rw [cn, ck]) (nm_r (nI_1 k) H)⟩)⟩⟩
theorem wy_drop_lp {post : Int32 → SY → Prop} {s q b : Int32} {c : Nat} (hc : c ≤ 16) (hp : post (wt_b (decide ((wt_cp (wt_H s q b) y_watchers y_watchKinds y_watchPaths c).1 < c))) (y_time, y_last, (nI (wt_cp (wt_H s q b) y_watchers y_watchKinds y_watchPaths c).1), y_partCount, y_wrong, y_changes, y_log, y_since, y_placesLeft, y_paths, y_values, y_open, y_timeouts, y_deadlines, y_events, y_eventCounts, (wt_cp (wt_H s q b) y_watchers y_watchKinds y_watchPaths c).2.1, (wt_cp (wt_H s q b) y_watchers y_watchKinds y_watchPaths c).2.2.1, (wt_cp (wt_H s q b) y_watchers y_watchKinds y_watchPaths c).2.2.2, y_parts, y_happened, y_how)) : ∀ d k, k + d = c → wY_drop_6 post s q b y_time y_last (nI c) y_partCount y_wrong y_changes y_log y_since y_placesLeft (d + 1) (nI (wt_cp (wt_H s q b) y_watchers y_watchKinds y_watchPaths k).1) (nI k) y_paths y_values y_open y_timeouts y_deadlines y_events y_eventCounts ((wt_cp (wt_H s q b) y_watchers y_watchKinds y_watchPaths k).2.1) ((wt_cp (wt_H s q b) y_watchers y_watchKinds y_watchPaths k).2.2.1) ((wt_cp (wt_H s q b) y_watchers y_watchKinds y_watchPaths k).2.2.2) y_parts y_happened y_how := by
  intro d
  induction d with
  | zero =>
    intro k hk
    have e : k = c := by omega
    subst e
    have h1 := (wt_cp_spec (wt_H s q b) y_watchers y_watchKinds y_watchPaths k).1
    refine br_t (nI_le (Nat.le_refl _) (by omega)) ?_
    by_cases g : (wt_cp (wt_H s q b) y_watchers y_watchKinds y_watchPaths k).1 < k
    · rw [wt_bt g] at hp
      exact br_f (nI_ge g (by omega)) hp
    · rw [wt_bf g] at hp
      exact br_t (nI_le (by omega) (by omega)) hp
  | succ d ih =>
    intro k hk
    have h1 := (wt_cp_spec (wt_H s q b) y_watchers y_watchKinds y_watchPaths k).1
    have ck : (nI k).toNatClampNeg = k := nI_clamp (by omega)
    have vk : vp_in (nI k) 16 := vp_in_nI (by omega) (by omega)
    have hn := ih (k + 1) (by omega)
    refine br_f (nI_ge (by omega) (by omega)) ⟨vk, ?_⟩
    unfold wY_drop_59 wY_drop_55
    rw [ck]
    by_cases g : wt_H s q b ((wt_cp (wt_H s q b) y_watchers y_watchKinds y_watchPaths k).2.1 k) ((wt_cp (wt_H s q b) y_watchers y_watchKinds y_watchPaths k).2.2.1 k) ((wt_cp (wt_H s q b) y_watchers y_watchKinds y_watchPaths k).2.2.2 k) = true
    · rw [wt_cp_t g] at hn
      have g1 := of_decide_eq_true (wt_and g).1
      have g2 := of_decide_eq_true (wt_and (wt_and g).2).1
      have g3 := (wt_and (wt_and g).2).2
      refine br_t g1 ⟨vk, br_f g2 (br_c (fun _ => br_f (by decide) (nm_r (nI_1 k) hn)) (fun z => ⟨vk, br_t ?_ (br_f (by decide) (nm_r (nI_1 k) hn))⟩))⟩
      rw [decide_eq_false z] at g3
      exact of_decide_eq_true g3
    · rw [wt_cp_f g] at hn
      have hn' := wy_59 (y_time := y_time) (y_last := y_last) (y_partCount := y_partCount) (y_wrong := y_wrong) (y_changes := y_changes) (y_log := y_log) (y_since := y_since) (y_placesLeft := y_placesLeft) (y_paths := y_paths) (y_values := y_values) (y_open := y_open) (y_timeouts := y_timeouts) (y_deadlines := y_deadlines) (y_events := y_events) (y_eventCounts := y_eventCounts) (y_parts := y_parts) (y_happened := y_happened) (y_how := y_how) (y_watchCount := nI c) (post := post) (s := s) (q := q) (b := b) (n := (wt_cp (wt_H s q b) y_watchers y_watchKinds y_watchPaths k).1) (k := k) (by omega) (by omega) hn
      refine br_c (fun g1 => ⟨vk, br_c (fun _ => hn') (fun g2 => br_c (fun g3 => absurd ?_ g) (fun g3 => ⟨vk, br_c (fun g4 => absurd ?_ g) (fun _ => hn')⟩))⟩) (fun _ => hn')
      · exact wt_H_t g1 g2 (Or.inl g3)
      · exact wt_H_t g1 g2 (Or.inr g4)
theorem wy_drop {post : Int32 → SY → Prop} {s q b : Int32} {c : Nat} (hc : c ≤ 16) (hp : post (wt_b (decide ((wt_cp (wt_H s q b) y_watchers y_watchKinds y_watchPaths c).1 < c))) (y_time, y_last, (nI (wt_cp (wt_H s q b) y_watchers y_watchKinds y_watchPaths c).1), y_partCount, y_wrong, y_changes, y_log, y_since, y_placesLeft, y_paths, y_values, y_open, y_timeouts, y_deadlines, y_events, y_eventCounts, (wt_cp (wt_H s q b) y_watchers y_watchKinds y_watchPaths c).2.1, (wt_cp (wt_H s q b) y_watchers y_watchKinds y_watchPaths c).2.2.1, (wt_cp (wt_H s q b) y_watchers y_watchKinds y_watchPaths c).2.2.2, y_parts, y_happened, y_how)) : wpY_drop post (y_time, y_last, (nI c), y_partCount, y_wrong, y_changes, y_log, y_since, y_placesLeft, y_paths, y_values, y_open, y_timeouts, y_deadlines, y_events, y_eventCounts, y_watchers, y_watchKinds, y_watchPaths, y_parts, y_happened, y_how) s q b := ⟨c + 1, wy_drop_lp hc hp c 0 (by omega)⟩
end
end
section
section
variable {x_time x_partCount x_wrongAt x_changeCount x_transactions x_logStart x_snapshotStart x_placesLeft : Int32} {x_tree x_treeBefore x_timeouts x_deadlines x_events x_eventCounts x_watchSessions x_watchKinds x_watchPaths x_partKinds x_partPaths x_partAs x_partBs x_changePaths x_changeKinds : Nat → Int32}
variable {y_time y_last y_watchCount y_partCount y_wrong y_changes y_log y_since y_placesLeft : Int32} {y_paths y_values y_open y_timeouts y_deadlines y_events y_eventCounts y_watchers y_watchKinds y_watchPaths y_parts y_happened y_how : Nat → Int32}
theorem wt_tell_lp {a : Nat} {b e kd : Int32} (ha : a < 2 ^ 31) (he : e = nI a + (kd <<< ((21 : Int32) &&& 31))) : ∀ d i, i + d = 4 → ∀ (ws ev ec yev yec ya yk yp : Nat → Int32) (wc : Int32), wt_WR y_open ws x_watchKinds x_watchPaths ya yk yp wc → wt_E y_open ev ec yev yec → ∃ (ws' ev' ec' yev' yec' ya' yk' yp' : Nat → Int32) (wc' : Int32), (∀ post : SX → Prop, post (x_time, x_partCount, x_wrongAt, x_changeCount, x_transactions, x_logStart, x_snapshotStart, x_placesLeft, x_tree, x_treeBefore, x_timeouts, x_deadlines, ev', ec', ws', x_watchKinds, x_watchPaths, x_partKinds, x_partPaths, x_partAs, x_partBs, x_changePaths, x_changeKinds) → wX_tell_11 post (nI a) b e (d + 1) (nI i) x_time x_partCount x_wrongAt x_changeCount x_transactions x_logStart x_snapshotStart x_placesLeft x_tree x_treeBefore x_timeouts x_deadlines ev ec ws x_watchKinds x_watchPaths x_partKinds x_partPaths x_partAs x_partBs x_changePaths x_changeKinds) ∧ (∀ post : SY → Prop, post (y_time, y_last, wc', y_partCount, y_wrong, y_changes, y_log, y_since, y_placesLeft, y_paths, y_values, y_open, y_timeouts, y_deadlines, yev', yec', ya', yk', yp', y_parts, y_happened, y_how) → wY_tell_3 post (nI a) b kd (d + 1) (nI i) y_time y_last wc y_partCount y_wrong y_changes y_log y_since y_placesLeft y_paths y_values y_open y_timeouts y_deadlines yev yec ya yk yp y_parts y_happened y_how) ∧ wt_WR y_open ws' x_watchKinds x_watchPaths ya' yk' yp' wc' ∧ wt_E y_open ev' ec' yev' yec' := by
  intro d
  induction d with
  | zero =>
    intro i hi ws ev ec yev yec ya yk yp wc hW hE
    have e4 : i = 4 := by omega
    subst e4
    have l : (4 : Int32) ≤ nI 4 := nI_le (a := 4) (b := 4) (by omega) (by omega)
    exact ⟨ws, ev, ec, yev, yec, ya, yk, yp, wc, fun post hp => br_t l hp, fun post hp => br_t l hp, hW, hE⟩
  | succ d ih =>
    intro i hi ws ev ec yev yec ya yk yp wc hW hE
    obtain ⟨c, hc, rfl, h3, h4⟩ := hW
    obtain ⟨hW', hiff, hle, hno⟩ := wt_WR_dr (o := y_open) (G := wt_G (nI i) (nI a) b) (H := wt_H (nI i) (nI a) b) hc h3 h4 (fun j hj => wt_GH (nI_pos ha) _ _ _)
    have hX : wt_ct (fun j => wt_G (nI i) (nI a) b (ws j) (x_watchKinds j) (x_watchPaths j)) 16 = wt_X ws x_watchKinds x_watchPaths (wt_G (nI i) (nI a) b) := wt_ct_cg 16 (fun j hj => by
      show wt_G (nI i) (nI a) b (ws j) (x_watchKinds j) (x_watchPaths j) = (!decide (ws j = -1) && wt_G (nI i) (nI a) b (ws j) (x_watchKinds j) (x_watchPaths j))
      by_cases z : ws j = -1
      · have f : wt_G (nI i) (nI a) b (ws j) (x_watchKinds j) (x_watchPaths j) = false := by
          unfold wt_G
          have q : ¬ ws j = nI i := fun y => wt_nn (n := i) (by omega) (y.symm.trans z)
          rw [decide_eq_false q]
          cases decide (¬ ((b >>> (x_watchKinds j &&& 31)) &&& 1) = 0) <;> rfl
        rw [f, Bool.and_false]
      · rw [decide_eq_false z]
        rfl)
    obtain ⟨n, n1, n2, n3, n4, n5⟩ := hE i (by omega)
    have ci : (nI i).toNatClampNeg = i := nI_clamp (by omega)
    have vi : vp_in (nI i) 4 := vp_in_nI (by omega) (by omega)
    have l4 : ¬ (4 : Int32) ≤ nI i := nI_ge (b := 4) (by omega) (by omega)
    have ex : ec (nI i).toNatClampNeg = nI n := by rw [ci]; exact n2
    have ey : yec (nI i).toNatClampNeg = nI n := by rw [ci]; exact n3
    by_cases told : (wt_cp (wt_H (nI i) (nI a) b) ya yk yp c).1 < c
    · have tx : 0 < wt_X ws x_watchKinds x_watchPaths (wt_G (nI i) (nI a) b) := Nat.pos_of_ne_zero (fun z => by
        have := hiff.mp z
        omega)
      have ho : y_open i = 1 := Decidable.byContradiction (fun z => by
        have q : wt_X ws x_watchKinds x_watchPaths (wt_G (nI i) (nI a) b) = 0 := by
          rw [h3]
          exact wt_W_0.mpr (fun j hj y => z (by
            obtain ⟨⟨s, s1, s2, s3⟩, _⟩ := h4 j hj
            have y2 : ya j = nI i := of_decide_eq_true (wt_and (wt_and y).2).1
            have : s = i := (nI_eq (by omega) (by omega)).mp (s2.symm.trans y2)
            rw [← this]
            exact s3))
        omega)
      by_cases full : n < 8
      · obtain ⟨ws', ev', ec', yev', yec', ya', yk', yp', wc', hXs, hYs, R1, R2⟩ := ih (i + 1) (by omega) _ _ _ _ _ _ _ _ _ hW' (wt_E_pu (x := e) hE (by omega) full n3 ho)
        refine ⟨ws', ev', ec', yev', yec', ya', yk', yp', wc', fun post hp => ?_, fun post hp => ?_, R1, R2⟩
        · refine br_f l4 (wx_away ?_)
          rw [hX, wt_bt tx]
          have x8 : nI i * 8 + nI n = nI (8 * i + n) := by
            rw [show (8 : Int32) = nI 8 from rfl, pk_mul, nI_add, Nat.mul_comm]
          refine ⟨vi, nm_r ex (br_f (by decide) (br_f (nI_pos (by omega)) (br_f (nI_ge (b := 8) full (by omega)) ⟨by rw [x8]; exact vp_in_nI (by omega) (by omega), nm_r (e' := upd ev (8 * i + n) e) (by rw [x8, nI_clamp (by omega)]) ⟨vi, nm_r (e' := upd ec i (nI (n + 1))) (by rw [ci, nI_1]) (nm_r (nI_1 i) (hXs post hp))⟩⟩)))⟩
        · refine br_f l4 (wy_drop hc ?_)
          rw [wt_bt told]
          have y8 : 8 * nI i + nI n = nI (8 * i + n) := by
            rw [show (8 : Int32) = nI 8 from rfl, pk_mul, nI_add]
          refine br_f (by decide) ⟨vi, br_f (by rw [ey]; exact nI_ge (b := 8) full (by omega)) ⟨vi, vi, nm_r (e' := upd yec i (nI (n + 1))) (by rw [ci, n3, nI_1]) ⟨by rw [ey, y8]; exact vp_in_nI (by omega) (by omega), nm_r (e' := upd yev (8 * i + n) e) (by rw [ey, y8, nI_clamp (by omega), he]) (nm_r (nI_1 i) (hYs post hp))⟩⟩⟩
      · obtain ⟨ws', ev', ec', yev', yec', ya', yk', yp', wc', hXs, hYs, R1, R2⟩ := ih (i + 1) (by omega) _ _ _ _ _ _ _ _ _ hW' hE
        refine ⟨ws', ev', ec', yev', yec', ya', yk', yp', wc', fun post hp => ?_, fun post hp => ?_, R1, R2⟩
        · refine br_f l4 (wx_away ?_)
          rw [hX, wt_bt tx]
          exact ⟨vi, nm_r ex (br_f (by decide) (br_f (nI_pos (by omega)) (br_t (nI_le (a := 8) (by omega) (by omega)) (nm_r (nI_1 i) (hXs post hp)))))⟩
        · refine br_f l4 (wy_drop hc ?_)
          rw [wt_bt told]
          exact br_f (by decide) ⟨vi, br_t (by rw [ey]; exact nI_le (a := 8) (by omega) (by omega)) (nm_r (nI_1 i) (hYs post hp))⟩
    · have tx : ¬ 0 < wt_X ws x_watchKinds x_watchPaths (wt_G (nI i) (nI a) b) := by
        have := hiff.mpr (by omega)
        omega
      obtain ⟨ws', ev', ec', yev', yec', ya', yk', yp', wc', hXs, hYs, R1, R2⟩ := ih (i + 1) (by omega) _ _ _ _ _ _ _ _ _ hW' hE
      refine ⟨ws', ev', ec', yev', yec', ya', yk', yp', wc', fun post hp => ?_, fun post hp => ?_, R1, R2⟩
      · refine br_f l4 (wx_away ?_)
        rw [hX, wt_bf tx]
        exact ⟨vi, nm_e (br_t rfl (nm_r (nI_1 i) (hXs post hp)))⟩
      · refine br_f l4 (wy_drop hc ?_)
        rw [wt_bf told]
        exact br_t rfl (nm_r (nI_1 i) (hYs post hp))
theorem wt_tell {a : Nat} {b kd : Int32} (ha : a < 2 ^ 31) (hk : kd = 1 ∨ kd = 2 ∨ kd = 3 ∨ kd = 4) {ws ev ec yev yec ya yk yp : Nat → Int32} {wc : Int32} (hW : wt_WR y_open ws x_watchKinds x_watchPaths ya yk yp wc) (hE : wt_E y_open ev ec yev yec) : ∃ (ws' ev' ec' yev' yec' ya' yk' yp' : Nat → Int32) (wc' : Int32), (∀ post : SX → Prop, post (x_time, x_partCount, x_wrongAt, x_changeCount, x_transactions, x_logStart, x_snapshotStart, x_placesLeft, x_tree, x_treeBefore, x_timeouts, x_deadlines, ev', ec', ws', x_watchKinds, x_watchPaths, x_partKinds, x_partPaths, x_partAs, x_partBs, x_changePaths, x_changeKinds) → wpX_tell post (x_time, x_partCount, x_wrongAt, x_changeCount, x_transactions, x_logStart, x_snapshotStart, x_placesLeft, x_tree, x_treeBefore, x_timeouts, x_deadlines, ev, ec, ws, x_watchKinds, x_watchPaths, x_partKinds, x_partPaths, x_partAs, x_partBs, x_changePaths, x_changeKinds) kd (nI a) b) ∧ (∀ post : SY → Prop, post (y_time, y_last, wc', y_partCount, y_wrong, y_changes, y_log, y_since, y_placesLeft, y_paths, y_values, y_open, y_timeouts, y_deadlines, yev', yec', ya', yk', yp', y_parts, y_happened, y_how) → wpY_tell post (y_time, y_last, wc, y_partCount, y_wrong, y_changes, y_log, y_since, y_placesLeft, y_paths, y_values, y_open, y_timeouts, y_deadlines, yev, yec, ya, yk, yp, y_parts, y_happened, y_how) (nI a) b kd) ∧ wt_WR y_open ws' x_watchKinds x_watchPaths ya' yk' yp' wc' ∧ wt_E y_open ev' ec' yev' yec' := by
  have e : (2097152 : Int32) * kd = kd <<< ((21 : Int32) &&& 31) := by
    rcases hk with h | h | h | h <;> subst h <;> decide
  obtain ⟨ws', ev', ec', yev', yec', ya', yk', yp', wc', hX, hY, R1, R2⟩ := wt_tell_lp (x_time := x_time) (x_partCount := x_partCount) (x_wrongAt := x_wrongAt) (x_changeCount := x_changeCount) (x_transactions := x_transactions) (x_logStart := x_logStart) (x_snapshotStart := x_snapshotStart) (x_placesLeft := x_placesLeft) (x_tree := x_tree) (x_treeBefore := x_treeBefore) (x_timeouts := x_timeouts) (x_deadlines := x_deadlines) (x_watchKinds := x_watchKinds) (x_watchPaths := x_watchPaths) (x_partKinds := x_partKinds) (x_partPaths := x_partPaths) (x_partAs := x_partAs) (x_partBs := x_partBs) (x_changePaths := x_changePaths) (x_changeKinds := x_changeKinds) (y_time := y_time) (y_last := y_last) (y_partCount := y_partCount) (y_wrong := y_wrong) (y_changes := y_changes) (y_log := y_log) (y_since := y_since) (y_placesLeft := y_placesLeft) (y_paths := y_paths) (y_values := y_values) (y_open := y_open) (y_timeouts := y_timeouts) (y_deadlines := y_deadlines) (y_parts := y_parts) (y_happened := y_happened) (y_how := y_how) (b := b) (e := nI a + 2097152 * kd) (kd := kd) ha (by rw [e]) 4 0 rfl ws ev ec yev yec ya yk yp wc hW hE
  exact ⟨ws', ev', ec', yev', yec', ya', yk', yp', wc', fun post hp => nm_e ⟨5, hX post hp⟩, fun post hp => ⟨5, hY post hp⟩, R1, R2⟩
theorem wt_all_lp {c : Nat} (hC : wt_C c x_changeKinds x_changePaths y_happened y_how) : ∀ d i, i + d = c → ∀ (ws ev ec yev yec ya yk yp : Nat → Int32) (wc : Int32), wt_WR y_open ws x_watchKinds x_watchPaths ya yk yp wc → wt_E y_open ev ec yev yec → ∃ (ws' ev' ec' yev' yec' ya' yk' yp' : Nat → Int32) (wc' : Int32), (∀ post : SX → Prop, post (x_time, x_partCount, x_wrongAt, 0, x_transactions, x_logStart, x_snapshotStart, x_placesLeft, x_tree, x_treeBefore, x_timeouts, x_deadlines, ev', ec', ws', x_watchKinds, x_watchPaths, x_partKinds, x_partPaths, x_partAs, x_partBs, x_changePaths, x_changeKinds) → wX_finishTransaction_12 post (d + 1) (nI i) x_time x_partCount x_wrongAt (nI c) x_transactions x_logStart x_snapshotStart x_placesLeft x_tree x_treeBefore x_timeouts x_deadlines ev ec ws x_watchKinds x_watchPaths x_partKinds x_partPaths x_partAs x_partBs x_changePaths x_changeKinds) ∧ (∀ post : SY → Prop, post (y_time, y_last, wc', y_partCount, y_wrong, (nI c), y_log, y_since, y_placesLeft, y_paths, y_values, y_open, y_timeouts, y_deadlines, yev', yec', ya', yk', yp', y_parts, y_happened, y_how) → wY_tellAll_2 post (d + 1) (nI i) y_time y_last wc y_partCount y_wrong (nI c) y_log y_since y_placesLeft y_paths y_values y_open y_timeouts y_deadlines yev yec ya yk yp y_parts y_happened y_how) ∧ wt_WR y_open ws' x_watchKinds x_watchPaths ya' yk' yp' wc' ∧ wt_E y_open ev' ec' yev' yec' := by
  intro d
  induction d with
  | zero =>
    intro i hi ws ev ec yev yec ya yk yp wc hW hE
    have e4 : i = c := by omega
    subst e4
    have h20 := hC.1
    have l : nI i ≤ nI i := nI_le (Nat.le_refl _) (by omega)
    exact ⟨ws, ev, ec, yev, yec, ya, yk, yp, wc, fun post hp => br_t l hp, fun post hp => br_t l hp, hW, hE⟩
  | succ d ih =>
    intro i hi ws ev ec yev yec ya yk yp wc hW hE
    have h20 := hC.1
    obtain ⟨k1, k2, k3, a, ha, k4⟩ := hC.2 i (by omega)
    have ci : (nI i).toNatClampNeg = i := nI_clamp (by omega)
    have v20 : vp_in (nI i) 20 := vp_in_nI (by omega) (by omega)
    have v21 : vp_in (nI i) 21 := vp_in_nI (by omega) (by omega)
    have lc : ¬ nI c ≤ nI i := nI_ge (by omega) (by omega)
    have l20 : ¬ (20 : Int32) ≤ nI i := nI_ge (b := 20) (by omega) (by omega)
    have xk : x_changeKinds (nI i).toNatClampNeg = y_how i := by rw [ci]; exact k1
    have xp : x_changePaths (nI i).toNatClampNeg = nI a := by rw [ci, k2]; exact k4
    have yw : y_how (nI i).toNatClampNeg = y_how i := by rw [ci]
    have yh : y_happened (nI i).toNatClampNeg = nI a := by rw [ci]; exact k4
    have ed : nI a / 101 = nI (a / 101) := wt_d101 (by omega)
    by_cases t3 : y_how i = 3
    · obtain ⟨ws1, ev1, ec1, yev1, yec1, ya1, yk1, yp1, wc1, hX1, hY1, R1, R2⟩ := wt_tell (x_time := x_time) (x_partCount := x_partCount) (x_wrongAt := x_wrongAt) (x_transactions := x_transactions) (x_logStart := x_logStart) (x_snapshotStart := x_snapshotStart) (x_placesLeft := x_placesLeft) (x_tree := x_tree) (x_treeBefore := x_treeBefore) (x_timeouts := x_timeouts) (x_deadlines := x_deadlines) (x_watchKinds := x_watchKinds) (x_watchPaths := x_watchPaths) (x_partKinds := x_partKinds) (x_partPaths := x_partPaths) (x_partAs := x_partAs) (x_partBs := x_partBs) (x_changePaths := x_changePaths) (x_changeKinds := x_changeKinds) (x_changeCount := nI c) (y_time := y_time) (y_last := y_last) (y_partCount := y_partCount) (y_wrong := y_wrong) (y_log := y_log) (y_since := y_since) (y_placesLeft := y_placesLeft) (y_paths := y_paths) (y_values := y_values) (y_open := y_open) (y_timeouts := y_timeouts) (y_deadlines := y_deadlines) (y_parts := y_parts) (y_happened := y_happened) (y_how := y_how) (y_changes := nI c) (a := a) (b := 5) (kd := 3) (by omega) (Or.inr (Or.inr (Or.inl rfl))) hW hE
      obtain ⟨ws', ev', ec', yev', yec', ya', yk', yp', wc', hXs, hYs, S1, S2⟩ := ih (i + 1) (by omega) _ _ _ _ _ _ _ _ _ R1 R2
      refine ⟨ws', ev', ec', yev', yec', ya', yk', yp', wc', fun post hp => ?_, fun post hp => ?_, S1, S2⟩
      · refine br_f lc (br_f l20 ⟨v20, v20, ?_⟩)
        rw [xk, xp, t3]
        exact br_t rfl (hX1 _ (nm_r (nI_1 i) (hXs post hp)))
      · refine br_f lc ⟨v21, v21, br_f (by rw [yw, t3]; decide) ⟨v21, br_f (by rw [yw, t3]; decide) ?_⟩⟩
        rw [yh]
        unfold wY_tellAll_47
        rw [yw, t3]
        exact ⟨v21, hY1 _ ⟨v21, br_t (by rw [yw]; exact t3) (nm_r (nI_1 i) (hYs post hp))⟩⟩
    · obtain ⟨b, hb⟩ : ∃ b : Int32, b = if y_how i = 1 then 4 else 7 := ⟨_, rfl⟩
      have hk : y_how i = 1 ∨ y_how i = 2 ∨ y_how i = 3 ∨ y_how i = 4 := by
        rcases k3 with h | h | h
        · exact Or.inl h
        · exact Or.inr (Or.inl h)
        · exact absurd h t3
      obtain ⟨ws1, ev1, ec1, yev1, yec1, ya1, yk1, yp1, wc1, hX1, hY1, R1, R2⟩ := wt_tell (x_time := x_time) (x_partCount := x_partCount) (x_wrongAt := x_wrongAt) (x_transactions := x_transactions) (x_logStart := x_logStart) (x_snapshotStart := x_snapshotStart) (x_placesLeft := x_placesLeft) (x_tree := x_tree) (x_treeBefore := x_treeBefore) (x_timeouts := x_timeouts) (x_deadlines := x_deadlines) (x_watchKinds := x_watchKinds) (x_watchPaths := x_watchPaths) (x_partKinds := x_partKinds) (x_partPaths := x_partPaths) (x_partAs := x_partAs) (x_partBs := x_partBs) (x_changePaths := x_changePaths) (x_changeKinds := x_changeKinds) (x_changeCount := nI c) (y_time := y_time) (y_last := y_last) (y_partCount := y_partCount) (y_wrong := y_wrong) (y_log := y_log) (y_since := y_since) (y_placesLeft := y_placesLeft) (y_paths := y_paths) (y_values := y_values) (y_open := y_open) (y_timeouts := y_timeouts) (y_deadlines := y_deadlines) (y_parts := y_parts) (y_happened := y_happened) (y_how := y_how) (y_changes := nI c) (a := a) (b := b) (kd := y_how i) (by omega) hk hW hE
      obtain ⟨ws2, ev2, ec2, yev2, yec2, ya2, yk2, yp2, wc2, hX2, hY2, Q1, Q2⟩ := wt_tell (x_time := x_time) (x_partCount := x_partCount) (x_wrongAt := x_wrongAt) (x_transactions := x_transactions) (x_logStart := x_logStart) (x_snapshotStart := x_snapshotStart) (x_placesLeft := x_placesLeft) (x_tree := x_tree) (x_treeBefore := x_treeBefore) (x_timeouts := x_timeouts) (x_deadlines := x_deadlines) (x_watchKinds := x_watchKinds) (x_watchPaths := x_watchPaths) (x_partKinds := x_partKinds) (x_partPaths := x_partPaths) (x_partAs := x_partAs) (x_partBs := x_partBs) (x_changePaths := x_changePaths) (x_changeKinds := x_changeKinds) (x_changeCount := nI c) (y_time := y_time) (y_last := y_last) (y_partCount := y_partCount) (y_wrong := y_wrong) (y_log := y_log) (y_since := y_since) (y_placesLeft := y_placesLeft) (y_paths := y_paths) (y_values := y_values) (y_open := y_open) (y_timeouts := y_timeouts) (y_deadlines := y_deadlines) (y_parts := y_parts) (y_happened := y_happened) (y_how := y_how) (y_changes := nI c) (a := a / 101) (b := 2) (kd := 4) (by omega) (Or.inr (Or.inr (Or.inr rfl))) R1 R2
      obtain ⟨ws', ev', ec', yev', yec', ya', yk', yp', wc', hXs, hYs, S1, S2⟩ := ih (i + 1) (by omega) _ _ _ _ _ _ _ _ _ Q1 Q2
      refine ⟨ws', ev', ec', yev', yec', ya', yk', yp', wc', fun post hp => ?_, fun post hp => ?_, S1, S2⟩
      · refine br_f lc (br_f l20 ⟨v20, v20, ?_⟩)
        rw [xk, xp]
        refine br_f t3 ?_
        unfold wX_tellChange_27
        rw [ed]
        by_cases t1 : y_how i = 1
        · rw [if_pos t1] at hb
          subst hb
          exact br_t t1 (hX1 _ ⟨wt_ne101, hX2 _ (nm_r (nI_1 i) (hXs post hp))⟩)
        · rw [if_neg t1] at hb
          subst hb
          exact br_f t1 (hX1 _ ⟨wt_ne101, hX2 _ (nm_r (nI_1 i) (hXs post hp))⟩)
      · have K : wY_tellAll_47 post (wY_tellAll_2 post (d + 1)) (nI i) b (nI a) y_time y_last wc y_partCount y_wrong (nI c) y_log y_since y_placesLeft y_paths y_values y_open y_timeouts y_deadlines yev yec ya yk yp y_parts y_happened y_how := by
          unfold wY_tellAll_47
          rw [yw]
          refine ⟨v21, hY1 _ ⟨v21, br_f (by rw [yw]; exact t3) ⟨v21, wt_ne101, ?_⟩⟩⟩
          rw [yh, ed]
          exact hY2 _ (nm_r (nI_1 i) (hYs post hp))
        refine br_f lc ⟨v21, v21, ?_⟩
        rw [yh, yw]
        by_cases t1 : y_how i = 1
        · rw [if_pos t1] at hb
          subst hb
          exact br_t t1 K
        · rw [if_neg t1] at hb
          subst hb
          refine br_f t1 ⟨v21, br_t ?_ K⟩
          rcases k3 with h | h | h
          · exact absurd h t1
          · exact h
          · exact absurd h t3
/-- finishTransaction against done and tellAll -/
theorem wt_finish {c : Nat} {n : Int32} (hC : wt_C c x_changeKinds x_changePaths y_happened y_how) {ws ev ec yev yec ya yk yp : Nat → Int32} {wc : Int32} (hW : wt_WR y_open ws x_watchKinds x_watchPaths ya yk yp wc) (hE : wt_E y_open ev ec yev yec) : ∃ (ws' ev' ec' yev' yec' ya' yk' yp' : Nat → Int32) (wc' : Int32), (∀ post : SX → Prop, post (x_time, x_partCount, x_wrongAt, 0, (n + 1), x_logStart, x_snapshotStart, x_placesLeft, x_tree, x_treeBefore, x_timeouts, x_deadlines, ev', ec', ws', x_watchKinds, x_watchPaths, x_partKinds, x_partPaths, x_partAs, x_partBs, x_changePaths, x_changeKinds) → wpX_finishTransaction post (x_time, x_partCount, x_wrongAt, (nI c), n, x_logStart, x_snapshotStart, x_placesLeft, x_tree, x_treeBefore, x_timeouts, x_deadlines, ev, ec, ws, x_watchKinds, x_watchPaths, x_partKinds, x_partPaths, x_partAs, x_partBs, x_changePaths, x_changeKinds)) ∧ (∀ post : SY → Prop, post (y_time, y_last, wc', y_partCount, y_wrong, (nI c), y_log, y_since, y_placesLeft, y_paths, y_values, y_open, y_timeouts, y_deadlines, yev', yec', ya', yk', yp', y_parts, y_happened, y_how) → wpY_tellAll post (y_time, y_last, wc, y_partCount, y_wrong, (nI c), y_log, y_since, y_placesLeft, y_paths, y_values, y_open, y_timeouts, y_deadlines, yev, yec, ya, yk, yp, y_parts, y_happened, y_how)) ∧ wt_WR y_open ws' x_watchKinds x_watchPaths ya' yk' yp' wc' ∧ wt_E y_open ev' ec' yev' yec' := by
  obtain ⟨ws', ev', ec', yev', yec', ya', yk', yp', wc', hX, hY, R1, R2⟩ := wt_all_lp (x_time := x_time) (x_partCount := x_partCount) (x_wrongAt := x_wrongAt) (x_logStart := x_logStart) (x_snapshotStart := x_snapshotStart) (x_placesLeft := x_placesLeft) (x_tree := x_tree) (x_treeBefore := x_treeBefore) (x_timeouts := x_timeouts) (x_deadlines := x_deadlines) (x_watchKinds := x_watchKinds) (x_watchPaths := x_watchPaths) (x_partKinds := x_partKinds) (x_partPaths := x_partPaths) (x_partAs := x_partAs) (x_partBs := x_partBs) (x_changePaths := x_changePaths) (x_changeKinds := x_changeKinds) (x_transactions := n + 1) (y_time := y_time) (y_last := y_last) (y_partCount := y_partCount) (y_wrong := y_wrong) (y_log := y_log) (y_since := y_since) (y_placesLeft := y_placesLeft) (y_paths := y_paths) (y_values := y_values) (y_open := y_open) (y_timeouts := y_timeouts) (y_deadlines := y_deadlines) (y_parts := y_parts) (y_happened := y_happened) (y_how := y_how) hC c 0 (by omega) ws ev ec yev yec ya yk yp wc hW hE
  exact ⟨ws', ev', ec', yev', yec', ya', yk', yp', wc', fun post hp => nm_e ⟨c + 1, hX post hp⟩, fun post hp => ⟨c + 1, hY post hp⟩, R1, R2⟩
end
end
section
def wt_nt (i : Nat) : Nat → Int32 := fun j => if j % 7 = 6 ∧ j < 7 * i then (-1 : Int32) else 0
theorem wt_nt_0 : wt_nt 0 = fun _ => 0 := by
  funext j
  exact if_neg (by omega)
theorem wt_nt_s (i : Nat) : upd (wt_nt i) (7 * i + 6) (-1) = wt_nt (i + 1) := by
  funext j
  by_cases z : j = 7 * i + 6
  · subst z
    rw [pk_us]
    exact (if_pos (by omega)).symm
  · rw [pk_un z]
    by_cases y : j % 7 = 6 ∧ j < 7 * i
    · exact (if_pos y).trans (if_pos (by omega)).symm
    · exact (if_neg y).trans (if_neg (by omega)).symm
def wt_t0 : Nat → Int32 := upd (upd (wt_nt 21) 6 0) 5 (-1)
def wt_p0 : Nat → Int32 := upd (wt_fl 42 (-1) (fun _ => 0)) 0 0
def wt_w0 : Nat → Int32 := upd (fun _ => 0) 5 (-1)
theorem wt_T_0 : wt_T wt_t0 wt_p0 wt_w0 := by
  unfold wt_T
  decide +kernel
theorem wt_p0_f : ∀ k, 1 ≤ k → k < 21 → wt_p0 k = -1 := by
  have h : ∀ k, k < 21 → 1 ≤ k → wt_p0 k = -1 := by decide +kernel
  exact fun k a b => h k b a
theorem wt_I_0' : wt_I wt_p0 wt_w0 := ⟨by decide +kernel, by decide +kernel, fun k a b => Or.inl (wt_p0_f k a b), fun k a b c => absurd (wt_p0_f k a b) c⟩
theorem wt_V_0' (B : Nat) : wt_V B wt_w0 := by
  have h1 : ∀ k, k < 21 → wt_w0 (6 * k + 1) = 0 := by decide +kernel
  have h2 : ∀ k, k < 21 → wt_w0 (6 * k + 2) = 0 := by decide +kernel
  intro k hk j hj
  rcases hj with e | e
  · subst e; exact ⟨0, by omega, h1 k hk⟩
  · subst e; exact ⟨0, by omega, h2 k hk⟩
theorem wx_init_lp {post : SX → Prop} (hp : post (0, 0, (-1), 0, 0, 0, 0, 0, wt_t0, (fun _ => 0), (fun _ => 0), (fun _ => 0), (fun _ => 0), (fun _ => 0), (wt_fl 16 (-1) (fun _ => 0)), (fun _ => 0), (fun _ => 0), (fun _ => 0), (fun _ => 0), (fun _ => 0), (fun _ => 0), (fun _ => 0), (fun _ => 0))) : ∀ d i, i + d = 21 → wX_init_125 post 0 0 0 0 0 0 0 0 (d + 1) (nI (7 * i)) (wt_nt i) (fun _ => 0) (fun _ => 0) (fun _ => 0) (fun _ => 0) (fun _ => 0) (fun _ => 0) (fun _ => 0) (fun _ => 0) (fun _ => 0) (fun _ => 0) (fun _ => 0) (fun _ => 0) (fun _ => 0) (fun _ => 0) := by
  intro d
  induction d with
  | zero =>
    intro i hi
    have e : i = 21 := by omega
    subst e
    exact br_t wt_7le (nm_e (nm_e (wx_dropAll hp)))
  | succ d ih =>
    intro i hi
    have hn := ih (i + 1) (by omega)
    rw [← wt_nt_s] at hn
    exact br_f (wt_7ge i (by omega)) ⟨wt_7in i 6 (by omega) (by omega), nm_r (wt_ui _ _ (wt_7c i 6 (by omega) (by omega))) (nm_r (wt_7 i) hn)⟩
theorem wy_init_lp {post : SY → Prop} (hp : post (0, 0, 0, 0, (-1), 0, 0, 0, 0, wt_p0, wt_w0, (fun _ => 0), (fun _ => 0), (fun _ => 0), (fun _ => 0), (fun _ => 0), (fun _ => 0), (fun _ => 0), (fun _ => 0), (fun _ => 0), (fun _ => 0), (fun _ => 0))) : ∀ d i, i + d = 42 → wY_init_112 post 0 0 0 0 (-1) 0 0 0 0 (d + 1) (nI i) (wt_fl i (-1) (fun _ => 0)) (fun _ => 0) (fun _ => 0) (fun _ => 0) (fun _ => 0) (fun _ => 0) (fun _ => 0) (fun _ => 0) (fun _ => 0) (fun _ => 0) (fun _ => 0) (fun _ => 0) (fun _ => 0) := by
  intro d
  induction d with
  | zero =>
    intro i hi
    have e : i = 42 := by omega
    subst e
    exact br_t (nI_le (a := 42) (b := 42) (by omega) (by omega)) (nm_e (nm_e hp))
  | succ d ih =>
    intro i hi
    have hn := ih (i + 1) (by omega)
    rw [← wt_fl_s] at hn
    exact br_f (nI_ge (b := 42) (by omega) (by omega)) ⟨vp_in_nI (by omega) (by omega), nm_r (wt_ui _ _ (nI_clamp (by omega))) (nm_r (nI_1 i) hn)⟩
theorem i_vc0 : wpX_init (fun u => wpY_init (fun v => i_Rel 0 u v)) := by
  have hR : i_Rel 0 (0, 0, (-1), 0, 0, 0, 0, 0, wt_t0, (fun _ => 0), (fun _ => 0), (fun _ => 0), (fun _ => 0), (fun _ => 0), (wt_fl 16 (-1) (fun _ => 0)), (fun _ => 0), (fun _ => 0), (fun _ => 0), (fun _ => 0), (fun _ => 0), (fun _ => 0), (fun _ => 0), (fun _ => 0)) (0, 0, 0, 0, (-1), 0, 0, 0, 0, wt_p0, wt_w0, (fun _ => 0), (fun _ => 0), (fun _ => 0), (fun _ => 0), (fun _ => 0), (fun _ => 0), (fun _ => 0), (fun _ => 0), (fun _ => 0), (fun _ => 0), (fun _ => 0)) :=
    ⟨wt_T_0, wt_I_0', wt_V_0' _, fun s _ => Or.inr ⟨rfl, rfl⟩, ⟨0, Nat.zero_le _, rfl, rfl⟩, wt_E_0 (fun _ _ => rfl) (fun _ _ => rfl), wt_WR_0 (fun j hj => wt_fl_at hj), ⟨0, by omega, rfl, rfl, fun i hi => absurd hi (Nat.not_lt_zero _)⟩, rfl, ⟨rfl, by decide, rfl, ⟨0, by omega, rfl⟩, fun z => absurd rfl z⟩, rfl⟩
  have hy := wy_init_lp (post := fun v => i_Rel 0 (0, 0, (-1), 0, 0, 0, 0, 0, wt_t0, (fun _ => 0), (fun _ => 0), (fun _ => 0), (fun _ => 0), (fun _ => 0), (wt_fl 16 (-1) (fun _ => 0)), (fun _ => 0), (fun _ => 0), (fun _ => 0), (fun _ => 0), (fun _ => 0), (fun _ => 0), (fun _ => 0), (fun _ => 0)) v) hR 42 0 rfl
  rw [wt_fl_0] at hy
  have hx := wx_init_lp (post := fun u => wpY_init (fun v => i_Rel 0 u v)) ⟨43, hy⟩ 21 0 rfl
  rw [wt_nt_0] at hx
  exact ⟨22, hx⟩
theorem i_vc_wrongPart {k : Nat} {u : SX} {v : SY} (I : i_Rel k u v) (hk : k + 5 ≤ 2560) : wpX_wrongPart (fun r => wpY_wrongPart (fun r' => r' = r ∧ i_Rel (k + 5) u v) v) u := by
  have I' := i_up I
  obtain ⟨x_time, x_partCount, x_wrongAt, x_changeCount, x_transactions, x_logStart, x_snapshotStart, x_placesLeft, x_tree, x_treeBefore, x_timeouts, x_deadlines, x_events, x_eventCounts, x_watchSessions, x_watchKinds, x_watchPaths, x_partKinds, x_partPaths, x_partAs, x_partBs, x_changePaths, x_changeKinds⟩ := u
  obtain ⟨y_time, y_last, y_watchCount, y_partCount, y_wrong, y_changes, y_log, y_since, y_placesLeft, y_paths, y_values, y_open, y_timeouts, y_deadlines, y_events, y_eventCounts, y_watchers, y_watchKinds, y_watchPaths, y_parts, y_happened, y_how⟩ := v
  obtain ⟨hT, hI, hV, hS, ⟨t, ht, et, et'⟩, hE, hW, hP, hw, hN, hc⟩ := I
  exact ⟨hw.symm, I'⟩
theorem i_vc_latest {k : Nat} {u : SX} {v : SY} (I : i_Rel k u v) (hk : k + 5 ≤ 2560) : wpX_latest (fun r => wpY_latest (fun r' => r' = r ∧ i_Rel (k + 5) u v) v) u := by
  have I' := i_up I
  obtain ⟨x_time, x_partCount, x_wrongAt, x_changeCount, x_transactions, x_logStart, x_snapshotStart, x_placesLeft, x_tree, x_treeBefore, x_timeouts, x_deadlines, x_events, x_eventCounts, x_watchSessions, x_watchKinds, x_watchPaths, x_partKinds, x_partPaths, x_partAs, x_partBs, x_changePaths, x_changeKinds⟩ := u
  obtain ⟨y_time, y_last, y_watchCount, y_partCount, y_wrong, y_changes, y_log, y_since, y_placesLeft, y_paths, y_values, y_open, y_timeouts, y_deadlines, y_events, y_eventCounts, y_watchers, y_watchKinds, y_watchPaths, y_parts, y_happened, y_how⟩ := v
  obtain ⟨hT, hI, hV, hS, ⟨t, ht, et, et'⟩, hE, hW, hP, hw, hN, hc⟩ := I
  exact ⟨hN.1.symm, I'⟩
theorem i_vc_logged {k : Nat} {u : SX} {v : SY} (I : i_Rel k u v) (hk : k + 5 ≤ 2560) : wpX_logged (fun r => wpY_logged (fun r' => r' = r ∧ i_Rel (k + 5) u v) v) u := by
  have I' := i_up I
  obtain ⟨x_time, x_partCount, x_wrongAt, x_changeCount, x_transactions, x_logStart, x_snapshotStart, x_placesLeft, x_tree, x_treeBefore, x_timeouts, x_deadlines, x_events, x_eventCounts, x_watchSessions, x_watchKinds, x_watchPaths, x_partKinds, x_partPaths, x_partAs, x_partBs, x_changePaths, x_changeKinds⟩ := u
  obtain ⟨y_time, y_last, y_watchCount, y_partCount, y_wrong, y_changes, y_log, y_since, y_placesLeft, y_paths, y_values, y_open, y_timeouts, y_deadlines, y_events, y_eventCounts, y_watchers, y_watchKinds, y_watchPaths, y_parts, y_happened, y_how⟩ := v
  obtain ⟨hT, hI, hV, hS, ⟨t, ht, et, et'⟩, hE, hW, hP, hw, hN, hc⟩ := I
  exact ⟨hN.2.1.symm, I'⟩
theorem wt_S_in {B s : Nat} {xt xd yo yt yd : Nat → Int32} (h : wt_S B xt xd yo yt yd) (hs : s < 4) (ho : yo s = 1) : (∃ a, 1 ≤ a ∧ a ≤ 20 ∧ xt s = nI a ∧ yt s = nI a) ∧ (∃ d, d ≤ B + 20 ∧ xd s = nI d ∧ yd s = nI d) := by
  rcases h s hs with c | c
  · exact c.2
  · exact absurd (ho.symm.trans c.1) (by decide)
theorem i_vc_left {k : Nat} {u : SX} {v : SY} (I : i_Rel k u v) (hk : k + 5 ≤ 2560) (v1 : Int32) : wpX_left (fun r => wpY_left (fun r' => r' = r ∧ i_Rel (k + 5) u v) v v1) u v1 := by
  have I' := i_up I
  obtain ⟨x_time, x_partCount, x_wrongAt, x_changeCount, x_transactions, x_logStart, x_snapshotStart, x_placesLeft, x_tree, x_treeBefore, x_timeouts, x_deadlines, x_events, x_eventCounts, x_watchSessions, x_watchKinds, x_watchPaths, x_partKinds, x_partPaths, x_partAs, x_partBs, x_changePaths, x_changeKinds⟩ := u
  obtain ⟨y_time, y_last, y_watchCount, y_partCount, y_wrong, y_changes, y_log, y_since, y_placesLeft, y_paths, y_values, y_open, y_timeouts, y_deadlines, y_events, y_eventCounts, y_watchers, y_watchKinds, y_watchPaths, y_parts, y_happened, y_how⟩ := v
  obtain ⟨hT, hI, hV, hS, ⟨t, ht, et, et'⟩, hE, hW, hP, hw, hN, hc⟩ := I
  unfold wpX_left wpY_left
  rcases wt_cases hS v1 with ⟨s, hs, rfl, ho, hx⟩ | ⟨hx, hy⟩
  · have vi : vp_in (nI s) 4 := vp_in_nI hs (by omega)
    refine wx_open_t hs hx (br_f (by decide) ⟨vi, wy_open_t hs ho (br_f (by decide) ⟨vi, ?_, I'⟩)⟩)
    obtain ⟨_, d, _, d2, d3⟩ := wt_S_in hS hs ho
    rw [nI_clamp (by omega), d2, d3, et, et']
  · exact wx_open_f hx (br_t rfl (wy_open_f hy (br_t rfl ⟨rfl, I'⟩)))
theorem i_vc_touch {k : Nat} {u : SX} {v : SY} (I : i_Rel k u v) (hk : k + 5 ≤ 2560) (v1 : Int32) : wpX_touch (fun r u' => wpY_touch (fun r' v' => r' = r ∧ i_Rel (k + 5) u' v') v v1) u v1 := by
  have I' := i_up I
  obtain ⟨x_time, x_partCount, x_wrongAt, x_changeCount, x_transactions, x_logStart, x_snapshotStart, x_placesLeft, x_tree, x_treeBefore, x_timeouts, x_deadlines, x_events, x_eventCounts, x_watchSessions, x_watchKinds, x_watchPaths, x_partKinds, x_partPaths, x_partAs, x_partBs, x_changePaths, x_changeKinds⟩ := u
  obtain ⟨y_time, y_last, y_watchCount, y_partCount, y_wrong, y_changes, y_log, y_since, y_placesLeft, y_paths, y_values, y_open, y_timeouts, y_deadlines, y_events, y_eventCounts, y_watchers, y_watchKinds, y_watchPaths, y_parts, y_happened, y_how⟩ := v
  have I2 := I'
  obtain ⟨hT, hI, hV, hS, ⟨t, ht, et, et'⟩, hE, hW, hP, hw, hN, hc⟩ := I2
  unfold wpX_touch wpY_touch
  rcases wt_cases hS v1 with ⟨s, hs, rfl, ho, hx⟩ | ⟨hx, hy⟩
  · have vi : vp_in (nI s) 4 := vp_in_nI hs (by omega)
    have ci : (nI s).toNatClampNeg = s := nI_clamp (by omega)
    obtain ⟨⟨a, a1, a2, a3, a4⟩, _⟩ := wt_S_in hS hs ho
    refine wx_open_t hs hx (br_f (by decide) ⟨vi, vi, nm_r (e' := upd x_deadlines s (nI (t + a))) (by rw [ci, a3, et, nI_add]) (wy_open_t hs ho (br_f (by decide) ⟨vi, vi, nm_r (e' := upd y_deadlines s (nI (t + a))) (by rw [ci, a4, et', nI_add]) ⟨rfl, rfl, ?_⟩⟩))⟩)
    exact ⟨hT, hI, hV, wt_S_tc hS ht a2, ⟨t, ht, et, et'⟩, hE, hW, hP, hw, hN, hc⟩
  · exact wx_open_f hx (br_t rfl (wy_open_f hy (br_t rfl ⟨rfl, rfl, I'⟩)))
end
section
def wt_bits (o : Nat → Int32) : Nat → Nat
  | 0 => 0
  | i + 1 => wt_bits o i + (if o i = 0 then 0 else 2 ^ i)
theorem wt_bits_lt (o : Nat → Int32) : ∀ i, wt_bits o i < 2 ^ i := by
  intro i
  induction i with
  | zero => exact Nat.zero_lt_one
  | succ i ih =>
    have e : 2 ^ (i + 1) = 2 ^ i * 2 := Nat.pow_succ _ _
    show wt_bits o i + (if o i = 0 then 0 else 2 ^ i) < _
    by_cases h : o i = 0
    · rw [if_pos h]; omega
    · rw [if_neg h]; omega
theorem wt_bits_0 {o : Nat → Int32} {i : Nat} (h : o i = 0) : wt_bits o (i + 1) = wt_bits o i := by
  show wt_bits o i + (if o i = 0 then 0 else 2 ^ i) = _
  rw [if_pos h]; omega
theorem wt_bits_1 {o : Nat → Int32} {i : Nat} (h : ¬ o i = 0) : wt_bits o (i + 1) = wt_bits o i + 2 ^ i := by
  show wt_bits o i + (if o i = 0 then 0 else 2 ^ i) = _
  rw [if_neg h]
theorem wt_bits_8 (o : Nat → Int32) (i : Nat) (h : i < 4) : wt_bits o i < 8 := by
  have a := wt_bits_lt o i
  have b : 2 ^ i ≤ 2 ^ 3 := Nat.pow_le_pow_right (by decide) (by omega)
  omega
section
variable {x_time x_partCount x_wrongAt x_changeCount x_transactions x_logStart x_snapshotStart x_placesLeft : Int32} {x_tree x_treeBefore x_timeouts x_deadlines x_events x_eventCounts x_watchSessions x_watchKinds x_watchPaths x_partKinds x_partPaths x_partAs x_partBs x_changePaths x_changeKinds : Nat → Int32}
variable {y_time y_last y_watchCount y_partCount y_wrong y_changes y_log y_since y_placesLeft : Int32} {y_paths y_values y_open y_timeouts y_deadlines y_events y_eventCounts y_watchers y_watchKinds y_watchPaths y_parts y_happened y_how : Nat → Int32}
theorem wx_state_lp {post : Int32 → Prop} {B : Nat} (hT : wt_T x_tree y_paths y_values) (hS : wt_S B x_timeouts x_deadlines y_open y_timeouts y_deadlines) (hp : post (nI (wt_bits y_open 4) + 16 * nI (wt_ct (wt_nd y_paths) 21))) : ∀ d i, i + d = 4 → wX_state_4 post x_time x_partCount x_wrongAt x_changeCount x_transactions x_logStart x_snapshotStart x_placesLeft x_tree x_treeBefore x_timeouts x_deadlines x_events x_eventCounts x_watchSessions x_watchKinds x_watchPaths x_partKinds x_partPaths x_partAs x_partBs x_changePaths x_changeKinds (d + 1) (nI (wt_bits y_open i)) (nI i) := by
  intro d
  induction d with
  | zero =>
    intro i hi
    have e : i = 4 := by omega
    subst e
    exact br_t (nI_le (a := 4) (b := 4) (by omega) (by omega)) (wx_cnd hT hp)
  | succ d ih =>
    intro i hi
    have hn := ih (i + 1) (by omega)
    refine br_f (nI_ge (b := 4) (by omega) (by omega)) ?_
    by_cases h : y_open i = 0
    · rw [wt_bits_0 h] at hn
      refine wx_open_f (fun s hs e => ?_) (br_t rfl (nm_r (nI_1 i) hn))
      have e2 : i = s := (nI_eq (by omega) (by omega)).mp e
      subst e2
      exact (wt_S_xt hS hs).mpr h
    · rw [wt_bits_1 h] at hn
      refine wx_open_t (by omega) (fun z => h ((wt_S_xt hS (by omega)).mp z)) (br_f (by decide) (nm_r (wt_or0 i (by omega) _ (wt_bits_8 _ _ (by omega)) (wt_bits_lt _ _)) (nm_r (nI_1 i) hn)))
theorem wy_state_lp {post : Int32 → Prop} {c : Nat} (hc : c < 21) (hp : post (nI (16 * c + wt_bits y_open 4))) : ∀ d i, i + d = 4 → wY_state_10 post y_time y_last y_watchCount y_partCount y_wrong y_changes y_log y_since y_placesLeft y_paths y_values y_open y_timeouts y_deadlines y_events y_eventCounts y_watchers y_watchKinds y_watchPaths y_parts y_happened y_how (d + 1) (nI (16 * c + wt_bits y_open i)) (nI i) := by
  intro d
  induction d with
  | zero =>
    intro i hi
    have e : i = 4 := by omega
    subst e
    exact br_t (nI_le (a := 4) (b := 4) (by omega) (by omega)) hp
  | succ d ih =>
    intro i hi
    have hn := ih (i + 1) (by omega)
    have ci : (nI i).toNatClampNeg = i := nI_clamp (by omega)
    refine br_f (nI_ge (b := 4) (by omega) (by omega)) ⟨vp_in_nI (by omega) (by omega), ?_⟩
    rw [ci]
    by_cases h : y_open i = 0
    · rw [wt_bits_0 h] at hn
      exact br_t h (nm_r (nI_1 i) hn)
    · rw [wt_bits_1 h] at hn
      exact br_f h (nm_r (wt_or c hc i (by omega) _ (wt_bits_8 _ _ (by omega)) (wt_bits_lt _ _)) (nm_r (nI_1 i) hn))
end
theorem i_vc_state {k : Nat} {u : SX} {v : SY} (I : i_Rel k u v) (hk : k + 5 ≤ 2560) : wpX_state (fun r => wpY_state (fun r' => r' = r ∧ i_Rel (k + 5) u v) v) u := by
  have I' := i_up I
  obtain ⟨x_time, x_partCount, x_wrongAt, x_changeCount, x_transactions, x_logStart, x_snapshotStart, x_placesLeft, x_tree, x_treeBefore, x_timeouts, x_deadlines, x_events, x_eventCounts, x_watchSessions, x_watchKinds, x_watchPaths, x_partKinds, x_partPaths, x_partAs, x_partBs, x_changePaths, x_changeKinds⟩ := u
  obtain ⟨y_time, y_last, y_watchCount, y_partCount, y_wrong, y_changes, y_log, y_since, y_placesLeft, y_paths, y_values, y_open, y_timeouts, y_deadlines, y_events, y_eventCounts, y_watchers, y_watchKinds, y_watchPaths, y_parts, y_happened, y_how⟩ := v
  obtain ⟨hT, hI, hV, hS, ⟨t, ht, et, et'⟩, hE, hW, hP, hw, hN, hc⟩ := I
  have h20 := wt_ct_le (wt_nd y_paths) 21
  have h21 := wt_ct_le20 (wt_nd0 hI)
  refine ⟨5, wx_state_lp hT hS ?_ 4 0 rfl⟩
  unfold wpY_state
  refine wy_many hI (nm_r (e' := nI (16 * wt_ct (wt_nd y_paths) 21 + wt_bits y_open 0)) (pk_mul 16 _) ⟨5, wy_state_lp (by omega) ⟨?_, I'⟩ 4 0 rfl⟩)
  have e : (16 : Int32) * nI (wt_ct (wt_nd y_paths) 21) = nI (16 * wt_ct (wt_nd y_paths) 21) := pk_mul 16 _
  rw [e, nI_add, Nat.add_comm]
theorem i_vc_watches {k : Nat} {u : SX} {v : SY} (I : i_Rel k u v) (hk : k + 5 ≤ 2560) : wpX_watches (fun r => wpY_watches (fun r' => r' = r ∧ i_Rel (k + 5) u v) v) u := by
  have I' := i_up I
  obtain ⟨x_time, x_partCount, x_wrongAt, x_changeCount, x_transactions, x_logStart, x_snapshotStart, x_placesLeft, x_tree, x_treeBefore, x_timeouts, x_deadlines, x_events, x_eventCounts, x_watchSessions, x_watchKinds, x_watchPaths, x_partKinds, x_partPaths, x_partAs, x_partBs, x_changePaths, x_changeKinds⟩ := u
  obtain ⟨y_time, y_last, y_watchCount, y_partCount, y_wrong, y_changes, y_log, y_since, y_placesLeft, y_paths, y_values, y_open, y_timeouts, y_deadlines, y_events, y_eventCounts, y_watchers, y_watchKinds, y_watchPaths, y_parts, y_happened, y_how⟩ := v
  obtain ⟨hT, hI, hV, hS, ⟨t, ht, et, et'⟩, hE, ⟨c, hc16, hwc, h3, h4⟩, hP, hw, hN, hc⟩ := I
  refine wx_watches ⟨?_, I'⟩
  have e := h3 (fun _ _ _ => true)
  rw [wt_W_all] at e
  have e2 : wt_ct (fun j => decide (¬ x_watchSessions j = -1)) 16 = wt_X x_watchSessions x_watchKinds x_watchPaths (fun _ _ _ => true) := wt_ct_cg 16 (fun j hj => by
    show decide (¬ x_watchSessions j = -1) = (!decide (x_watchSessions j = -1) && true)
    rw [Bool.and_true, decide_not])
  rw [e2, e]
  exact hwc
theorem wt_le5 {v : Int32} (h0 : ¬ v < 0) (h5 : v ≤ 5) : ∃ j, j < 6 ∧ v = nI j := by
  obtain ⟨j, hj, e⟩ := nI_of2 (M := 5) (n := 5) (by decide) h0 h5
  exact ⟨j, by omega, e⟩
theorem i_vc_node {k : Nat} {u : SX} {v : SY} (I : i_Rel k u v) (hk : k + 5 ≤ 2560) (v1 : Int32) (v2 : Int32) : wpX_node (fun r => wpY_node (fun r' => r' = r ∧ i_Rel (k + 5) u v) v v1 v2) u v1 v2 := by
  have I' := i_up I
  obtain ⟨x_time, x_partCount, x_wrongAt, x_changeCount, x_transactions, x_logStart, x_snapshotStart, x_placesLeft, x_tree, x_treeBefore, x_timeouts, x_deadlines, x_events, x_eventCounts, x_watchSessions, x_watchKinds, x_watchPaths, x_partKinds, x_partPaths, x_partAs, x_partBs, x_changePaths, x_changeKinds⟩ := u
  obtain ⟨y_time, y_last, y_watchCount, y_partCount, y_wrong, y_changes, y_log, y_since, y_placesLeft, y_paths, y_values, y_open, y_timeouts, y_deadlines, y_events, y_eventCounts, y_watchers, y_watchKinds, y_watchPaths, y_parts, y_happened, y_how⟩ := v
  obtain ⟨hT, hI, hV, hS, ⟨t, ht, et, et'⟩, hE, hW, hP, hw, hN, hc⟩ := I
  unfold wpX_node wpY_node
  by_cases hq : wt_fd y_paths v1 < 21
  · refine wx_find_t hT hq (br_f (wt_nn (by omega)) ?_)
    by_cases h6 : v2 = 6
    · refine br_t h6 (wx_cch hT (wy_find_t hq (br_f (nI_pos (by omega)) (br_f (by rw [h6]; decide) (br_t (by rw [h6]; decide) (br_t h6 (wy_chi hI ⟨rfl, I'⟩)))))))
    · refine br_f h6 (br_c (fun h0 => ?_) (fun h0 => br_c (fun h5 => ?_) (fun h5 => ?_)))
      · exact wy_find_t hq (br_f (nI_pos (by omega)) (br_t h0 ⟨rfl, I'⟩))
      · obtain ⟨j, hj, rfl⟩ := wt_le5 h0 h5
        refine ⟨wt_7in _ j hq (by omega), wy_find_t hq (br_f (nI_pos (by omega)) (br_f h0 (br_t (nI_le (b := 6) (by omega) (by omega)) (br_f h6 ⟨wt_6in _ j hq hj, ?_, I'⟩))))⟩
        rw [wt_7c _ j hq (by omega), wt_6c _ j hq hj, (hT _ hq).2 j hj]
      · refine wy_find_t hq (br_f (nI_pos (by omega)) (br_f h0 (br_f (fun z => ?_) ⟨rfl, I'⟩)))
        obtain ⟨j, hj, e⟩ := nI_of2 (M := 6) (n := 6) (by decide) h0 z
        subst e
        by_cases j6 : j = 6
        · subst j6; exact h6 rfl
        · exact h5 (nI_le (b := 5) (by omega) (by omega))
  · exact wx_find_f hT hq (br_t rfl (wy_find_f hq (br_t (by decide) ⟨rfl, I'⟩)))
section
variable {x_time x_partCount x_wrongAt x_changeCount x_transactions x_logStart x_snapshotStart x_placesLeft : Int32} {x_tree x_treeBefore x_timeouts x_deadlines x_events x_eventCounts x_watchSessions x_watchKinds x_watchPaths x_partKinds x_partPaths x_partAs x_partBs x_changePaths x_changeKinds : Nat → Int32}
variable {y_time y_last y_watchCount y_partCount y_wrong y_changes y_log y_since y_placesLeft : Int32} {y_paths y_values y_open y_timeouts y_deadlines y_events y_eventCounts y_watchers y_watchKinds y_watchPaths y_parts y_happened y_how : Nat → Int32}
theorem wt_child_lp {a : Nat} {k : Int32} (ha : a ≤ 1030300) (hT : wt_T x_tree y_paths y_values) (hI : wt_I y_paths y_values) : ∀ d i, i + d = 100 → ∀ m : Int32, ∃ r : Int32, (∀ post : Int32 → Prop, post r → wX_child_20 post (nI a) k x_time x_partCount x_wrongAt x_changeCount x_transactions x_logStart x_snapshotStart x_placesLeft x_tree x_treeBefore x_timeouts x_deadlines x_events x_eventCounts x_watchSessions x_watchKinds x_watchPaths x_partKinds x_partPaths x_partAs x_partBs x_changePaths x_changeKinds (d + 1) m (nI i)) ∧ (∀ post : Int32 → Prop, post r → wY_child_19 post (nI a) k y_time y_last y_watchCount y_partCount y_wrong y_changes y_log y_since y_placesLeft y_paths y_values y_open y_timeouts y_deadlines y_events y_eventCounts y_watchers y_watchKinds y_watchPaths y_parts y_happened y_how (d + 1) m (nI i)) := by
  intro d
  induction d with
  | zero =>
    intro i hi m
    have e : i = 100 := by omega
    subst e
    have l : (100 : Int32) ≤ nI 100 := nI_le (a := 100) (b := 100) (by omega) (by omega)
    exact ⟨-1, fun post hp => br_t l hp, fun post hp => br_t l hp⟩
  | succ d ih =>
    intro i hi m
    have l : ¬ (100 : Int32) ≤ nI i := nI_ge (b := 100) (by omega) (by omega)
    have e1 : nI a * 101 + nI i + 1 = nI (a * 101 + i + 1) := by rw [wt_101, pk_mul, nI_add, nI_1]
    by_cases big : 10201 ≤ a
    · obtain ⟨r, hX, hY⟩ := ih (i + 1) (by omega) m
      have lb : (10201 : Int32) ≤ nI a := nI_le (a := 10201) big (by omega)
      have hn : ¬ wt_fd y_paths (nI (a * 101 + i + 1)) < 21 := fun z => by
        have q := (wt_fd_at z).1
        rcases wt_I_any hI z with y | ⟨b, b1, b2⟩
        · rw [q] at y
          exact wt_nn (by omega) y
        · rw [q] at b2
          have := (nI_eq (by omega) (by omega)).mp b2
          omega
      have hn2 : ¬ wt_fd y_paths (-1) < 21 := by
        rw [wt_fd_neg wt_m1]; omega
      refine ⟨r, fun post hp => ?_, fun post hp => ?_⟩
      · exact br_f l (nm_r e1 (wx_find_f hT hn (br_t rfl (nm_r (nI_1 i) (hX post hp)))))
      · refine br_f l (br_t lb ?_)
        exact wy_find_f hn2 (br_t (by decide) (nm_r (nI_1 i) (hY post hp)))
    · have lb : ¬ (10201 : Int32) ≤ nI a := nI_ge (b := 10201) (by omega) (by omega)
      by_cases hq : wt_fd y_paths (nI (a * 101 + i + 1)) < 21
      · by_cases hm : m = k
        · refine ⟨nI (a * 101 + i + 1), fun post hp => ?_, fun post hp => ?_⟩
          · exact br_f l (nm_r e1 (wx_find_t hT hq (br_f (wt_nn (by omega)) (br_t hm hp))))
          · refine br_f l (br_f lb ?_)
            rw [e1]
            exact wy_find_t hq (br_f (nI_pos (by omega)) (nm_e (br_t hm hp)))
        · obtain ⟨r, hX, hY⟩ := ih (i + 1) (by omega) (m + 1)
          refine ⟨r, fun post hp => ?_, fun post hp => ?_⟩
          · exact br_f l (nm_r e1 (wx_find_t hT hq (br_f (wt_nn (by omega)) (br_f hm (nm_e (nm_r (nI_1 i) (hX post hp)))))))
          · refine br_f l (br_f lb ?_)
            rw [e1]
            exact wy_find_t hq (br_f (nI_pos (by omega)) (nm_e (br_f hm (nm_r (nI_1 i) (hY post hp)))))
      · obtain ⟨r, hX, hY⟩ := ih (i + 1) (by omega) m
        refine ⟨r, fun post hp => ?_, fun post hp => ?_⟩
        · exact br_f l (nm_r e1 (wx_find_f hT hq (br_t rfl (nm_r (nI_1 i) (hX post hp)))))
        · refine br_f l (br_f lb ?_)
          rw [e1]
          exact wy_find_f hq (br_t (by decide) (nm_r (nI_1 i) (hY post hp)))
end
theorem i_vc_child {k : Nat} {u : SX} {v : SY} (I : i_Rel k u v) (hk : k + 5 ≤ 2560) (v1 : Int32) (v2 : Int32) : wpX_child (fun r => wpY_child (fun r' => r' = r ∧ i_Rel (k + 5) u v) v v1 v2) u v1 v2 := by
  have I' := i_up I
  obtain ⟨x_time, x_partCount, x_wrongAt, x_changeCount, x_transactions, x_logStart, x_snapshotStart, x_placesLeft, x_tree, x_treeBefore, x_timeouts, x_deadlines, x_events, x_eventCounts, x_watchSessions, x_watchKinds, x_watchPaths, x_partKinds, x_partPaths, x_partAs, x_partBs, x_changePaths, x_changeKinds⟩ := u
  obtain ⟨y_time, y_last, y_watchCount, y_partCount, y_wrong, y_changes, y_log, y_since, y_placesLeft, y_paths, y_values, y_open, y_timeouts, y_deadlines, y_events, y_eventCounts, y_watchers, y_watchKinds, y_watchPaths, y_parts, y_happened, y_how⟩ := v
  obtain ⟨hT, hI, hV, hS, ⟨t, ht, et, et'⟩, hE, hW, hP, hw, hN, hc⟩ := I
  unfold wpX_child wpY_child
  by_cases hq : wt_fd y_paths v1 < 21
  · by_cases h0 : v2 < 0
    · exact br_t h0 (wy_find_t hq (br_f (nI_pos (by omega)) (br_f (fun z => Int32.not_le.mpr h0 z) ⟨rfl, I'⟩)))
    · have q := (wt_fd_at hq).1
      obtain ⟨a, ha, e⟩ : ∃ a, a ≤ 1030300 ∧ v1 = nI a := by
        rcases wt_I_any hI hq with y | ⟨b, b1, b2⟩
        · rw [q] at y
          exact absurd (y ▸ (wt_fd_at hq).2) (by decide)
        · exact ⟨b, b1, q.symm.trans b2⟩
      subst e
      obtain ⟨r, hX, hY⟩ := wt_child_lp (x_time := x_time) (x_partCount := x_partCount) (x_wrongAt := x_wrongAt) (x_changeCount := x_changeCount) (x_transactions := x_transactions) (x_logStart := x_logStart) (x_snapshotStart := x_snapshotStart) (x_placesLeft := x_placesLeft) (x_tree := x_tree) (x_treeBefore := x_treeBefore) (x_timeouts := x_timeouts) (x_deadlines := x_deadlines) (x_events := x_events) (x_eventCounts := x_eventCounts) (x_watchSessions := x_watchSessions) (x_watchKinds := x_watchKinds) (x_watchPaths := x_watchPaths) (x_partKinds := x_partKinds) (x_partPaths := x_partPaths) (x_partAs := x_partAs) (x_partBs := x_partBs) (x_changePaths := x_changePaths) (x_changeKinds := x_changeKinds) (y_time := y_time) (y_last := y_last) (y_watchCount := y_watchCount) (y_partCount := y_partCount) (y_wrong := y_wrong) (y_changes := y_changes) (y_log := y_log) (y_since := y_since) (y_placesLeft := y_placesLeft) (y_paths := y_paths) (y_values := y_values) (y_open := y_open) (y_timeouts := y_timeouts) (y_deadlines := y_deadlines) (y_events := y_events) (y_eventCounts := y_eventCounts) (y_watchers := y_watchers) (y_watchKinds := y_watchKinds) (y_watchPaths := y_watchPaths) (y_parts := y_parts) (y_happened := y_happened) (y_how := y_how) (k := v2) ha hT hI 100 0 rfl 0
      exact br_f h0 (wx_find_t hT hq (br_f (wt_nn (by omega)) ⟨101, hX _ (wy_find_t hq (br_f (nI_pos (by omega)) (br_t (wt_lt_ge h0) ⟨101, hY _ ⟨rfl, I'⟩⟩)))⟩))
  · refine br_c (fun h0 => wy_find_f hq (br_t (by decide) ⟨rfl, I'⟩)) (fun h0 => wx_find_f hT hq (br_t rfl (wy_find_f hq (br_t (by decide) ⟨rfl, I'⟩))))
end
section
theorem wt_rng {v M : Int32} {n : Nat} (hM : M.toInt = n) (h1 : ¬ v < 1) (h2 : v ≤ M) : ∃ b, 1 ≤ b ∧ b ≤ n ∧ v = nI b := by
  have h0 : ¬ v < 0 := fun z => h1 (Int32.lt_trans z (by decide))
  obtain ⟨b, hb, e⟩ := nI_of2 hM h0 h2
  refine ⟨b, ?_, hb, e⟩
  apply Nat.pos_of_ne_zero
  intro z
  subst z
  rw [e] at h1
  exact h1 (by decide)
theorem wt_subneg {a b : Nat} (h : a ≤ b) (hb : b < 2 ^ 30) : nI a - nI b ≤ 0 := by
  rw [Int32.le_iff_toInt_le, pk_sub_toInt (by omega) hb, show (0 : Int32).toInt = 0 from by decide]
  omega
section
variable {x_time x_partCount x_wrongAt x_changeCount x_transactions x_logStart x_snapshotStart x_placesLeft : Int32} {x_tree x_treeBefore x_timeouts x_deadlines x_events x_eventCounts x_watchSessions x_watchKinds x_watchPaths x_partKinds x_partPaths x_partAs x_partBs x_changePaths x_changeKinds : Nat → Int32}
variable {y_time y_last y_watchCount y_partCount y_wrong y_changes y_log y_since y_placesLeft : Int32} {y_paths y_values y_open y_timeouts y_deadlines y_events y_eventCounts y_watchers y_watchKinds y_watchPaths y_parts y_happened y_how : Nat → Int32}
theorem wx_save_0 {post : Int32 → SX → Prop} {a b : Nat} (h : a ≤ b) (hb : b ≤ 24) (hp : post 0 (x_time, x_partCount, x_wrongAt, x_changeCount, x_transactions, x_snapshotStart, x_snapshotStart, 0, x_tree, x_treeBefore, x_timeouts, x_deadlines, x_events, x_eventCounts, x_watchSessions, x_watchKinds, x_watchPaths, x_partKinds, x_partPaths, x_partAs, x_partBs, x_changePaths, x_changeKinds)) : wX_save_34 post (nI b) x_time x_partCount x_wrongAt x_changeCount x_transactions x_logStart x_snapshotStart (nI a) x_tree x_treeBefore x_timeouts x_deadlines x_events x_eventCounts x_watchSessions x_watchKinds x_watchPaths x_partKinds x_partPaths x_partAs x_partBs x_changePaths x_changeKinds := br_t (nI_le h (by omega)) (br_t rfl hp)
theorem wx_save_1 {post : Int32 → SX → Prop} {a b : Nat} (h : b < a) (hb : a ≤ 24) (hp : post (nI (a - b)) (x_time, x_partCount, x_wrongAt, x_changeCount, x_transactions, x_logStart, x_snapshotStart, (nI (a - b)), x_tree, x_treeBefore, x_timeouts, x_deadlines, x_events, x_eventCounts, x_watchSessions, x_watchKinds, x_watchPaths, x_partKinds, x_partPaths, x_partAs, x_partBs, x_changePaths, x_changeKinds)) : wX_save_34 post (nI b) x_time x_partCount x_wrongAt x_changeCount x_transactions x_logStart x_snapshotStart (nI a) x_tree x_treeBefore x_timeouts x_deadlines x_events x_eventCounts x_watchSessions x_watchKinds x_watchPaths x_partKinds x_partPaths x_partAs x_partBs x_changePaths x_changeKinds := by
  refine br_f (nI_ge h (by omega)) ?_
  unfold wX_save_53
  rw [pk_sub (by omega)]
  exact br_f (nI_ne0 (by omega) (by omega)) hp
theorem wy_save_0 {post : Int32 → SY → Prop} {a b : Nat} (h : a ≤ b) (hb : b ≤ 24) (hp : post 0 (y_time, y_last, y_watchCount, y_partCount, y_wrong, y_changes, y_since, y_since, 0, y_paths, y_values, y_open, y_timeouts, y_deadlines, y_events, y_eventCounts, y_watchers, y_watchKinds, y_watchPaths, y_parts, y_happened, y_how)) : wY_save_31 post (nI b) y_time y_last y_watchCount y_partCount y_wrong y_changes y_log y_since (nI a) y_paths y_values y_open y_timeouts y_deadlines y_events y_eventCounts y_watchers y_watchKinds y_watchPaths y_parts y_happened y_how := nm_e (br_t (wt_subneg h (by omega)) hp)
theorem wy_save_1 {post : Int32 → SY → Prop} {a b : Nat} (h : b < a) (hb : a ≤ 24) (hp : post (nI (a - b)) (y_time, y_last, y_watchCount, y_partCount, y_wrong, y_changes, y_log, y_since, (nI (a - b)), y_paths, y_values, y_open, y_timeouts, y_deadlines, y_events, y_eventCounts, y_watchers, y_watchKinds, y_watchPaths, y_parts, y_happened, y_how)) : wY_save_31 post (nI b) y_time y_last y_watchCount y_partCount y_wrong y_changes y_log y_since (nI a) y_paths y_values y_open y_timeouts y_deadlines y_events y_eventCounts y_watchers y_watchKinds y_watchPaths y_parts y_happened y_how := nm_r (pk_sub (by omega)) (br_f (nI_nle (by omega) (by omega)) hp)
end
theorem i_vc_save {k : Nat} {u : SX} {v : SY} (I : i_Rel k u v) (hk : k + 5 ≤ 2560) (v1 : Int32) : wpX_save (fun r u' => wpY_save (fun r' v' => r' = r ∧ i_Rel (k + 5) u' v') v v1) u v1 := by
  have I' := i_up I
  obtain ⟨x_time, x_partCount, x_wrongAt, x_changeCount, x_transactions, x_logStart, x_snapshotStart, x_placesLeft, x_tree, x_treeBefore, x_timeouts, x_deadlines, x_events, x_eventCounts, x_watchSessions, x_watchKinds, x_watchPaths, x_partKinds, x_partPaths, x_partAs, x_partBs, x_changePaths, x_changeKinds⟩ := u
  obtain ⟨y_time, y_last, y_watchCount, y_partCount, y_wrong, y_changes, y_log, y_since, y_placesLeft, y_paths, y_values, y_open, y_timeouts, y_deadlines, y_events, y_eventCounts, y_watchers, y_watchKinds, y_watchPaths, y_parts, y_happened, y_how⟩ := v
  have I2 := I'
  obtain ⟨hT, hI, hV, hS, hti, hE, hW, hP, hw, ⟨n1, n2, n3, ⟨a, n4, n5⟩, n6⟩, hc⟩ := I2
  by_cases h1 : v1 < 1
  · exact br_t h1 (br_t h1 ⟨rfl, I'⟩)
  · by_cases h2 : v1 ≤ 24
    · obtain ⟨b, b1, b2, rfl⟩ := wt_rng (n := 24) (by decide) h1 h2
      subst n5
      subst n3
      subst n1
      refine br_f h1 (br_t h2 ?_)
      by_cases a0 : a = 0
      · subst a0
        refine br_t rfl ?_
        by_cases le : 24 ≤ b
        · refine wx_save_0 (a := 24) le b2 (br_f h1 (br_t h2 (br_t rfl (wy_save_0 (a := 24) le b2 ⟨rfl, hT, hI, hV, hS, hti, hE, hW, hP, hw, ⟨rfl, ?_, rfl, ⟨0, by omega, rfl⟩, fun z => absurd rfl z⟩, hc⟩))))
          exact Int32.sub_self _
        · refine wx_save_1 (a := 24) (by omega) (by omega) (br_f h1 (br_t h2 (br_t rfl (wy_save_1 (a := 24) (by omega) (by omega) ⟨rfl, hT, hI, hV, hS, hti, hE, hW, hP, hw, ⟨rfl, n2, rfl, ⟨24 - b, by omega, rfl⟩, fun _ => ?_⟩, hc⟩))))
          exact Int32.sub_self _
      · have an : ¬ nI a = 0 := nI_ne0 (by omega) (by omega)
        refine br_f an ?_
        by_cases le : a ≤ b
        · exact wx_save_0 le b2 (br_f h1 (br_t h2 (br_f an (wy_save_0 le b2 ⟨rfl, hT, hI, hV, hS, hti, hE, hW, hP, hw, ⟨rfl, n6 an, rfl, ⟨0, by omega, rfl⟩, fun z => absurd rfl z⟩, hc⟩))))
        · exact wx_save_1 (by omega) n4 (br_f h1 (br_t h2 (br_f an (wy_save_1 (by omega) n4 ⟨rfl, hT, hI, hV, hS, hti, hE, hW, hP, hw, ⟨rfl, n2, rfl, ⟨a - b, by omega, rfl⟩, fun _ => n6 an⟩, hc⟩))))
    · exact br_f h1 (br_f h2 (br_f h1 (br_f h2 ⟨rfl, I'⟩)))
theorem wt_4j (i j : Nat) : (4 : Int32) * nI i + nI j = nI (4 * i + j) := by
  have e : (4 : Int32) * nI i = nI (4 * i) := pk_mul 4 i
  rw [e, nI_add]
theorem wt_4c (i j : Nat) (hi : i < 6) (hj : j < 4) : ((4 : Int32) * nI i + nI j).toNatClampNeg = 4 * i + j := by
  rw [wt_4j]; exact nI_clamp (by omega)
theorem wt_4in (i j : Nat) (hi : i < 6) (hj : j < 4) : vp_in ((4 : Int32) * nI i + nI j) 24 := by
  rw [wt_4j]; exact vp_in_nI (by omega) (by omega)
theorem wt_4c0 (i : Nat) (hi : i < 6) : ((4 : Int32) * nI i).toNatClampNeg = 4 * i := by
  have e : (4 : Int32) * nI i = nI (4 * i) := pk_mul 4 i
  rw [e]; exact nI_clamp (by omega)
theorem wt_4in0 (i : Nat) (hi : i < 6) : vp_in ((4 : Int32) * nI i) 24 := by
  have e : (4 : Int32) * nI i = nI (4 * i) := pk_mul 4 i
  rw [e]; exact vp_in_nI (by omega) (by omega)
section
variable {x_time x_partCount x_wrongAt x_changeCount x_transactions x_logStart x_snapshotStart x_placesLeft : Int32} {x_tree x_treeBefore x_timeouts x_deadlines x_events x_eventCounts x_watchSessions x_watchKinds x_watchPaths x_partKinds x_partPaths x_partAs x_partBs x_changePaths x_changeKinds : Nat → Int32}
variable {y_time y_last y_watchCount y_partCount y_wrong y_changes y_log y_since y_placesLeft : Int32} {y_paths y_values y_open y_timeouts y_deadlines y_events y_eventCounts y_watchers y_watchKinds y_watchPaths y_parts y_happened y_how : Nat → Int32}
theorem wx_part {post : Int32 → SX → Prop} {c : Nat} {a1 a2 a3 a4 : Int32} (hc : c < 6) (hp : post (nI (c + 1)) (x_time, (nI (c + 1)), x_wrongAt, x_changeCount, x_transactions, x_logStart, x_snapshotStart, x_placesLeft, x_tree, x_treeBefore, x_timeouts, x_deadlines, x_events, x_eventCounts, x_watchSessions, x_watchKinds, x_watchPaths, (upd x_partKinds c a1), (upd x_partPaths c a2), (upd x_partAs c a3), (upd x_partBs c a4), x_changePaths, x_changeKinds)) : wX_part_43 post a1 a2 a3 a4 x_time (nI c) x_wrongAt x_changeCount x_transactions x_logStart x_snapshotStart x_placesLeft x_tree x_treeBefore x_timeouts x_deadlines x_events x_eventCounts x_watchSessions x_watchKinds x_watchPaths x_partKinds x_partPaths x_partAs x_partBs x_changePaths x_changeKinds := by
  have v : vp_in (nI c) 6 := vp_in_nI hc (by omega)
  have e : (nI c).toNatClampNeg = c := nI_clamp (by omega)
  exact ⟨v, nm_r (wt_ui _ _ e) ⟨v, nm_r (wt_ui _ _ e) ⟨v, nm_r (wt_ui _ _ e) ⟨v, nm_r (wt_ui _ _ e) (nm_r (nI_1 c) hp)⟩⟩⟩⟩
theorem wy_part {post : Int32 → SY → Prop} {c : Nat} {a1 a2 a3 a4 : Int32} (hc : c < 6) (hp : post (nI (c + 1)) (y_time, y_last, y_watchCount, (nI (c + 1)), y_wrong, y_changes, y_log, y_since, y_placesLeft, y_paths, y_values, y_open, y_timeouts, y_deadlines, y_events, y_eventCounts, y_watchers, y_watchKinds, y_watchPaths, (upd (upd (upd (upd y_parts (4 * c) a1) (4 * c + 1) a2) (4 * c + 2) a3) (4 * c + 3) a4), y_happened, y_how)) : wY_part_35 post a1 a2 a3 a4 y_time y_last y_watchCount (nI c) y_wrong y_changes y_log y_since y_placesLeft y_paths y_values y_open y_timeouts y_deadlines y_events y_eventCounts y_watchers y_watchKinds y_watchPaths y_parts y_happened y_how :=
  ⟨wt_4in0 c hc, nm_r (wt_ui _ _ (wt_4c0 c hc)) ⟨wt_4in c 1 hc (by omega), nm_r (wt_ui _ _ (wt_4c c 1 hc (by omega))) ⟨wt_4in c 2 hc (by omega), nm_r (wt_ui _ _ (wt_4c c 2 hc (by omega))) (nm_r (nI_1 c) ⟨wt_4in c 3 hc (by omega), nm_r (wt_ui _ _ (wt_4c c 3 hc (by omega))) hp⟩)⟩⟩⟩
end
theorem wt_P_s {xk xp xa xb yp : Nat → Int32} {c b : Nat} {a2 a3 a4 : Int32} (hc : c < 6) (h : ∀ i, i < c → xk i = yp (4 * i) ∧ xp i = yp (4 * i + 1) ∧ xa i = yp (4 * i + 2) ∧ xb i = yp (4 * i + 3) ∧ ∃ b, b ≤ 3 ∧ yp (4 * i) = nI b ∧ (b = 0 → ∃ f, f ≤ 3 ∧ yp (4 * i + 3) = nI f)) (hb : b ≤ 3) (hf : b = 0 → ∃ f, f ≤ 3 ∧ a4 = nI f) : wt_P (nI (c + 1)) (nI (c + 1)) (upd xk c (nI b)) (upd xp c a2) (upd xa c a3) (upd xb c a4) (upd (upd (upd (upd yp (4 * c) (nI b)) (4 * c + 1) a2) (4 * c + 2) a3) (4 * c + 3) a4) := by
  refine ⟨c + 1, by omega, rfl, rfl, fun i hi => ?_⟩
  by_cases e : i = c
  · subst e
    have e0 : upd (upd (upd (upd yp (4 * i) (nI b)) (4 * i + 1) a2) (4 * i + 2) a3) (4 * i + 3) a4 (4 * i) = nI b := by
      rw [pk_un (by omega), pk_un (by omega), pk_un (by omega), pk_us]
    have e1 : upd (upd (upd (upd yp (4 * i) (nI b)) (4 * i + 1) a2) (4 * i + 2) a3) (4 * i + 3) a4 (4 * i + 1) = a2 := by
      rw [pk_un (by omega), pk_un (by omega), pk_us]
    have e2 : upd (upd (upd (upd yp (4 * i) (nI b)) (4 * i + 1) a2) (4 * i + 2) a3) (4 * i + 3) a4 (4 * i + 2) = a3 := by
      rw [pk_un (by omega), pk_us]
    rw [e0, e1, e2, pk_us, pk_us, pk_us, pk_us, pk_us]
    exact ⟨rfl, rfl, rfl, rfl, b, hb, rfl, hf⟩
  · have q : ∀ j, j < 4 → upd (upd (upd (upd yp (4 * c) (nI b)) (4 * c + 1) a2) (4 * c + 2) a3) (4 * c + 3) a4 (4 * i + j) = yp (4 * i + j) := fun j hj => by
      rw [pk_un (by omega), pk_un (by omega), pk_un (by omega), pk_un (by omega)]
    have q0 : upd (upd (upd (upd yp (4 * c) (nI b)) (4 * c + 1) a2) (4 * c + 2) a3) (4 * c + 3) a4 (4 * i) = yp (4 * i) := q 0 (by omega)
    rw [q0, q 1 (by omega), q 2 (by omega), q 3 (by omega), pk_un e, pk_un e, pk_un e, pk_un e]
    exact h i (by omega)
theorem i_vc_part {k : Nat} {u : SX} {v : SY} (I : i_Rel k u v) (hk : k + 5 ≤ 2560) (v1 : Int32) (v2 : Int32) (v3 : Int32) (v4 : Int32) : wpX_part (fun r u' => wpY_part (fun r' v' => r' = r ∧ i_Rel (k + 5) u' v') v v1 v2 v3 v4) u v1 v2 v3 v4 := by
  have I' := i_up I
  obtain ⟨x_time, x_partCount, x_wrongAt, x_changeCount, x_transactions, x_logStart, x_snapshotStart, x_placesLeft, x_tree, x_treeBefore, x_timeouts, x_deadlines, x_events, x_eventCounts, x_watchSessions, x_watchKinds, x_watchPaths, x_partKinds, x_partPaths, x_partAs, x_partBs, x_changePaths, x_changeKinds⟩ := u
  obtain ⟨y_time, y_last, y_watchCount, y_partCount, y_wrong, y_changes, y_log, y_since, y_placesLeft, y_paths, y_values, y_open, y_timeouts, y_deadlines, y_events, y_eventCounts, y_watchers, y_watchKinds, y_watchPaths, y_parts, y_happened, y_how⟩ := v
  have I2 := I'
  obtain ⟨hT, hI, hV, hS, hti, hE, hW, ⟨c, c1, c2, c3, c4⟩, hw, hN, hc⟩ := I2
  subst c2
  subst c3
  by_cases c6 : c = 6
  · subst c6
    exact br_f (by decide) (br_f (by decide) (br_t rfl ⟨rfl, I'⟩))
  · have l6 : nI c < 6 := nI_lt (b := 6) (by omega) (by omega)
    have n6 : ¬ nI c = 6 := fun z => by
      have := (nI_eq (a := c) (b := 6) (by omega) (by omega)).mp z
      omega
    refine br_f (nI_pos (by omega)) (br_t l6 ?_)
    by_cases h0 : v1 < 0
    · exact br_t h0 (br_f n6 (br_t h0 ⟨rfl, I'⟩))
    · by_cases h3 : v1 ≤ 3
      · obtain ⟨b, hb, rfl⟩ := nI_of2 (M := 3) (n := 3) (by decide) h0 h3
        have h3' : ¬ 3 < nI b := Int32.not_lt.mpr h3
        by_cases b0 : b = 0
        · subst b0
          by_cases hf : ∃ f, f ≤ 3 ∧ v4 = nI f
          · obtain ⟨f, f1, rfl⟩ := hf
            refine br_f h0 (br_t h3 (br_t rfl (wx_flags_t f1 (br_f (by decide) (wx_part (by omega) (br_f n6 (br_f h0 (br_f h3' (br_t rfl (br_f (nI_pos (by omega)) (br_t (nI_le (b := 3) f1 (by omega)) (wy_part (by omega) ⟨rfl, ?_⟩))))))))))))
            exact ⟨hT, hI, hV, hS, hti, hE, hW, wt_P_s (b := 0) (by omega) c4 (by omega) (fun _ => ⟨f, f1, rfl⟩), hw, hN, hc⟩
          · refine br_f h0 (br_t h3 (br_t rfl (wx_flags_f (fun f f1 f2 => hf ⟨f, f1, f2⟩) (br_t rfl (br_f n6 (br_f h0 (br_f h3' (br_t rfl (br_c (fun _ => ⟨rfl, I'⟩) (fun z => br_f (fun y => ?_) ⟨rfl, I'⟩))))))))))
            obtain ⟨f, f1, f2⟩ := nI_of2 (M := 3) (n := 3) (by decide) z y
            exact hf ⟨f, f1, f2⟩
        · have bn : ¬ nI b = 0 := nI_ne0 (by omega) (by omega)
          refine br_f h0 (br_t h3 (br_f bn (wx_part (by omega) (br_f n6 (br_f h0 (br_f h3' (br_f bn (wy_part (by omega) ⟨rfl, ?_⟩))))))))
          exact ⟨hT, hI, hV, hS, hti, hE, hW, wt_P_s (by omega) c4 hb (fun z => absurd z b0), hw, hN, hc⟩
      · exact br_f h0 (br_f h3 (br_f n6 (br_f h0 (br_t (Int32.not_le.mp h3) ⟨rfl, I'⟩))))
end
section
def wt_Q3 (s k q : Int32) : Int32 → Int32 → Int32 → Bool := fun a b c => decide (a = s ∧ b = k ∧ c = q)
theorem wt_fs_lt {P : Nat → Bool} {n : Nat} : wt_fs P n 0 < n ↔ ∃ j, j < n ∧ P j = true := by
  obtain ⟨_, b, c, e⟩ := wt_fs_spec P n 0
  constructor
  · intro h
    exact ⟨_, h, c (by omega)⟩
  · rintro ⟨j, hj, h⟩
    exact Nat.lt_of_le_of_lt (Nat.not_lt.mp (fun z => e j (by omega) z h)) hj
theorem wt_ct_pos {P : Nat → Bool} {n : Nat} : (∃ j, j < n ∧ P j = true) ↔ ¬ wt_ct P n = 0 := by
  constructor
  · rintro ⟨j, hj, h⟩ z
    exact (wt_ct_0 n).mp z j hj h
  · intro z
    refine Classical.byContradiction (fun y => z ((wt_ct_0 n).mpr (fun j hj h => y ⟨j, hj, h⟩)))
section
variable {x_time x_partCount x_wrongAt x_changeCount x_transactions x_logStart x_snapshotStart x_placesLeft : Int32} {x_tree x_treeBefore x_timeouts x_deadlines x_events x_eventCounts x_watchSessions x_watchKinds x_watchPaths x_partKinds x_partPaths x_partAs x_partBs x_changePaths x_changeKinds : Nat → Int32}
variable {y_time y_last y_watchCount y_partCount y_wrong y_changes y_log y_since y_placesLeft : Int32} {y_paths y_values y_open y_timeouts y_deadlines y_events y_eventCounts y_watchers y_watchKinds y_watchPaths y_parts y_happened y_how : Nat → Int32}
theorem wy_watch_lp {post : Int32 → SY → Prop} {s k q : Int32} {c : Nat} (hc : c ≤ 16) (h0 : (∃ j, j < c ∧ wt_Q3 s k q (y_watchers j) (y_watchKinds j) (y_watchPaths j) = true) → post 0 (y_time, y_last, (nI c), y_partCount, y_wrong, y_changes, y_log, y_since, y_placesLeft, y_paths, y_values, y_open, y_timeouts, y_deadlines, y_events, y_eventCounts, y_watchers, y_watchKinds, y_watchPaths, y_parts, y_happened, y_how)) (hf : (¬ ∃ j, j < c ∧ wt_Q3 s k q (y_watchers j) (y_watchKinds j) (y_watchPaths j) = true) → c = 16 → post (-6) (y_time, y_last, (nI c), y_partCount, y_wrong, y_changes, y_log, y_since, y_placesLeft, y_paths, y_values, y_open, y_timeouts, y_deadlines, y_events, y_eventCounts, y_watchers, y_watchKinds, y_watchPaths, y_parts, y_happened, y_how)) (ha : (¬ ∃ j, j < c ∧ wt_Q3 s k q (y_watchers j) (y_watchKinds j) (y_watchPaths j) = true) → c < 16 → post 1 (y_time, y_last, (nI (c + 1)), y_partCount, y_wrong, y_changes, y_log, y_since, y_placesLeft, y_paths, y_values, y_open, y_timeouts, y_deadlines, y_events, y_eventCounts, (upd y_watchers c s), (upd y_watchKinds c k), (upd y_watchPaths c q), y_parts, y_happened, y_how)) : ∀ d i, i + d = c → (∀ j, j < i → ¬ wt_Q3 s k q (y_watchers j) (y_watchKinds j) (y_watchPaths j) = true) → wY_watch_48 post s k q y_time y_last (nI c) y_partCount y_wrong y_changes y_log y_since y_placesLeft y_paths y_values y_open y_timeouts y_deadlines y_events y_eventCounts y_watchers y_watchKinds y_watchPaths y_parts y_happened y_how (d + 1) (nI i) := by
  intro d
  induction d with
  | zero =>
    intro i hi hno
    have e : i = c := by omega
    subst e
    have no : ¬ ∃ j, j < i ∧ wt_Q3 s k q (y_watchers j) (y_watchKinds j) (y_watchPaths j) = true := fun ⟨j, a, b⟩ => hno j a b
    refine br_t (nI_le (Nat.le_refl _) (by omega)) ?_
    by_cases e16 : i = 16
    · subst e16
      exact br_t rfl (hf no rfl)
    · have v : vp_in (nI i) 16 := vp_in_nI (by omega) (by omega)
      have e : (nI i).toNatClampNeg = i := nI_clamp (by omega)
      refine br_f (fun z => ?_) ⟨v, nm_r (wt_ui _ _ e) ⟨v, nm_r (wt_ui _ _ e) (nm_r (nI_1 i) ⟨v, nm_r (wt_ui _ _ e) (ha no (by omega))⟩)⟩⟩
      have := (nI_eq (a := i) (b := 16) (by omega) (by omega)).mp z
      omega
  | succ d ih =>
    intro i hi hno
    have v : vp_in (nI i) 16 := vp_in_nI (by omega) (by omega)
    have e : (nI i).toNatClampNeg = i := nI_clamp (by omega)
    refine br_f (nI_ge (by omega) (by omega)) ⟨v, ?_⟩
    rw [e]
    by_cases g : y_watchers i = s ∧ y_watchKinds i = k ∧ y_watchPaths i = q
    · exact br_t g.1 ⟨v, br_t g.2.1 ⟨v, br_t g.2.2 (h0 ⟨i, by omega, decide_eq_true g⟩)⟩⟩
    · have hn := ih (i + 1) (by omega) (fun j hj => by
        by_cases z : j = i
        · subst z; exact fun y => g (of_decide_eq_true y)
        · exact hno j (by omega))
      exact br_c (fun g1 => ⟨v, br_c (fun g2 => ⟨v, br_f (fun g3 => g ⟨g1, g2, g3⟩) (nm_r (nI_1 i) hn)⟩) (fun _ => nm_r (nI_1 i) hn)⟩) (fun _ => nm_r (nI_1 i) hn)
end
section
variable {x_time x_partCount x_wrongAt x_changeCount x_transactions x_logStart x_snapshotStart x_placesLeft : Int32} {x_tree x_treeBefore x_timeouts x_deadlines x_events x_eventCounts x_watchSessions x_watchKinds x_watchPaths x_partKinds x_partPaths x_partAs x_partBs x_changePaths x_changeKinds : Nat → Int32}
variable {y_time y_last y_watchCount y_partCount y_wrong y_changes y_log y_since y_placesLeft : Int32} {y_paths y_values y_open y_timeouts y_deadlines y_events y_eventCounts y_watchers y_watchKinds y_watchPaths y_parts y_happened y_how : Nat → Int32}
/-- behind the tests: the session has it, or all places are taken, or it is added -/
theorem wt_watch {B s b : Nat} {q : Int32} (hs : s < 4) (ho : y_open s = 1) (hb : b ≤ 2) (hW : wt_WR y_open x_watchSessions x_watchKinds x_watchPaths y_watchers y_watchKinds y_watchPaths y_watchCount) (hR : ∀ xs xk xp ys yk yp wc, wt_WR y_open xs xk xp ys yk yp wc → wt_R B (x_time, x_partCount, x_wrongAt, x_changeCount, x_transactions, x_logStart, x_snapshotStart, x_placesLeft, x_tree, x_treeBefore, x_timeouts, x_deadlines, x_events, x_eventCounts, xs, xk, xp, x_partKinds, x_partPaths, x_partAs, x_partBs, x_changePaths, x_changeKinds) (y_time, y_last, wc, y_partCount, y_wrong, y_changes, y_log, y_since, y_placesLeft, y_paths, y_values, y_open, y_timeouts, y_deadlines, y_events, y_eventCounts, ys, yk, yp, y_parts, y_happened, y_how)) : ∃ (r : Int32) (u' : SX) (v' : SY), (∀ post : Int32 → SX → Prop, post r u' → wX_watch_46 post (nI s) (nI b) q x_time x_partCount x_wrongAt x_changeCount x_transactions x_logStart x_snapshotStart x_placesLeft x_tree x_treeBefore x_timeouts x_deadlines x_events x_eventCounts x_watchSessions x_watchKinds x_watchPaths x_partKinds x_partPaths x_partAs x_partBs x_changePaths x_changeKinds) ∧ (∀ post : Int32 → SY → Prop, post r v' → ∃ n48 : Nat, wY_watch_48 post (nI s) (nI b) q y_time y_last y_watchCount y_partCount y_wrong y_changes y_log y_since y_placesLeft y_paths y_values y_open y_timeouts y_deadlines y_events y_eventCounts y_watchers y_watchKinds y_watchPaths y_parts y_happened y_how n48 0) ∧ wt_R B u' v' := by
  obtain ⟨c, hc, rfl, h3, h4⟩ := hW
  have hW : wt_WR y_open x_watchSessions x_watchKinds x_watchPaths y_watchers y_watchKinds y_watchPaths (nI c) := ⟨c, hc, rfl, h3, h4⟩
  have hx : (∃ j, j < 16 ∧ decide (x_watchSessions j = nI s ∧ x_watchKinds j = nI b ∧ x_watchPaths j = q) = true) ↔ ∃ j, j < c ∧ wt_Q3 (nI s) (nI b) q (y_watchers j) (y_watchKinds j) (y_watchPaths j) = true := by
    have e1 : wt_ct (fun j => decide (x_watchSessions j = nI s ∧ x_watchKinds j = nI b ∧ x_watchPaths j = q)) 16 = wt_X x_watchSessions x_watchKinds x_watchPaths (wt_Q3 (nI s) (nI b) q) := wt_ct_cg 16 (fun j hj => by
      show decide (x_watchSessions j = nI s ∧ x_watchKinds j = nI b ∧ x_watchPaths j = q) = (!decide (x_watchSessions j = -1) && decide (x_watchSessions j = nI s ∧ x_watchKinds j = nI b ∧ x_watchPaths j = q))
      by_cases z : x_watchSessions j = -1
      · have f : ¬ (x_watchSessions j = nI s ∧ x_watchKinds j = nI b ∧ x_watchPaths j = q) := fun y => wt_nn (n := s) (by omega) (y.1.symm.trans z)
        rw [decide_eq_false f, Bool.and_false]
      · rw [decide_eq_false z]
        rfl)
    have e2 := h3 (wt_Q3 (nI s) (nI b) q)
    exact (wt_ct_pos (P := fun j => decide (x_watchSessions j = nI s ∧ x_watchKinds j = nI b ∧ x_watchPaths j = q))).trans (by
      rw [e1, e2]
      exact (wt_ct_pos (P := fun j => wt_Q3 (nI s) (nI b) q (y_watchers j) (y_watchKinds j) (y_watchPaths j))).symm)
  have hxf : wt_fs (fun j => decide (x_watchSessions j = nI s ∧ x_watchKinds j = nI b ∧ x_watchPaths j = q)) 16 0 < 16 ↔ ∃ j, j < 16 ∧ decide (x_watchSessions j = nI s ∧ x_watchKinds j = nI b ∧ x_watchPaths j = q) = true := wt_fs_lt
  by_cases has : ∃ j, j < c ∧ wt_Q3 (nI s) (nI b) q (y_watchers j) (y_watchKinds j) (y_watchPaths j) = true
  · refine ⟨0, (x_time, x_partCount, x_wrongAt, x_changeCount, x_transactions, x_logStart, x_snapshotStart, x_placesLeft, x_tree, x_treeBefore, x_timeouts, x_deadlines, x_events, x_eventCounts, x_watchSessions, x_watchKinds, x_watchPaths, x_partKinds, x_partPaths, x_partAs, x_partBs, x_changePaths, x_changeKinds), (y_time, y_last, (nI c), y_partCount, y_wrong, y_changes, y_log, y_since, y_placesLeft, y_paths, y_values, y_open, y_timeouts, y_deadlines, y_events, y_eventCounts, y_watchers, y_watchKinds, y_watchPaths, y_parts, y_happened, y_how), fun post hp => ?_, fun post hp => ?_, hR _ _ _ _ _ _ _ hW⟩
    · unfold wX_watch_46
      refine wx_has ?_
      rw [wt_bt (hxf.mpr (hx.mpr has))]
      exact br_f (by decide) hp
    · exact ⟨c + 1, wy_watch_lp hc (fun _ => hp) (fun z => absurd has z) (fun z => absurd has z) c 0 (by omega) (fun j hj => absurd hj (Nat.not_lt_zero _))⟩
  · have nx : ¬ wt_fs (fun j => decide (x_watchSessions j = nI s ∧ x_watchKinds j = nI b ∧ x_watchPaths j = q)) 16 0 < 16 := fun z => has (hx.mp (hxf.mp z))
    have hff : wt_fs (fun j => decide (x_watchSessions j = -1)) 16 0 < 16 ↔ ∃ j, j < 16 ∧ decide (x_watchSessions j = -1) = true := wt_fs_lt
    have hcnt : wt_ct (fun j => decide (¬ x_watchSessions j = -1)) 16 = c := by
      have e := h3 (fun _ _ _ => true)
      rw [wt_W_all] at e
      have e2 : wt_ct (fun j => decide (¬ x_watchSessions j = -1)) 16 = wt_X x_watchSessions x_watchKinds x_watchPaths (fun _ _ _ => true) := wt_ct_cg 16 (fun j hj => by
        show decide (¬ x_watchSessions j = -1) = (!decide (x_watchSessions j = -1) && true)
        rw [Bool.and_true, decide_not])
      rw [e2, e]
    by_cases hfree : wt_fs (fun j => decide (x_watchSessions j = -1)) 16 0 < 16
    · have hat : x_watchSessions (wt_fs (fun j => decide (x_watchSessions j = -1)) 16 0) = -1 := of_decide_eq_true ((wt_fs_spec (fun j => decide (x_watchSessions j = -1)) 16 0).2.2.1 (by omega))
      have lt : c < 16 := by
        apply Nat.lt_of_le_of_ne hc
        intro z
        have := (wt_ct_all (P := fun j => decide (¬ x_watchSessions j = -1)) 16).mp (hcnt.trans z) _ hfree
        exact (of_decide_eq_true this) hat
      have hr : (if wt_fs (fun j => decide (x_watchSessions j = -1)) 16 0 < 16 then nI (wt_fs (fun j => decide (x_watchSessions j = -1)) 16 0) else -1) = nI (wt_fs (fun j => decide (x_watchSessions j = -1)) 16 0) := if_pos hfree
      generalize hF : wt_fs (fun j => decide (x_watchSessions j = -1)) 16 0 = f at hfree hat hr
      refine ⟨1, (x_time, x_partCount, x_wrongAt, x_changeCount, x_transactions, x_logStart, x_snapshotStart, x_placesLeft, x_tree, x_treeBefore, x_timeouts, x_deadlines, x_events, x_eventCounts, (upd x_watchSessions f (nI s)), (upd x_watchKinds f (nI b)), (upd x_watchPaths f q), x_partKinds, x_partPaths, x_partAs, x_partBs, x_changePaths, x_changeKinds), (y_time, y_last, (nI (c + 1)), y_partCount, y_wrong, y_changes, y_log, y_since, y_placesLeft, y_paths, y_values, y_open, y_timeouts, y_deadlines, y_events, y_eventCounts, (upd y_watchers c (nI s)), (upd y_watchKinds c (nI b)), (upd y_watchPaths c q), y_parts, y_happened, y_how), fun post hp => ?_, fun post hp => ?_, hR _ _ _ _ _ _ _ (wt_WR_ad lt h3 h4 hfree hat hs ho hb)⟩
      · unfold wX_watch_46
        refine wx_has ?_
        rw [wt_bf nx]
        refine br_t rfl (wx_ffw ?_)
        rw [hF, hr]
        have v : vp_in (nI f) 16 := vp_in_nI hfree (by omega)
        have e : (nI f).toNatClampNeg = f := nI_clamp (by omega)
        exact br_f (wt_nn (by omega)) ⟨v, nm_r (wt_ui _ _ e) ⟨v, nm_r (wt_ui _ _ e) ⟨v, nm_r (wt_ui _ _ e) hp⟩⟩⟩
      · exact ⟨c + 1, wy_watch_lp hc (fun z => absurd z has) (fun _ z => absurd z (by omega)) (fun _ _ => hp) c 0 (by omega) (fun j hj => absurd hj (Nat.not_lt_zero _))⟩
    · have e16 : c = 16 := by
        rw [← hcnt]
        refine (wt_ct_all 16).mpr (fun j hj => decide_eq_true (fun z => hfree (hff.mpr ⟨j, hj, decide_eq_true z⟩)))
      refine ⟨-6, (x_time, x_partCount, x_wrongAt, x_changeCount, x_transactions, x_logStart, x_snapshotStart, x_placesLeft, x_tree, x_treeBefore, x_timeouts, x_deadlines, x_events, x_eventCounts, x_watchSessions, x_watchKinds, x_watchPaths, x_partKinds, x_partPaths, x_partAs, x_partBs, x_changePaths, x_changeKinds), (y_time, y_last, (nI c), y_partCount, y_wrong, y_changes, y_log, y_since, y_placesLeft, y_paths, y_values, y_open, y_timeouts, y_deadlines, y_events, y_eventCounts, y_watchers, y_watchKinds, y_watchPaths, y_parts, y_happened, y_how), fun post hp => ?_, fun post hp => ?_, hR _ _ _ _ _ _ _ hW⟩
      · unfold wX_watch_46
        refine wx_has ?_
        rw [wt_bf nx]
        refine br_t rfl (wx_ffw ?_)
        rw [if_neg hfree]
        exact br_t rfl hp
      · exact ⟨c + 1, wy_watch_lp hc (fun z => absurd z has) (fun _ _ => hp) (fun _ z => absurd z (by omega)) c 0 (by omega) (fun j hj => absurd hj (Nat.not_lt_zero _))⟩
end
theorem i_vc_watch {k : Nat} {u : SX} {v : SY} (I : i_Rel k u v) (hk : k + 5 ≤ 2560) (v1 : Int32) (v2 : Int32) (v3 : Int32) : wpX_watch (fun r u' => wpY_watch (fun r' v' => r' = r ∧ i_Rel (k + 5) u' v') v v1 v2 v3) u v1 v2 v3 := by
  have I' := i_up I
  obtain ⟨x_time, x_partCount, x_wrongAt, x_changeCount, x_transactions, x_logStart, x_snapshotStart, x_placesLeft, x_tree, x_treeBefore, x_timeouts, x_deadlines, x_events, x_eventCounts, x_watchSessions, x_watchKinds, x_watchPaths, x_partKinds, x_partPaths, x_partAs, x_partBs, x_changePaths, x_changeKinds⟩ := u
  obtain ⟨y_time, y_last, y_watchCount, y_partCount, y_wrong, y_changes, y_log, y_since, y_placesLeft, y_paths, y_values, y_open, y_timeouts, y_deadlines, y_events, y_eventCounts, y_watchers, y_watchKinds, y_watchPaths, y_parts, y_happened, y_how⟩ := v
  have I2 := I'
  obtain ⟨hT, hI, hV, hS, hti, hE, hW, hP, hw, hN, hc⟩ := I2
  unfold wpX_watch wpY_watch
  rcases wt_cases hS v1 with ⟨s, hs, rfl, ho, hx⟩ | ⟨hx, hy⟩
  · refine wx_open_t hs hx (br_f (by decide) ?_)
    by_cases h0 : v2 < 0
    · exact br_t h0 (wy_open_t hs ho (br_f (by decide) (br_t h0 ⟨rfl, I'⟩)))
    · by_cases h2 : v2 ≤ 2
      · obtain ⟨b, hb, rfl⟩ := nI_of2 (M := 2) (n := 2) (by decide) h0 h2
        refine br_f h0 (br_t h2 ?_)
        by_cases hip : wt_ip v3 = true
        · obtain ⟨r, u', v', hX, hY, hR⟩ := wt_watch (x_time := x_time) (x_partCount := x_partCount) (x_wrongAt := x_wrongAt) (x_changeCount := x_changeCount) (x_transactions := x_transactions) (x_logStart := x_logStart) (x_snapshotStart := x_snapshotStart) (x_placesLeft := x_placesLeft) (x_tree := x_tree) (x_treeBefore := x_treeBefore) (x_timeouts := x_timeouts) (x_deadlines := x_deadlines) (x_events := x_events) (x_eventCounts := x_eventCounts) (x_watchSessions := x_watchSessions) (x_watchKinds := x_watchKinds) (x_watchPaths := x_watchPaths) (x_partKinds := x_partKinds) (x_partPaths := x_partPaths) (x_partAs := x_partAs) (x_partBs := x_partBs) (x_changePaths := x_changePaths) (x_changeKinds := x_changeKinds) (y_time := y_time) (y_last := y_last) (y_watchCount := y_watchCount) (y_partCount := y_partCount) (y_wrong := y_wrong) (y_changes := y_changes) (y_log := y_log) (y_since := y_since) (y_placesLeft := y_placesLeft) (y_paths := y_paths) (y_values := y_values) (y_open := y_open) (y_timeouts := y_timeouts) (y_deadlines := y_deadlines) (y_events := y_events) (y_eventCounts := y_eventCounts) (y_watchers := y_watchers) (y_watchKinds := y_watchKinds) (y_watchPaths := y_watchPaths) (y_parts := y_parts) (y_happened := y_happened) (y_how := y_how) (B := 100 * (k + 5)) (q := v3) hs ho hb hW (fun xs xk xp ys yk yp wc h => ⟨hT, hI, hV, hS, hti, hE, h, hP, hw, hN, hc⟩)
          refine wx_isPath_t hip (br_f (by decide) ?_)
          by_cases b2 : b = 2
          · subst b2
            refine br_t rfl (hX _ (wy_open_t hs ho (br_f (by decide) (br_f h0 (br_t h2 (wy_isPath_t hip (br_f (by decide) (br_t (by decide) (hY _ ⟨rfl, hR⟩)))))))))
          · have bn : ¬ nI b = 2 := fun z => b2 ((nI_eq (a := b) (b := 2) (by omega) (by omega)).mp z)
            have bl : ¬ 2 ≤ nI b := nI_ge (b := 2) (by omega) (by omega)
            refine br_f bn ?_
            by_cases hq : wt_fd y_paths v3 < 21
            · refine wx_find_t hT hq (br_f (wt_nn (by omega)) (hX _ (wy_open_t hs ho (br_f (by decide) (br_f h0 (br_t h2 (wy_isPath_t hip (br_f (by decide) (br_f bl (wy_find_t hq (br_t (nI_pos' (by omega)) (hY _ ⟨rfl, hR⟩))))))))))))
            · exact wx_find_f hT hq (br_t rfl (wy_open_t hs ho (br_f (by decide) (br_f h0 (br_t h2 (wy_isPath_t hip (br_f (by decide) (br_f bl (wy_find_f hq (br_f (by decide) ⟨rfl, I'⟩))))))))))
        · exact wx_isPath_f hip (br_t rfl (wy_open_t hs ho (br_f (by decide) (br_f h0 (br_t h2 (wy_isPath_f hip (br_t rfl ⟨rfl, I'⟩)))))))
      · exact br_f h0 (br_f h2 (wy_open_t hs ho (br_f (by decide) (br_f h0 (br_f h2 ⟨rfl, I'⟩)))))
  · exact wx_open_f hx (br_t rfl (wy_open_f hy (br_t rfl ⟨rfl, I'⟩)))
end
section
section
variable {x_time x_partCount x_wrongAt x_changeCount x_transactions x_logStart x_snapshotStart x_placesLeft : Int32} {x_tree x_treeBefore x_timeouts x_deadlines x_events x_eventCounts x_watchSessions x_watchKinds x_watchPaths x_partKinds x_partPaths x_partAs x_partBs x_changePaths x_changeKinds : Nat → Int32}
variable {y_time y_last y_watchCount y_partCount y_wrong y_changes y_log y_since y_placesLeft : Int32} {y_paths y_values y_open y_timeouts y_deadlines y_events y_eventCounts y_watchers y_watchKinds y_watchPaths y_parts y_happened y_how : Nat → Int32}
theorem wx_event_lp {post : Int32 → SX → Prop} {s n : Nat} {r : Int32} (hs : s < 4) (hn : x_eventCounts s = nI (n + 1)) (hp : post r (x_time, x_partCount, x_wrongAt, x_changeCount, x_transactions, x_logStart, x_snapshotStart, x_placesLeft, x_tree, x_treeBefore, x_timeouts, x_deadlines, (wt_sh (8 * s) 7 x_events), (upd x_eventCounts s (nI n)), x_watchSessions, x_watchKinds, x_watchPaths, x_partKinds, x_partPaths, x_partAs, x_partBs, x_changePaths, x_changeKinds)) : ∀ d i, i + d = 7 → wX_event_34 post (nI s) (nI (8 * s)) r x_time x_partCount x_wrongAt x_changeCount x_transactions x_logStart x_snapshotStart x_placesLeft (d + 1) (nI (i + 1)) x_tree x_treeBefore x_timeouts x_deadlines (wt_sh (8 * s) i x_events) x_eventCounts x_watchSessions x_watchKinds x_watchPaths x_partKinds x_partPaths x_partAs x_partBs x_changePaths x_changeKinds := by
  have vs : vp_in (nI s) 4 := vp_in_nI hs (by omega)
  have cs : (nI s).toNatClampNeg = s := nI_clamp (by omega)
  intro d
  induction d with
  | zero =>
    intro i hi
    have e : i = 7 := by omega
    subst e
    refine br_t (nI_le (a := 8) (b := 8) (by omega) (by omega)) ⟨vs, vs, nm_r (e' := upd x_eventCounts s (nI n)) ?_ hp⟩
    rw [cs, hn, nI_pred]
  | succ d ih =>
    intro i hi
    have hn' := ih (i + 1) (by omega)
    rw [← wt_sh_s] at hn'
    have e1 : nI (8 * s) + nI (i + 1) = nI (8 * s + i + 1) := nI_add (8 * s) (i + 1)
    refine br_f (nI_ge (b := 8) (by omega) (by omega)) ⟨by rw [e1]; exact vp_in_nI (by omega) (by omega), by rw [e1, nI_pred]; exact vp_in_nI (by omega) (by omega), nm_r (e' := upd (wt_sh (8 * s) i x_events) (8 * s + i) (wt_sh (8 * s) i x_events (8 * s + i + 1))) ?_ (nm_r (nI_1 _) hn')⟩
    rw [e1, nI_pred, nI_clamp (by omega), nI_clamp (by omega)]
theorem wy_event_lp {post : Int32 → SY → Prop} {s n : Nat} {r : Int32} (hs : s < 4) (hn8 : n < 8) (hn : y_eventCounts s = nI n) (hp : post r (y_time, y_last, y_watchCount, y_partCount, y_wrong, y_changes, y_log, y_since, y_placesLeft, y_paths, y_values, y_open, y_timeouts, y_deadlines, (wt_sh (8 * s) n y_events), y_eventCounts, y_watchers, y_watchKinds, y_watchPaths, y_parts, y_happened, y_how)) : ∀ d i, i + d = n → wY_event_41 post (nI s) r y_time y_last y_watchCount y_partCount y_wrong y_changes y_log y_since y_placesLeft (d + 1) (nI i) y_paths y_values y_open y_timeouts y_deadlines (wt_sh (8 * s) i y_events) y_eventCounts y_watchers y_watchKinds y_watchPaths y_parts y_happened y_how := by
  have vs : vp_in (nI s) 4 := vp_in_nI hs (by omega)
  have cs : (nI s).toNatClampNeg = s := nI_clamp (by omega)
  have ec : y_eventCounts (nI s).toNatClampNeg = nI n := by rw [cs]; exact hn
  intro d
  induction d with
  | zero =>
    intro i hi
    have e : i = n := by omega
    subst e
    exact ⟨vs, br_t (by rw [ec]; exact nI_le (Nat.le_refl _) (by omega)) hp⟩
  | succ d ih =>
    intro i hi
    have hn' := ih (i + 1) (by omega)
    rw [← wt_sh_s] at hn'
    have e1 : 8 * nI s + nI i = nI (8 * s + i) := by
      rw [show (8 : Int32) = nI 8 from rfl, pk_mul, nI_add]
    have e2 : 8 * nI s + nI i + 1 = nI (8 * s + i + 1) := by rw [e1, nI_1]
    refine ⟨vs, br_f (by rw [ec]; exact nI_ge (by omega) (by omega)) ⟨by rw [e2]; exact vp_in_nI (by omega) (by omega), by rw [e1]; exact vp_in_nI (by omega) (by omega), nm_r (e' := upd (wt_sh (8 * s) i y_events) (8 * s + i) (wt_sh (8 * s) i y_events (8 * s + i + 1))) ?_ (nm_r (nI_1 i) hn')⟩⟩
    rw [e2, e1, nI_clamp (by omega), nI_clamp (by omega)]
theorem wx_crash_lp {post : Int32 → SX → Prop} (hp : post (x_transactions - x_logStart) (x_time, 0, x_wrongAt, x_changeCount, x_transactions, x_logStart, x_snapshotStart, 0, x_tree, x_treeBefore, x_timeouts, (wt_mx 4 (fun j => x_time + x_timeouts j) x_deadlines), x_events, (wt_fl 4 0 x_eventCounts), (wt_fl 16 (-1) x_watchSessions), x_watchKinds, x_watchPaths, x_partKinds, x_partPaths, x_partAs, x_partBs, x_changePaths, x_changeKinds)) : ∀ d i, i + d = 4 → wX_crash_2 post x_time x_partCount x_wrongAt x_changeCount x_transactions x_logStart x_snapshotStart x_placesLeft (d + 1) (nI i) x_tree x_treeBefore x_timeouts (wt_mx i (fun j => x_time + x_timeouts j) x_deadlines) x_events (wt_fl i 0 x_eventCounts) x_watchSessions x_watchKinds x_watchPaths x_partKinds x_partPaths x_partAs x_partBs x_changePaths x_changeKinds := by
  intro d
  induction d with
  | zero =>
    intro i hi
    have e : i = 4 := by omega
    subst e
    exact br_t (nI_le (a := 4) (b := 4) (by omega) (by omega)) (wx_dropAll hp)
  | succ d ih =>
    intro i hi
    have hn := ih (i + 1) (by omega)
    rw [← wt_fl_s, ← wt_mx_s] at hn
    have vi : vp_in (nI i) 4 := vp_in_nI (by omega) (by omega)
    have ci : (nI i).toNatClampNeg = i := nI_clamp (by omega)
    refine br_f (nI_ge (b := 4) (by omega) (by omega)) ⟨vi, nm_r (wt_ui _ _ ci) ⟨vi, vi, nm_r (e' := upd (wt_mx i (fun j => x_time + x_timeouts j) x_deadlines) i (x_time + x_timeouts i)) (by rw [ci]) (nm_r (nI_1 i) hn)⟩⟩
theorem wy_crash_lp {post : Int32 → SY → Prop} (hp : post y_log (y_time, y_last, y_watchCount, y_partCount, y_wrong, y_changes, y_log, y_since, y_placesLeft, y_paths, y_values, y_open, y_timeouts, (wt_mx 4 (fun j => y_time + y_timeouts j) y_deadlines), y_events, (wt_fl 4 0 y_eventCounts), y_watchers, y_watchKinds, y_watchPaths, y_parts, y_happened, y_how)) : ∀ d i, i + d = 4 → wY_crash_17 post y_time y_last y_watchCount y_partCount y_wrong y_changes y_log y_since y_placesLeft (d + 1) (nI i) y_paths y_values y_open y_timeouts (wt_mx i (fun j => y_time + y_timeouts j) y_deadlines) y_events (wt_fl i 0 y_eventCounts) y_watchers y_watchKinds y_watchPaths y_parts y_happened y_how := by
  intro d
  induction d with
  | zero =>
    intro i hi
    have e : i = 4 := by omega
    subst e
    exact br_t (nI_le (a := 4) (b := 4) (by omega) (by omega)) hp
  | succ d ih =>
    intro i hi
    have hn := ih (i + 1) (by omega)
    rw [← wt_fl_s, ← wt_mx_s] at hn
    have vi : vp_in (nI i) 4 := vp_in_nI (by omega) (by omega)
    have ci : (nI i).toNatClampNeg = i := nI_clamp (by omega)
    refine br_f (nI_ge (b := 4) (by omega) (by omega)) ⟨vi, nm_r (wt_ui _ _ ci) ⟨vi, vi, nm_r (e' := upd (wt_mx i (fun j => y_time + y_timeouts j) y_deadlines) i (y_time + y_timeouts i)) (by rw [ci]) (nm_r (nI_1 i) hn)⟩⟩
theorem wx_finish0 {post : SX → Prop} (hp : post (x_time, x_partCount, x_wrongAt, 0, (x_transactions + 1), x_logStart, x_snapshotStart, x_placesLeft, x_tree, x_treeBefore, x_timeouts, x_deadlines, x_events, x_eventCounts, x_watchSessions, x_watchKinds, x_watchPaths, x_partKinds, x_partPaths, x_partAs, x_partBs, x_changePaths, x_changeKinds)) : wpX_finishTransaction post (x_time, x_partCount, x_wrongAt, 0, x_transactions, x_logStart, x_snapshotStart, x_placesLeft, x_tree, x_treeBefore, x_timeouts, x_deadlines, x_events, x_eventCounts, x_watchSessions, x_watchKinds, x_watchPaths, x_partKinds, x_partPaths, x_partAs, x_partBs, x_changePaths, x_changeKinds) := nm_e ⟨1, br_t (by decide) hp⟩
theorem wx_log_t {post : Int32 → Prop} (h : x_transactions - x_logStart < 40) (hp : post 0) : wpX_isLogFull post (x_time, x_partCount, x_wrongAt, x_changeCount, x_transactions, x_logStart, x_snapshotStart, x_placesLeft, x_tree, x_treeBefore, x_timeouts, x_deadlines, x_events, x_eventCounts, x_watchSessions, x_watchKinds, x_watchPaths, x_partKinds, x_partPaths, x_partAs, x_partBs, x_changePaths, x_changeKinds) := br_t h hp
theorem wx_log_f {post : Int32 → Prop} (h : ¬ x_transactions - x_logStart < 40) (hp : post 1) : wpX_isLogFull post (x_time, x_partCount, x_wrongAt, x_changeCount, x_transactions, x_logStart, x_snapshotStart, x_placesLeft, x_tree, x_treeBefore, x_timeouts, x_deadlines, x_events, x_eventCounts, x_watchSessions, x_watchKinds, x_watchPaths, x_partKinds, x_partPaths, x_partAs, x_partBs, x_changePaths, x_changeKinds) := br_f h hp
theorem wy_open_lp {post : Int32 → SY → Prop} {x : Int32} : ∀ d i, i + d = 4 → wY_open_22 post x (nI (wt_fs (fun k => decide (y_open k = 0)) d i)) y_time y_last y_watchCount y_partCount y_wrong y_changes y_log y_since y_placesLeft y_paths y_values y_open y_timeouts y_deadlines y_events y_eventCounts y_watchers y_watchKinds y_watchPaths y_parts y_happened y_how → wY_open_2 post x y_time y_last y_watchCount y_partCount y_wrong y_changes y_log y_since y_placesLeft y_paths y_values y_open y_timeouts y_deadlines y_events y_eventCounts y_watchers y_watchKinds y_watchPaths y_parts y_happened y_how (d + 1) (nI i) := by
  intro d
  induction d with
  | zero =>
    intro i hi hp
    have e : i = 4 := by omega
    subst e
    exact br_t (nI_le (a := 4) (b := 4) (by omega) (by omega)) hp
  | succ d ih =>
    intro i hi hp
    refine br_f (nI_ge (b := 4) (by omega) (by omega)) ⟨vp_in_nI (by omega) (by omega), ?_⟩
    rw [nI_clamp (by omega)]
    by_cases e : y_open i = 0
    · rw [wt_fs_t (decide_eq_true e)] at hp
      exact br_t e hp
    · rw [wt_fs_f (fun z => e (of_decide_eq_true z))] at hp
      exact br_f e (nm_r (nI_1 i) (ih (i + 1) (by omega) hp))
end
theorem i_vc_event {k : Nat} {u : SX} {v : SY} (I : i_Rel k u v) (hk : k + 5 ≤ 2560) (v1 : Int32) : wpX_event (fun r u' => wpY_event (fun r' v' => r' = r ∧ i_Rel (k + 5) u' v') v v1) u v1 := by
  have I' := i_up I
  obtain ⟨x_time, x_partCount, x_wrongAt, x_changeCount, x_transactions, x_logStart, x_snapshotStart, x_placesLeft, x_tree, x_treeBefore, x_timeouts, x_deadlines, x_events, x_eventCounts, x_watchSessions, x_watchKinds, x_watchPaths, x_partKinds, x_partPaths, x_partAs, x_partBs, x_changePaths, x_changeKinds⟩ := u
  obtain ⟨y_time, y_last, y_watchCount, y_partCount, y_wrong, y_changes, y_log, y_since, y_placesLeft, y_paths, y_values, y_open, y_timeouts, y_deadlines, y_events, y_eventCounts, y_watchers, y_watchKinds, y_watchPaths, y_parts, y_happened, y_how⟩ := v
  have I2 := I'
  obtain ⟨hT, hI, hV, hS, hti, hE, hW, hP, hw, hN, hc⟩ := I2
  unfold wpX_event wpY_event
  rcases wt_cases hS v1 with ⟨s, hs, rfl, ho, hx⟩ | ⟨hx, hy⟩
  · have vi : vp_in (nI s) 4 := vp_in_nI hs (by omega)
    have ci : (nI s).toNatClampNeg = s := nI_clamp (by omega)
    obtain ⟨m, m1, m2, m3, m4, m5⟩ := hE s hs
    have ex : x_eventCounts (nI s).toNatClampNeg = nI m := by rw [ci]; exact m2
    have ey : y_eventCounts (nI s).toNatClampNeg = nI m := by rw [ci]; exact m3
    refine wx_open_t hs hx (br_f (by decide) ⟨vi, ?_⟩)
    by_cases m0 : m = 0
    · subst m0
      exact br_t ex (wy_open_t hs ho (br_f (by decide) ⟨vi, br_t ey ⟨rfl, I'⟩⟩))
    · obtain ⟨n, rfl⟩ : ∃ n, m = n + 1 := ⟨m - 1, by omega⟩
      have nx : ¬ nI (n + 1) = 0 := nI_ne0 (by omega) (by omega)
      have e8 : nI s * 8 = nI (8 * s) := by rw [show (8 : Int32) = nI 8 from rfl, pk_mul, Nat.mul_comm]
      have e8' : 8 * nI s = nI (8 * s) := pk_mul 8 s
      have v8 : vp_in (nI (8 * s)) 32 := vp_in_nI (by omega) (by omega)
      have c8 : (nI (8 * s)).toNatClampNeg = 8 * s := nI_clamp (by omega)
      have ev : x_events (8 * s) = y_events (8 * s) := m5 0 (by omega)
      have hyl : ∀ post : Int32 → SY → Prop, post (y_events (8 * s)) (y_time, y_last, y_watchCount, y_partCount, y_wrong, y_changes, y_log, y_since, y_placesLeft, y_paths, y_values, y_open, y_timeouts, y_deadlines, (wt_sh (8 * s) n y_events), (upd y_eventCounts s (nI n)), y_watchers, y_watchKinds, y_watchPaths, y_parts, y_happened, y_how) → wY_event_41 post (nI s) (y_events (8 * s)) y_time y_last y_watchCount y_partCount y_wrong y_changes y_log y_since y_placesLeft (n + 1) (nI 0) y_paths y_values y_open y_timeouts y_deadlines (wt_sh (8 * s) 0 y_events) (upd y_eventCounts s (nI n)) y_watchers y_watchKinds y_watchPaths y_parts y_happened y_how := fun post hp => wy_event_lp (y_time := y_time) (y_last := y_last) (y_watchCount := y_watchCount) (y_partCount := y_partCount) (y_wrong := y_wrong) (y_changes := y_changes) (y_log := y_log) (y_since := y_since) (y_placesLeft := y_placesLeft) (y_paths := y_paths) (y_values := y_values) (y_open := y_open) (y_timeouts := y_timeouts) (y_deadlines := y_deadlines) (y_events := y_events) (y_watchers := y_watchers) (y_watchKinds := y_watchKinds) (y_watchPaths := y_watchPaths) (y_parts := y_parts) (y_happened := y_happened) (y_how := y_how) (y_eventCounts := upd y_eventCounts s (nI n)) hs (by omega) pk_us hp n 0 (by omega)
      rw [wt_sh_0] at hyl
      have hxl : ∀ post : Int32 → SX → Prop, post (x_events (8 * s)) (x_time, x_partCount, x_wrongAt, x_changeCount, x_transactions, x_logStart, x_snapshotStart, x_placesLeft, x_tree, x_treeBefore, x_timeouts, x_deadlines, (wt_sh (8 * s) 7 x_events), (upd x_eventCounts s (nI n)), x_watchSessions, x_watchKinds, x_watchPaths, x_partKinds, x_partPaths, x_partAs, x_partBs, x_changePaths, x_changeKinds) → wX_event_34 post (nI s) (nI (8 * s)) (x_events (8 * s)) x_time x_partCount x_wrongAt x_changeCount x_transactions x_logStart x_snapshotStart x_placesLeft 8 (nI 1) x_tree x_treeBefore x_timeouts x_deadlines (wt_sh (8 * s) 0 x_events) x_eventCounts x_watchSessions x_watchKinds x_watchPaths x_partKinds x_partPaths x_partAs x_partBs x_changePaths x_changeKinds := fun post hp => wx_event_lp hs m2 hp 7 0 rfl
      rw [wt_sh_0] at hxl
      refine br_f (by rw [ex]; exact nx) (nm_r e8 ⟨v8, nm_r (e' := x_events (8 * s)) (by rw [c8]) ⟨8, hxl _ ?_⟩⟩)
      refine wy_open_t hs ho (br_f (by decide) ⟨vi, br_f (by rw [ey]; exact nx) ⟨by rw [e8']; exact v8, nm_r (e' := y_events (8 * s)) (by rw [e8', c8]) ⟨vi, vi, nm_r (e' := upd y_eventCounts s (nI n)) (by rw [ci, m3, nI_pred]) ⟨n + 1, hyl _ ⟨ev.symm, ?_⟩⟩⟩⟩⟩)
      exact ⟨hT, hI, hV, hS, hti, wt_E_ev hE hs m1 m3, hW, hP, hw, hN, hc⟩
  · exact wx_open_f hx (br_t rfl (wy_open_f hy (br_t rfl ⟨rfl, I'⟩)))
theorem i_vc_crash {k : Nat} {u : SX} {v : SY} (I : i_Rel k u v) (hk : k + 5 ≤ 2560) : wpX_crash (fun r u' => wpY_crash (fun r' v' => r' = r ∧ i_Rel (k + 5) u' v') v) u := by
  have I' := i_up I
  obtain ⟨x_time, x_partCount, x_wrongAt, x_changeCount, x_transactions, x_logStart, x_snapshotStart, x_placesLeft, x_tree, x_treeBefore, x_timeouts, x_deadlines, x_events, x_eventCounts, x_watchSessions, x_watchKinds, x_watchPaths, x_partKinds, x_partPaths, x_partAs, x_partBs, x_changePaths, x_changeKinds⟩ := u
  obtain ⟨y_time, y_last, y_watchCount, y_partCount, y_wrong, y_changes, y_log, y_since, y_placesLeft, y_paths, y_values, y_open, y_timeouts, y_deadlines, y_events, y_eventCounts, y_watchers, y_watchKinds, y_watchPaths, y_parts, y_happened, y_how⟩ := v
  obtain ⟨hT, hI, hV, hS, ⟨t, ht, et, et'⟩, hE, hW, hP, hw, hN, hc⟩ := I'
  have hy : ∀ post : Int32 → SY → Prop, post y_log (y_time, y_last, 0, 0, y_wrong, y_changes, y_log, y_since, 0, y_paths, y_values, y_open, y_timeouts, (wt_mx 4 (fun j => y_time + y_timeouts j) y_deadlines), y_events, (wt_fl 4 0 y_eventCounts), y_watchers, y_watchKinds, y_watchPaths, y_parts, y_happened, y_how) → wY_crash_17 post y_time y_last 0 0 y_wrong y_changes y_log y_since 0 5 (nI 0) y_paths y_values y_open y_timeouts (wt_mx 0 (fun j => y_time + y_timeouts j) y_deadlines) y_events (wt_fl 0 0 y_eventCounts) y_watchers y_watchKinds y_watchPaths y_parts y_happened y_how := fun post hp => wy_crash_lp (y_time := y_time) (y_last := y_last) (y_wrong := y_wrong) (y_changes := y_changes) (y_log := y_log) (y_since := y_since) (y_paths := y_paths) (y_values := y_values) (y_open := y_open) (y_timeouts := y_timeouts) (y_deadlines := y_deadlines) (y_events := y_events) (y_eventCounts := y_eventCounts) (y_watchers := y_watchers) (y_watchKinds := y_watchKinds) (y_watchPaths := y_watchPaths) (y_parts := y_parts) (y_happened := y_happened) (y_how := y_how) (y_watchCount := 0) (y_partCount := 0) (y_placesLeft := 0) hp 4 0 rfl
  rw [wt_mx_0, wt_fl_0] at hy
  have hx : ∀ post : Int32 → SX → Prop, post (x_transactions - x_logStart) (x_time, 0, x_wrongAt, x_changeCount, x_transactions, x_logStart, x_snapshotStart, 0, x_tree, x_treeBefore, x_timeouts, (wt_mx 4 (fun j => x_time + x_timeouts j) x_deadlines), x_events, (wt_fl 4 0 x_eventCounts), (wt_fl 16 (-1) x_watchSessions), x_watchKinds, x_watchPaths, x_partKinds, x_partPaths, x_partAs, x_partBs, x_changePaths, x_changeKinds) → wX_crash_2 post x_time x_partCount x_wrongAt x_changeCount x_transactions x_logStart x_snapshotStart x_placesLeft 5 (nI 0) x_tree x_treeBefore x_timeouts (wt_mx 0 (fun j => x_time + x_timeouts j) x_deadlines) x_events (wt_fl 0 0 x_eventCounts) x_watchSessions x_watchKinds x_watchPaths x_partKinds x_partPaths x_partAs x_partBs x_changePaths x_changeKinds := fun post hp => wx_crash_lp hp 4 0 rfl
  rw [wt_mx_0, wt_fl_0] at hx
  refine ⟨5, hx _ ⟨5, hy _ ⟨hN.2.1.symm, ?_⟩⟩⟩
  exact ⟨hT, hI, hV, wt_S_cr hS ht (fun s hs => by rw [wt_mx_at hs, et]) (fun s hs => by rw [wt_mx_at hs, et']), ⟨t, ht, et, et'⟩, wt_E_0 (fun s hs => wt_fl_at hs) (fun s hs => wt_fl_at hs), wt_WR_0 (fun j hj => wt_fl_at hj), ⟨0, by omega, rfl, rfl, fun i hi => absurd hi (Nat.not_lt_zero _)⟩, hw, ⟨hN.1, hN.2.1, rfl, ⟨0, by omega, rfl⟩, fun z => absurd rfl z⟩, hc⟩
theorem i_vc_open {k : Nat} {u : SX} {v : SY} (I : i_Rel k u v) (hk : k + 5 ≤ 2560) (v1 : Int32) : wpX_open (fun r u' => wpY_open (fun r' v' => r' = r ∧ i_Rel (k + 5) u' v') v v1) u v1 := by
  have I' := i_up I
  obtain ⟨x_time, x_partCount, x_wrongAt, x_changeCount, x_transactions, x_logStart, x_snapshotStart, x_placesLeft, x_tree, x_treeBefore, x_timeouts, x_deadlines, x_events, x_eventCounts, x_watchSessions, x_watchKinds, x_watchPaths, x_partKinds, x_partPaths, x_partAs, x_partBs, x_changePaths, x_changeKinds⟩ := u
  obtain ⟨y_time, y_last, y_watchCount, y_partCount, y_wrong, y_changes, y_log, y_since, y_placesLeft, y_paths, y_values, y_open, y_timeouts, y_deadlines, y_events, y_eventCounts, y_watchers, y_watchKinds, y_watchPaths, y_parts, y_happened, y_how⟩ := v
  have I2 := I'
  obtain ⟨hT, hI, hV, hS, ⟨t, ht, et, et'⟩, hE, hW, hP, hw, hN, hc⟩ := I2
  have Y : ∀ post : Int32 → SY → Prop, wY_open_22 post v1 (nI (wt_fs (fun k => decide (y_open k = 0)) 4 0)) y_time y_last y_watchCount y_partCount y_wrong y_changes y_log y_since y_placesLeft y_paths y_values y_open y_timeouts y_deadlines y_events y_eventCounts y_watchers y_watchKinds y_watchPaths y_parts y_happened y_how → wpY_open post (y_time, y_last, y_watchCount, y_partCount, y_wrong, y_changes, y_log, y_since, y_placesLeft, y_paths, y_values, y_open, y_timeouts, y_deadlines, y_events, y_eventCounts, y_watchers, y_watchKinds, y_watchPaths, y_parts, y_happened, y_how) v1 := fun post h => ⟨5, wy_open_lp 4 0 rfl h⟩
  have efs : wt_fs (fun k => decide (x_timeouts k = 0)) 4 0 = wt_fs (fun k => decide (y_open k = 0)) 4 0 := wt_fs_cg 4 0 (fun j _ hj => decide_eq_decide.mpr (wt_S_xt hS (by omega)))
  obtain ⟨_, b1, b2, b3⟩ := wt_fs_spec (fun k => decide (y_open k = 0)) 4 0
  by_cases h1 : v1 < 1
  · exact br_t h1 (Y _ (br_t h1 ⟨rfl, I'⟩))
  · by_cases h2 : v1 ≤ 20
    · have h2' : ¬ 20 < v1 := Int32.not_lt.mpr h2
      obtain ⟨a, a1, a2, rfl⟩ := wt_rng (n := 20) (by decide) h1 h2
      refine br_f h1 (br_t h2 (wx_least ?_))
      rw [efs]
      generalize hF : wt_fs (fun k => decide (y_open k = 0)) 4 0 = f at *
      by_cases hf : f < 4
      · rw [if_pos hf]
        have of : y_open f = 0 := of_decide_eq_true (b2 (by omega))
        have n4 : ¬ nI f = 4 := fun z => by
          have := (nI_eq (a := f) (b := 4) (by omega) (by omega)).mp z
          omega
        have v4 : vp_in (nI f) 4 := vp_in_nI hf (by omega)
        have cf : (nI f).toNatClampNeg = f := nI_clamp (by omega)
        refine br_f (wt_nn (by omega)) ?_
        by_cases hl : y_log < 40
        · refine wx_log_t (by rw [hN.2.1]; exact hl) (br_t rfl ⟨v4, nm_r (wt_ui _ _ cf) ⟨v4, nm_r (e' := upd x_deadlines f (nI (t + a))) (by rw [cf, et, nI_add]) ?_⟩⟩)
          subst hc
          refine wx_finish0 (Y _ (br_f h1 (br_f h2' (br_f n4 (br_t hl (wy_done ⟨v4, nm_r (e' := upd y_open f 1) (by rw [cf]; rfl) ⟨v4, nm_r (wt_ui _ _ cf) ⟨v4, nm_r (e' := upd y_deadlines f (nI (t + a))) (by rw [cf, et', nI_add]) ⟨v4, nm_r (wt_ui _ _ cf) ⟨rfl, ?_⟩⟩⟩⟩⟩))))))
          exact ⟨hT, hI, hV, wt_S_op hS a1 a2 ht, ⟨t, ht, et, et'⟩, wt_E_op hE hf of, wt_WR_op hW, hP, hw, wt_N_s hN, rfl⟩
        · exact wx_log_f (by rw [hN.2.1]; exact hl) (br_f (by decide) (Y _ (br_f h1 (br_f h2' (br_f n4 (br_f hl ⟨rfl, I'⟩))))))
      · have e4 : f = 4 := by omega
        subst e4
        exact br_t rfl (Y _ (br_f h1 (br_f h2' (br_t rfl ⟨rfl, I'⟩))))
    · exact br_f h1 (br_f h2 (Y _ (br_f h1 (br_t (Int32.not_le.mp h2) ⟨rfl, I'⟩))))
end
section
/-- one owned node less -/
theorem wt_oc_s {p w w' : Nat → Int32} {s : Int32} {f d : Nat} (hf : f < 21) (h1 : w (6 * f + 5) = s) (h2 : 0 < p f) (e : ∀ j, j < 21 → w' (6 * j + 5) = w (6 * j + 5)) (hd : wt_oc p w s = d + 1) : wt_oc (upd p f (-1)) w' s = d := by
  have q := wt_ct_one (P := fun k => decide (w' (6 * k + 5) = s ∧ 0 < upd p f (-1) k)) (Q := fun k => decide (w (6 * k + 5) = s ∧ 0 < p k)) (f := f) (fun z => by
    have z2 := (of_decide_eq_true z).2
    rw [pk_us] at z2
    exact absurd z2 (by decide)) 21 hf (fun j hj hn => by
    show decide (w (6 * j + 5) = s ∧ 0 < p j) = decide (w' (6 * j + 5) = s ∧ 0 < upd p f (-1) j)
    rw [pk_un hn, e j hj])
  have t : (decide (w (6 * f + 5) = s ∧ 0 < p f)) = true := decide_eq_true ⟨h1, h2⟩
  have q2 : wt_oc p w s = wt_oc (upd p f (-1)) w' s + (if (decide (w (6 * f + 5) = s ∧ 0 < p f)) = true then 1 else 0) := q
  rw [if_pos t] at q2
  omega
section
variable {x_time x_partCount x_wrongAt x_changeCount x_transactions x_logStart x_snapshotStart x_placesLeft : Int32} {x_tree x_treeBefore x_timeouts x_deadlines x_events x_eventCounts x_watchSessions x_watchKinds x_watchPaths x_partKinds x_partPaths x_partAs x_partBs x_changePaths x_changeKinds : Nat → Int32}
variable {y_time y_last y_watchCount y_partCount y_wrong y_changes y_log y_since y_placesLeft : Int32} {y_paths y_values y_open y_timeouts y_deadlines y_events y_eventCounts y_watchers y_watchKinds y_watchPaths y_parts y_happened y_how : Nat → Int32}
theorem wt_own_lp {s : Nat} (hs : s < 4) : ∀ d c, c + d ≤ 20 → ∀ (B : Nat) (t p w xk xp yh yw : Nat → Int32), wt_oc p w (nI s) = d → B + d < 2 ^ 30 → wt_T t p w → wt_I p w → wt_V B w → wt_C c xk xp yh yw → ∃ (t' p' w' xk' xp' yh' yw' : Nat → Int32) (c' : Nat), (∀ post : Int32 → SX → Prop, post (nI c') (x_time, x_partCount, x_wrongAt, (nI c'), x_transactions, x_logStart, x_snapshotStart, x_placesLeft, t', x_treeBefore, x_timeouts, x_deadlines, x_events, x_eventCounts, x_watchSessions, x_watchKinds, x_watchPaths, x_partKinds, x_partPaths, x_partAs, x_partBs, xp', xk') → wX_takeOwnedAway_4 post (nI s) (d + 1) (nI c) (nI c) x_time x_partCount x_wrongAt (nI c) x_transactions x_logStart x_snapshotStart x_placesLeft t x_treeBefore x_timeouts x_deadlines x_events x_eventCounts x_watchSessions x_watchKinds x_watchPaths x_partKinds x_partPaths x_partAs x_partBs xp xk) ∧ (∀ post : Int32 → SY → Prop, wY_close_48 post (nI s) 1 (-1) y_time y_last y_watchCount y_partCount y_wrong (nI c') y_log y_since y_placesLeft p' w' y_open y_timeouts y_deadlines y_events y_eventCounts y_watchers y_watchKinds y_watchPaths y_parts yh' yw' → wY_close_48 post (nI s) (d + 1) (wt_r 1 (wt_ow p w (nI s) 21)) y_time y_last y_watchCount y_partCount y_wrong (nI c) y_log y_since y_placesLeft p w y_open y_timeouts y_deadlines y_events y_eventCounts y_watchers y_watchKinds y_watchPaths y_parts yh yw) ∧ wt_T t' p' w' ∧ wt_I p' w' ∧ wt_V (B + d) w' ∧ wt_C c' xk' xp' yh' yw' := by
  intro d
  induction d with
  | zero =>
    intro c hc B t p w xk xp yh yw hd hB hT hI hV hC
    have e21 : wt_ow p w (nI s) 21 = 21 := by
      rcases wt_ow_spec p w (nI s) 21 (by omega) with ⟨e, _⟩ | ⟨e, a, b⟩
      · exact e
      · exact absurd (decide_eq_true ⟨a, b⟩) ((wt_ct_0 21).mp hd _ e)
    refine ⟨t, p, w, xk, xp, yh, yw, c, fun post hp => ?_, fun post hp => ?_, hT, hI, hV, hC⟩
    · refine br_c (fun _ => hp) (fun _ => wx_greatest hT ?_)
      rw [e21]
      exact br_t rfl hp
    · rw [e21]
      exact hp
  | succ d ih =>
    intro c hc B t p w xk xp yh yw hd hB hT hI hV hC
    have hsp := wt_ow_spec p w (nI s) 21 (by omega)
    generalize hF : wt_ow p w (nI s) 21 = f at hsp
    rcases hsp with ⟨e, q⟩ | ⟨hf, a, b⟩
    · exfalso
      have z : wt_oc p w (nI s) = 0 := (wt_ct_0 21).mpr (fun j hj y => q j hj (of_decide_eq_true y))
      omega
    · have f1 : 1 ≤ f := by
        apply Nat.pos_of_ne_zero
        intro z
        subst z
        exact wt_I_0 hI b
      have fn : ¬ p f = -1 := fun z => by
        rw [z] at b
        exact absurd b (by decide)
      have ho : ¬ w (6 * f + 5) = -1 := by rw [a]; exact wt_nn (by omega)
      obtain ⟨g1, g2, g3, g4, g5⟩ := wt_taken hT hI hV hC (by omega) (by omega) f1 hf fn (Or.inl ho)
      have hq := (wt_I_pa hI f1 hf fn).1
      have hd' := wt_oc_s (w' := upd w (6 * wt_fd p (p f / 101) + 2) (w (6 * wt_fd p (p f / 101) + 2) + 1)) hf a b (fun j hj => pk_un (by omega)) hd
      obtain ⟨t', p', w', xk', xp', yh', yw', c', hX, hY, r1, r2, r3, r4⟩ := ih (c + 1) (by omega) (B + 1) _ _ _ _ _ _ _ hd' (by omega) g1 g2 g3 g4
      refine ⟨t', p', w', xk', xp', yh', yw', c', fun post hp => ?_, fun post hp => ?_, r1, r2, wt_V_up r3 (by omega), r4⟩
      · refine br_f (nI_ge (b := 20) (by omega) (by omega)) (wx_greatest hT ?_)
        rw [hF, wt_r_t hf]
        exact br_f (wt_nn (by omega)) (wx_take hT hI f1 hf fn (by omega) (nm_r (nI_1 c) (nm_r (nI_1 c) (hX post hp))))
      · rw [wt_r_t hf, Nat.one_mul]
        exact br_f (nI_pos (by omega)) (wy_take hI f1 hf fn (by omega) (wy_owned g2 (hY post hp)))
/-- closeOpen against close, of an open session -/
theorem wt_close {B s : Nat} (hs : s < 4) (ho : y_open s = 1) (hB : B < 2 ^ 29) (hR : wt_R B (x_time, x_partCount, x_wrongAt, x_changeCount, x_transactions, x_logStart, x_snapshotStart, x_placesLeft, x_tree, x_treeBefore, x_timeouts, x_deadlines, x_events, x_eventCounts, x_watchSessions, x_watchKinds, x_watchPaths, x_partKinds, x_partPaths, x_partAs, x_partBs, x_changePaths, x_changeKinds) (y_time, y_last, y_watchCount, y_partCount, y_wrong, y_changes, y_log, y_since, y_placesLeft, y_paths, y_values, y_open, y_timeouts, y_deadlines, y_events, y_eventCounts, y_watchers, y_watchKinds, y_watchPaths, y_parts, y_happened, y_how)) : ∃ (r : Int32) (u' : SX) (v' : SY), (∀ post : Int32 → SX → Prop, post r u' → wpX_closeOpen post (x_time, x_partCount, x_wrongAt, x_changeCount, x_transactions, x_logStart, x_snapshotStart, x_placesLeft, x_tree, x_treeBefore, x_timeouts, x_deadlines, x_events, x_eventCounts, x_watchSessions, x_watchKinds, x_watchPaths, x_partKinds, x_partPaths, x_partAs, x_partBs, x_changePaths, x_changeKinds) (nI s)) ∧ (∀ post : Int32 → SY → Prop, post r v' → wpY_close post (y_time, y_last, y_watchCount, y_partCount, y_wrong, y_changes, y_log, y_since, y_placesLeft, y_paths, y_values, y_open, y_timeouts, y_deadlines, y_events, y_eventCounts, y_watchers, y_watchKinds, y_watchPaths, y_parts, y_happened, y_how) (nI s)) ∧ wt_R (B + 20) u' v' := by
  obtain ⟨hT, hI, hV, hS, ⟨t, ht, et, et'⟩, hE, ⟨c, hc16, hwc, h3, h4⟩, hP, hw, hN, hc⟩ := hR
  subst hwc
  have hc0 : x_changeCount = nI 0 := hc
  subst hc0
  have hGH : ∀ j, j < c → wt_G0 (nI s) (y_watchers j) (y_watchKinds j) (y_watchPaths j) = wt_H (nI s) (-1) 7 (y_watchers j) (y_watchKinds j) (y_watchPaths j) := fun j hj => by
    obtain ⟨_, b, b1, b2⟩ := h4 j hj
    by_cases z : y_watchers j = nI s
    · have k7 := wt_k7 b (by omega)
      rw [← b2] at k7
      rw [wt_H_t z k7 (Or.inl wt_m1)]
      exact decide_eq_true z
    · unfold wt_H wt_G0
      rw [decide_eq_false z]
      rfl
  obtain ⟨hW', hiff, hle, hno⟩ := wt_WR_dr (o := y_open) hc16 h3 h4 hGH
  have hW2 := wt_WR_cl (s := s) hW' (by omega) (fun j hj z => by
    obtain ⟨c', c1, c2, c3, c4⟩ := hW'
    have ec : (wt_cp (wt_H (nI s) (-1) 7) y_watchers y_watchKinds y_watchPaths c).1 = c' := (nI_eq (by omega) (by omega)).mp c2
    obtain ⟨_, b, b1, b2⟩ := c4 j (by omega)
    have k7 := wt_k7 b (by omega)
    rw [← b2] at k7
    exact hno j hj (wt_H_t z k7 (Or.inl wt_m1)))
  have hE2 := wt_E_cl (s := s) hE
  have hS2 := wt_S_cl (s := s) hS
  have v4 : vp_in (nI s) 4 := vp_in_nI hs (by omega)
  have cs : (nI s).toNatClampNeg = s := nI_clamp (by omega)
  have oc20 : wt_oc y_paths y_values (nI s) ≤ 20 := wt_ct_le20 (fun z => wt_I_0 hI (of_decide_eq_true z).2)
  obtain ⟨t', p', w', xk', xp', yh', yw', c', hX, hY, r1, r2, r3, r4⟩ := wt_own_lp (x_time := x_time) (x_partCount := x_partCount) (x_wrongAt := x_wrongAt) (x_transactions := x_transactions) (x_logStart := x_logStart) (x_snapshotStart := x_snapshotStart) (x_placesLeft := x_placesLeft) (x_treeBefore := x_treeBefore) (x_deadlines := x_deadlines) (x_events := x_events) (x_watchKinds := x_watchKinds) (x_watchPaths := x_watchPaths) (x_partKinds := x_partKinds) (x_partPaths := x_partPaths) (x_partAs := x_partAs) (x_partBs := x_partBs) (x_timeouts := upd x_timeouts s 0) (x_eventCounts := upd x_eventCounts s 0) (x_watchSessions := wt_dr (wt_G0 (nI s)) x_watchSessions x_watchKinds x_watchPaths 16) (y_time := y_time) (y_partCount := y_partCount) (y_wrong := y_wrong) (y_placesLeft := y_placesLeft) (y_timeouts := y_timeouts) (y_deadlines := y_deadlines) (y_events := y_events) (y_parts := y_parts) (y_open := upd y_open s 0) (y_eventCounts := upd y_eventCounts s 0) (y_watchCount := nI (wt_cp (wt_H (nI s) (-1) 7) y_watchers y_watchKinds y_watchPaths c).1) (y_watchers := (wt_cp (wt_H (nI s) (-1) 7) y_watchers y_watchKinds y_watchPaths c).2.1) (y_watchKinds := (wt_cp (wt_H (nI s) (-1) 7) y_watchers y_watchKinds y_watchPaths c).2.2.1) (y_watchPaths := (wt_cp (wt_H (nI s) (-1) 7) y_watchers y_watchKinds y_watchPaths c).2.2.2) (y_last := y_last + 1) (y_log := y_log + 1) (y_since := y_since + 1) hs _ 0 (by omega) B x_tree y_paths y_values x_changeKinds x_changePaths y_happened y_how rfl (by omega) hT hI hV (wt_C_0 _ _ _ _)
  obtain ⟨ws', ev', ec', yev', yec', ya', yk', yp', wc', hXf, hYf, R1, R2⟩ := wt_finish (x_time := x_time) (x_partCount := x_partCount) (x_wrongAt := x_wrongAt) (x_logStart := x_logStart) (x_snapshotStart := x_snapshotStart) (x_placesLeft := x_placesLeft) (x_treeBefore := x_treeBefore) (x_deadlines := x_deadlines) (x_watchKinds := x_watchKinds) (x_watchPaths := x_watchPaths) (x_partKinds := x_partKinds) (x_partPaths := x_partPaths) (x_partAs := x_partAs) (x_partBs := x_partBs) (x_tree := t') (x_changeKinds := xk') (x_changePaths := xp') (x_timeouts := upd x_timeouts s 0) (y_time := y_time) (y_partCount := y_partCount) (y_wrong := y_wrong) (y_placesLeft := y_placesLeft) (y_timeouts := y_timeouts) (y_deadlines := y_deadlines) (y_parts := y_parts) (y_paths := p') (y_values := w') (y_happened := yh') (y_how := yw') (y_open := upd y_open s 0) (y_last := y_last + 1) (y_log := y_log + 1) (y_since := y_since + 1) (n := x_transactions) r4 hW2 hE2
  refine ⟨nI c', (x_time, x_partCount, x_wrongAt, 0, (x_transactions + 1), x_logStart, x_snapshotStart, x_placesLeft, t', x_treeBefore, (upd x_timeouts s 0), x_deadlines, ev', ec', ws', x_watchKinds, x_watchPaths, x_partKinds, x_partPaths, x_partAs, x_partBs, xp', xk'), (y_time, (y_last + 1), wc', y_partCount, y_wrong, (nI c'), (y_log + 1), (y_since + 1), y_placesLeft, p', w', (upd y_open s 0), y_timeouts, y_deadlines, yev', yec', ya', yk', yp', y_parts, yh', yw'), fun post hp => ?_, fun post hp => ?_, ?_⟩
  · refine ⟨v4, nm_r (wt_ui _ _ cs) ⟨v4, nm_r (wt_ui _ _ cs) (wx_dropOf ⟨_, hX _ (hXf _ hp)⟩)⟩⟩
  · unfold wpY_close
    refine wy_open_t hs ho (br_f (by decide) (wy_done ⟨v4, nm_r (e' := upd y_open s 0) (by rw [cs]; rfl) (wy_drop hc16 ⟨v4, nm_r (wt_ui _ _ cs) (wy_owned hI ⟨_, hY _ (br_t (by decide) (hYf _ hp))⟩)⟩)⟩))
  · exact ⟨r1, r2, wt_V_up r3 (by omega), wt_S_up hS2 (by omega), ⟨t, by omega, et, et'⟩, R2, R1, hP, hw, wt_N_s hN, rfl⟩
end
theorem i_vc_close {k : Nat} {u : SX} {v : SY} (I : i_Rel k u v) (hk : k + 5 ≤ 2560) (v1 : Int32) : wpX_close (fun r u' => wpY_close (fun r' v' => r' = r ∧ i_Rel (k + 5) u' v') v v1) u v1 := by
  have I' := i_up I
  obtain ⟨x_time, x_partCount, x_wrongAt, x_changeCount, x_transactions, x_logStart, x_snapshotStart, x_placesLeft, x_tree, x_treeBefore, x_timeouts, x_deadlines, x_events, x_eventCounts, x_watchSessions, x_watchKinds, x_watchPaths, x_partKinds, x_partPaths, x_partAs, x_partBs, x_changePaths, x_changeKinds⟩ := u
  obtain ⟨y_time, y_last, y_watchCount, y_partCount, y_wrong, y_changes, y_log, y_since, y_placesLeft, y_paths, y_values, y_open, y_timeouts, y_deadlines, y_events, y_eventCounts, y_watchers, y_watchKinds, y_watchPaths, y_parts, y_happened, y_how⟩ := v
  have hS := I.2.2.2.1
  unfold wpX_close
  rcases wt_cases hS v1 with ⟨s, hs, rfl, ho, hx⟩ | ⟨hx, hy⟩
  · obtain ⟨r, u', v', hX, hY, hR⟩ := wt_close hs ho (by omega) I
    refine wx_open_t hs hx (br_f (by decide) (hX _ (hY _ ⟨rfl, wt_R_up hR (by omega)⟩)))
  · refine wx_open_f hx (br_t rfl ?_)
    unfold wpY_close
    exact wy_open_f hy (br_t rfl ⟨rfl, I'⟩)
theorem wt_pass_lp : ∀ d i, i + d = 4 → ∀ (x_time x_partCount x_wrongAt x_changeCount x_transactions x_logStart x_snapshotStart x_placesLeft : Int32) (x_tree x_treeBefore x_timeouts x_deadlines x_events x_eventCounts x_watchSessions x_watchKinds x_watchPaths x_partKinds x_partPaths x_partAs x_partBs x_changePaths x_changeKinds : Nat → Int32) (y_time y_last y_watchCount y_partCount y_wrong y_changes y_log y_since y_placesLeft : Int32) (y_paths y_values y_open y_timeouts y_deadlines y_events y_eventCounts y_watchers y_watchKinds y_watchPaths y_parts y_happened y_how : Nat → Int32) (B : Nat) (m : Int32), B + 20 * d < 2 ^ 29 → wt_R B (x_time, x_partCount, x_wrongAt, x_changeCount, x_transactions, x_logStart, x_snapshotStart, x_placesLeft, x_tree, x_treeBefore, x_timeouts, x_deadlines, x_events, x_eventCounts, x_watchSessions, x_watchKinds, x_watchPaths, x_partKinds, x_partPaths, x_partAs, x_partBs, x_changePaths, x_changeKinds) (y_time, y_last, y_watchCount, y_partCount, y_wrong, y_changes, y_log, y_since, y_placesLeft, y_paths, y_values, y_open, y_timeouts, y_deadlines, y_events, y_eventCounts, y_watchers, y_watchKinds, y_watchPaths, y_parts, y_happened, y_how) → ∃ (r : Int32) (u' : SX) (v' : SY), (∀ post : Int32 → SX → Prop, post r u' → wX_pass_26 post (d + 1) m (nI i) x_time x_partCount x_wrongAt x_changeCount x_transactions x_logStart x_snapshotStart x_placesLeft x_tree x_treeBefore x_timeouts x_deadlines x_events x_eventCounts x_watchSessions x_watchKinds x_watchPaths x_partKinds x_partPaths x_partAs x_partBs x_changePaths x_changeKinds) ∧ (∀ post : Int32 → SY → Prop, post r v' → wY_pass_26 post (d + 1) m (nI i) y_time y_last y_watchCount y_partCount y_wrong y_changes y_log y_since y_placesLeft y_paths y_values y_open y_timeouts y_deadlines y_events y_eventCounts y_watchers y_watchKinds y_watchPaths y_parts y_happened y_how) ∧ wt_R (B + 20 * d) u' v' := by
  intro d
  induction d with
  | zero =>
    intro i hi x_time x_partCount x_wrongAt x_changeCount x_transactions x_logStart x_snapshotStart x_placesLeft x_tree x_treeBefore x_timeouts x_deadlines x_events x_eventCounts x_watchSessions x_watchKinds x_watchPaths x_partKinds x_partPaths x_partAs x_partBs x_changePaths x_changeKinds y_time y_last y_watchCount y_partCount y_wrong y_changes y_log y_since y_placesLeft y_paths y_values y_open y_timeouts y_deadlines y_events y_eventCounts y_watchers y_watchKinds y_watchPaths y_parts y_happened y_how B m hB hR
    have e : i = 4 := by omega
    subst e
    have l : (4 : Int32) ≤ nI 4 := nI_le (a := 4) (b := 4) (by omega) (by omega)
    exact ⟨m, (x_time, x_partCount, x_wrongAt, x_changeCount, x_transactions, x_logStart, x_snapshotStart, x_placesLeft, x_tree, x_treeBefore, x_timeouts, x_deadlines, x_events, x_eventCounts, x_watchSessions, x_watchKinds, x_watchPaths, x_partKinds, x_partPaths, x_partAs, x_partBs, x_changePaths, x_changeKinds), (y_time, y_last, y_watchCount, y_partCount, y_wrong, y_changes, y_log, y_since, y_placesLeft, y_paths, y_values, y_open, y_timeouts, y_deadlines, y_events, y_eventCounts, y_watchers, y_watchKinds, y_watchPaths, y_parts, y_happened, y_how), fun post hp => br_t l hp, fun post hp => br_t l hp, hR⟩
  | succ d ih =>
    intro i hi x_time x_partCount x_wrongAt x_changeCount x_transactions x_logStart x_snapshotStart x_placesLeft x_tree x_treeBefore x_timeouts x_deadlines x_events x_eventCounts x_watchSessions x_watchKinds x_watchPaths x_partKinds x_partPaths x_partAs x_partBs x_changePaths x_changeKinds y_time y_last y_watchCount y_partCount y_wrong y_changes y_log y_since y_placesLeft y_paths y_values y_open y_timeouts y_deadlines y_events y_eventCounts y_watchers y_watchKinds y_watchPaths y_parts y_happened y_how B m hB hR
    have l : ¬ (4 : Int32) ≤ nI i := nI_ge (b := 4) (by omega) (by omega)
    have v4 : vp_in (nI i) 4 := vp_in_nI (by omega) (by omega)
    have ci : (nI i).toNatClampNeg = i := nI_clamp (by omega)
    have hS := hR.2.2.2.1
    obtain ⟨t, ht, et, et'⟩ := hR.2.2.2.2.1
    rcases wt_S_o hS (s := i) (by omega) with ho | ho
    · obtain ⟨_, dl, d1, d2, d3⟩ := wt_S_in hS (by omega) ho
      have hx : ¬ x_timeouts i = 0 := fun z => by
        rw [wt_S_xt hS (by omega), ho] at z
        exact absurd z (by decide)
      have yo : ¬ y_open (nI i).toNatClampNeg = 0 := by rw [ci, ho]; decide
      by_cases le : dl ≤ t
      · obtain ⟨r1, u1, v1, hX1, hY1, hR1⟩ := wt_close (s := i) (by omega) ho (by omega) hR
        obtain ⟨x_time, x_partCount, x_wrongAt, x_changeCount, x_transactions, x_logStart, x_snapshotStart, x_placesLeft, x_tree, x_treeBefore, x_timeouts, x_deadlines, x_events, x_eventCounts, x_watchSessions, x_watchKinds, x_watchPaths, x_partKinds, x_partPaths, x_partAs, x_partBs, x_changePaths, x_changeKinds⟩ := u1
        obtain ⟨y_time, y_last, y_watchCount, y_partCount, y_wrong, y_changes, y_log, y_since, y_placesLeft, y_paths, y_values, y_open, y_timeouts, y_deadlines, y_events, y_eventCounts, y_watchers, y_watchKinds, y_watchPaths, y_parts, y_happened, y_how⟩ := v1
        obtain ⟨r, u', v', hX, hY, hR2⟩ := ih (i + 1) (by omega) x_time x_partCount x_wrongAt x_changeCount x_transactions x_logStart x_snapshotStart x_placesLeft x_tree x_treeBefore x_timeouts x_deadlines x_events x_eventCounts x_watchSessions x_watchKinds x_watchPaths x_partKinds x_partPaths x_partAs x_partBs x_changePaths x_changeKinds y_time y_last y_watchCount y_partCount y_wrong y_changes y_log y_since y_placesLeft y_paths y_values y_open y_timeouts y_deadlines y_events y_eventCounts y_watchers y_watchKinds y_watchPaths y_parts y_happened y_how (B + 20) (m + 1) (by omega) hR1
        refine ⟨r, u', v', fun post hp => ?_, fun post hp => ?_, wt_R_up hR2 (by omega)⟩
        · refine br_f l (wx_open_t (by omega) hx (br_f (by decide) ⟨v4, br_f ?_ (hX1 _ (nm_e (nm_r (nI_1 i) (hX post hp))))⟩))
          rw [ci, d2, et]
          exact nI_nlt le (by omega)
        · refine br_f l ⟨v4, br_f yo ⟨v4, br_f ?_ (nm_e (hY1 _ (nm_r (nI_1 i) (hY post hp))))⟩⟩
          rw [ci, d3, et']
          exact Int32.not_lt.mpr (wt_subneg le (by omega))
      · obtain ⟨r, u', v', hX, hY, hR2⟩ := ih (i + 1) (by omega) x_time x_partCount x_wrongAt x_changeCount x_transactions x_logStart x_snapshotStart x_placesLeft x_tree x_treeBefore x_timeouts x_deadlines x_events x_eventCounts x_watchSessions x_watchKinds x_watchPaths x_partKinds x_partPaths x_partAs x_partBs x_changePaths x_changeKinds y_time y_last y_watchCount y_partCount y_wrong y_changes y_log y_since y_placesLeft y_paths y_values y_open y_timeouts y_deadlines y_events y_eventCounts y_watchers y_watchKinds y_watchPaths y_parts y_happened y_how B m (by omega) hR
        refine ⟨r, u', v', fun post hp => ?_, fun post hp => ?_, wt_R_up hR2 (by omega)⟩
        · refine br_f l (wx_open_t (by omega) hx (br_f (by decide) ⟨v4, br_t ?_ (nm_r (nI_1 i) (hX post hp))⟩))
          rw [ci, d2, et]
          exact nI_lt (by omega) (by omega)
        · refine br_f l ⟨v4, br_f yo ⟨v4, br_t ?_ (nm_r (nI_1 i) (hY post hp))⟩⟩
          rw [ci, d3, et', pk_sub (by omega)]
          exact nI_lt (a := 0) (by omega) (by omega)
    · obtain ⟨r, u', v', hX, hY, hR2⟩ := ih (i + 1) (by omega) x_time x_partCount x_wrongAt x_changeCount x_transactions x_logStart x_snapshotStart x_placesLeft x_tree x_treeBefore x_timeouts x_deadlines x_events x_eventCounts x_watchSessions x_watchKinds x_watchPaths x_partKinds x_partPaths x_partAs x_partBs x_changePaths x_changeKinds y_time y_last y_watchCount y_partCount y_wrong y_changes y_log y_since y_placesLeft y_paths y_values y_open y_timeouts y_deadlines y_events y_eventCounts y_watchers y_watchKinds y_watchPaths y_parts y_happened y_how B m (by omega) hR
      refine ⟨r, u', v', fun post hp => ?_, fun post hp => ?_, wt_R_up hR2 (by omega)⟩
      · refine br_f l (wx_open_f (fun s hs e => ?_) (br_t rfl (nm_r (nI_1 i) (hX post hp))))
        have e2 : i = s := (nI_eq (by omega) (by omega)).mp e
        subst e2
        exact (wt_S_xt hS hs).mpr ho
      · exact br_f l ⟨v4, br_t (by rw [ci]; exact ho) (nm_r (nI_1 i) (hY post hp))⟩
theorem i_vc_pass {k : Nat} {u : SX} {v : SY} (I : i_Rel k u v) (hk : k + 5 ≤ 2560) (v1 : Int32) : wpX_pass (fun r u' => wpY_pass (fun r' v' => r' = r ∧ i_Rel (k + 5) u' v') v v1) u v1 := by
  have I' := i_up I
  obtain ⟨x_time, x_partCount, x_wrongAt, x_changeCount, x_transactions, x_logStart, x_snapshotStart, x_placesLeft, x_tree, x_treeBefore, x_timeouts, x_deadlines, x_events, x_eventCounts, x_watchSessions, x_watchKinds, x_watchPaths, x_partKinds, x_partPaths, x_partAs, x_partBs, x_changePaths, x_changeKinds⟩ := u
  obtain ⟨y_time, y_last, y_watchCount, y_partCount, y_wrong, y_changes, y_log, y_since, y_placesLeft, y_paths, y_values, y_open, y_timeouts, y_deadlines, y_events, y_eventCounts, y_watchers, y_watchKinds, y_watchPaths, y_parts, y_happened, y_how⟩ := v
  obtain ⟨hT, hI, hV, hS, ⟨t, ht, et, et'⟩, hE, hW, hP, hw, hN, hc⟩ := I
  by_cases h0 : v1 < 0
  · exact br_t h0 (br_t h0 ⟨rfl, I'⟩)
  · by_cases h2 : v1 ≤ 30
    · obtain ⟨b, hb, rfl⟩ := nI_of2 (M := 30) (n := 30) (by decide) h0 h2
      have hR : wt_R (100 * k + 30) ((nI (t + b)), x_partCount, x_wrongAt, x_changeCount, x_transactions, x_logStart, x_snapshotStart, x_placesLeft, x_tree, x_treeBefore, x_timeouts, x_deadlines, x_events, x_eventCounts, x_watchSessions, x_watchKinds, x_watchPaths, x_partKinds, x_partPaths, x_partAs, x_partBs, x_changePaths, x_changeKinds) ((nI (t + b)), y_last, y_watchCount, y_partCount, y_wrong, y_changes, y_log, y_since, y_placesLeft, y_paths, y_values, y_open, y_timeouts, y_deadlines, y_events, y_eventCounts, y_watchers, y_watchKinds, y_watchPaths, y_parts, y_happened, y_how) := ⟨hT, hI, wt_V_up hV (by omega), wt_S_up hS (by omega), ⟨t + b, by omega, rfl, rfl⟩, hE, hW, hP, hw, hN, hc⟩
      obtain ⟨r, u', v', hX, hY, hR2⟩ := wt_pass_lp 4 0 rfl (nI (t + b)) x_partCount x_wrongAt x_changeCount x_transactions x_logStart x_snapshotStart x_placesLeft x_tree x_treeBefore x_timeouts x_deadlines x_events x_eventCounts x_watchSessions x_watchKinds x_watchPaths x_partKinds x_partPaths x_partAs x_partBs x_changePaths x_changeKinds (nI (t + b)) y_last y_watchCount y_partCount y_wrong y_changes y_log y_since y_placesLeft y_paths y_values y_open y_timeouts y_deadlines y_events y_eventCounts y_watchers y_watchKinds y_watchPaths y_parts y_happened y_how _ 0 (by omega) hR
      refine br_f h0 (br_t h2 (nm_r (e' := nI (t + b)) (by rw [et, nI_add]) ⟨5, hX _ (br_f h0 (br_t h2 (nm_r (e' := nI (t + b)) (by rw [et', nI_add]) ⟨5, hY _ ⟨rfl, wt_R_up hR2 (by omega)⟩⟩)))⟩))
    · exact br_f h0 (br_f h2 (br_f h0 (br_f h2 ⟨rfl, I'⟩)))
end
section
section
variable {x_time x_partCount x_wrongAt x_changeCount x_transactions x_logStart x_snapshotStart x_placesLeft : Int32} {x_tree x_treeBefore x_timeouts x_deadlines x_events x_eventCounts x_watchSessions x_watchKinds x_watchPaths x_partKinds x_partPaths x_partAs x_partBs x_changePaths x_changeKinds : Nat → Int32}
variable {y_time y_last y_watchCount y_partCount y_wrong y_changes y_log y_since y_placesLeft : Int32} {y_paths y_values y_open y_timeouts y_deadlines y_events y_eventCounts y_watchers y_watchKinds y_watchPaths y_parts y_happened y_how : Nat → Int32}
theorem wt_single {B s : Nat} {kd x d b : Int32} (hs : s < 4) (hx : ¬ x_timeouts s = 0) (hk3 : ¬ kd = 3) (hR : wt_R B (x_time, x_partCount, x_wrongAt, x_changeCount, x_transactions, x_logStart, x_snapshotStart, x_placesLeft, x_tree, x_treeBefore, x_timeouts, x_deadlines, x_events, x_eventCounts, x_watchSessions, x_watchKinds, x_watchPaths, x_partKinds, x_partPaths, x_partAs, x_partBs, x_changePaths, x_changeKinds) (y_time, y_last, y_watchCount, y_partCount, y_wrong, y_changes, y_log, y_since, y_placesLeft, y_paths, y_values, y_open, y_timeouts, y_deadlines, y_events, y_eventCounts, y_watchers, y_watchKinds, y_watchPaths, y_parts, y_happened, y_how))
    (H : ∃ (r : Int32) (t' p' w' xk' xp' yh' yw' : Nat → Int32) (c' : Nat), (∀ post : Int32 → SX → Prop, post r (x_time, x_partCount, x_wrongAt, (nI c'), y_last, x_logStart, x_snapshotStart, x_placesLeft, t', x_treeBefore, x_timeouts, x_deadlines, x_events, x_eventCounts, x_watchSessions, x_watchKinds, x_watchPaths, x_partKinds, x_partPaths, x_partAs, x_partBs, xp', xk') → wpX_perform post (x_time, x_partCount, x_wrongAt, (nI 0), y_last, x_logStart, x_snapshotStart, x_placesLeft, x_tree, x_treeBefore, x_timeouts, x_deadlines, x_events, x_eventCounts, x_watchSessions, x_watchKinds, x_watchPaths, x_partKinds, x_partPaths, x_partAs, x_partBs, x_changePaths, x_changeKinds) (nI s) kd x d b) ∧ (∀ post : Int32 → SY → Prop, post r (y_time, y_last, y_watchCount, y_partCount, y_wrong, (nI c'), y_log, y_since, y_placesLeft, p', w', y_open, y_timeouts, y_deadlines, y_events, y_eventCounts, y_watchers, y_watchKinds, y_watchPaths, y_parts, yh', yw') → wpY_request post (y_time, y_last, y_watchCount, y_partCount, y_wrong, (nI 0), y_log, y_since, y_placesLeft, y_paths, y_values, y_open, y_timeouts, y_deadlines, y_events, y_eventCounts, y_watchers, y_watchKinds, y_watchPaths, y_parts, y_happened, y_how) (nI s) kd x d b (y_last + 1)) ∧ wt_O B 0 y_paths y_values kd r r t' p' w' xk' xp' yh' yw' c') :
    ∃ (r : Int32) (u' : SX) (v' : SY), (∀ post : Int32 → SX → Prop, post r u' → wpX_single post (x_time, x_partCount, x_wrongAt, x_changeCount, x_transactions, x_logStart, x_snapshotStart, x_placesLeft, x_tree, x_treeBefore, x_timeouts, x_deadlines, x_events, x_eventCounts, x_watchSessions, x_watchKinds, x_watchPaths, x_partKinds, x_partPaths, x_partAs, x_partBs, x_changePaths, x_changeKinds) (nI s) kd x d b) ∧ (∀ post : Int32 → SY → Prop, post r v' → wpY_single post (y_time, y_last, y_watchCount, y_partCount, y_wrong, y_changes, y_log, y_since, y_placesLeft, y_paths, y_values, y_open, y_timeouts, y_deadlines, y_events, y_eventCounts, y_watchers, y_watchKinds, y_watchPaths, y_parts, y_happened, y_how) (nI s) kd x d b) ∧ wt_R (B + 1) u' v' := by
  have hRu := wt_R_up hR (C := B + 1) (by omega)
  obtain ⟨hT, hI, hV, hS, hti, hE, hW, hP, hw, hN, hc⟩ := hRu
  have hc0 : x_changeCount = nI 0 := hc
  subst hc0
  have hn := hN.1
  subst hn
  obtain ⟨r, t', p', w', xk', xp', yh', yw', c', hX, hY, hO⟩ := H
  by_cases hl : y_log < 40
  · have hlx : x_transactions - x_logStart < 40 := by rw [hN.2.1]; exact hl
    obtain ⟨o1, o2, o3, o4, _, _, o5⟩ := hO
    rcases o5 with ⟨q1, _, q2⟩ | ⟨q1, _, _, _⟩
    · subst q2
      refine ⟨r, (x_time, x_partCount, x_wrongAt, 0, x_transactions, x_logStart, x_snapshotStart, x_placesLeft, t', x_treeBefore, x_timeouts, x_deadlines, x_events, x_eventCounts, x_watchSessions, x_watchKinds, x_watchPaths, x_partKinds, x_partPaths, x_partAs, x_partBs, xp', xk'), (y_time, x_transactions, y_watchCount, y_partCount, y_wrong, 0, y_log, y_since, y_placesLeft, p', w', y_open, y_timeouts, y_deadlines, y_events, y_eventCounts, y_watchers, y_watchKinds, y_watchPaths, y_parts, yh', yw'), fun post hp => ?_, fun post hp => ?_, ?_⟩
      · unfold wpX_single
        exact wx_open_t hs hx (br_f (by decide) (wx_log_t hlx (br_t rfl (hX _ (br_t q1 hp)))))
      · exact br_t hl (hY _ (br_t q1 hp))
      · exact ⟨o1, o2, o3, hS, hti, hE, hW, hP, hw, hN, rfl⟩
    · obtain ⟨ws', ev', ec', yev', yec', ya', yk', yp', wc', hXf, hYf, R1, R2⟩ := wt_finish (x_time := x_time) (x_partCount := x_partCount) (x_wrongAt := x_wrongAt) (x_logStart := x_logStart) (x_snapshotStart := x_snapshotStart) (x_placesLeft := x_placesLeft) (x_treeBefore := x_treeBefore) (x_timeouts := x_timeouts) (x_deadlines := x_deadlines) (x_watchKinds := x_watchKinds) (x_watchPaths := x_watchPaths) (x_partKinds := x_partKinds) (x_partPaths := x_partPaths) (x_partAs := x_partAs) (x_partBs := x_partBs) (x_tree := t') (x_changeKinds := xk') (x_changePaths := xp') (y_time := y_time) (y_partCount := y_partCount) (y_wrong := y_wrong) (y_placesLeft := y_placesLeft) (y_open := y_open) (y_timeouts := y_timeouts) (y_deadlines := y_deadlines) (y_parts := y_parts) (y_paths := p') (y_values := w') (y_happened := yh') (y_how := yw') (y_last := x_transactions + 1) (y_log := y_log + 1) (y_since := y_since + 1) (n := x_transactions) o4 hW hE
      refine ⟨r, (x_time, x_partCount, x_wrongAt, 0, (x_transactions + 1), x_logStart, x_snapshotStart, x_placesLeft, t', x_treeBefore, x_timeouts, x_deadlines, ev', ec', ws', x_watchKinds, x_watchPaths, x_partKinds, x_partPaths, x_partAs, x_partBs, xp', xk'), (y_time, (x_transactions + 1), wc', y_partCount, y_wrong, (nI c'), (y_log + 1), (y_since + 1), y_placesLeft, p', w', y_open, y_timeouts, y_deadlines, yev', yec', ya', yk', yp', y_parts, yh', yw'), fun post hp => ?_, fun post hp => ?_, ?_⟩
      · unfold wpX_single
        exact wx_open_t hs hx (br_f (by decide) (wx_log_t hlx (br_t rfl (hX _ (br_f q1 (hXf _ hp))))))
      · exact br_t hl (hY _ (br_f q1 (wy_done (hYf _ hp))))
      · exact ⟨o1, o2, o3, hS, hti, R2, R1, hP, hw, wt_N_s hN, rfl⟩
  · have hlx : ¬ x_transactions - x_logStart < 40 := by rw [hN.2.1]; exact hl
    refine ⟨-9, (x_time, x_partCount, x_wrongAt, 0, x_transactions, x_logStart, x_snapshotStart, x_placesLeft, x_tree, x_treeBefore, x_timeouts, x_deadlines, x_events, x_eventCounts, x_watchSessions, x_watchKinds, x_watchPaths, x_partKinds, x_partPaths, x_partAs, x_partBs, x_changePaths, x_changeKinds), (y_time, x_transactions, y_watchCount, y_partCount, y_wrong, y_changes, y_log, y_since, y_placesLeft, y_paths, y_values, y_open, y_timeouts, y_deadlines, y_events, y_eventCounts, y_watchers, y_watchKinds, y_watchPaths, y_parts, y_happened, y_how), fun post hp => ?_, fun post hp => ?_, ?_⟩
    · unfold wpX_single
      exact wx_open_t hs hx (br_f (by decide) (wx_log_f hlx (br_f (by decide) hp)))
    · exact br_f hl hp
    · exact ⟨hT, hI, hV, hS, hti, hE, hW, hP, hw, hN, rfl⟩
theorem wx_single_f {post : Int32 → SX → Prop} {v kd x d b : Int32} (hx : ∀ s, s < 4 → v = nI s → x_timeouts s = 0) (hp : post (-1) (x_time, x_partCount, x_wrongAt, x_changeCount, x_transactions, x_logStart, x_snapshotStart, x_placesLeft, x_tree, x_treeBefore, x_timeouts, x_deadlines, x_events, x_eventCounts, x_watchSessions, x_watchKinds, x_watchPaths, x_partKinds, x_partPaths, x_partAs, x_partBs, x_changePaths, x_changeKinds)) : wpX_single post (x_time, x_partCount, x_wrongAt, x_changeCount, x_transactions, x_logStart, x_snapshotStart, x_placesLeft, x_tree, x_treeBefore, x_timeouts, x_deadlines, x_events, x_eventCounts, x_watchSessions, x_watchKinds, x_watchPaths, x_partKinds, x_partPaths, x_partAs, x_partBs, x_changePaths, x_changeKinds) v kd x d b := by
  unfold wpX_single
  exact wx_open_f hx (br_t rfl hp)
end
theorem i_vc_create {k : Nat} {u : SX} {v : SY} (I : i_Rel k u v) (hk : k + 5 ≤ 2560) (v1 : Int32) (v2 : Int32) (v3 : Int32) (v4 : Int32) : wpX_create (fun r u' => wpY_create (fun r' v' => r' = r ∧ i_Rel (k + 5) u' v') v v1 v2 v3 v4) u v1 v2 v3 v4 := by
  have I' := i_up I
  obtain ⟨x_time, x_partCount, x_wrongAt, x_changeCount, x_transactions, x_logStart, x_snapshotStart, x_placesLeft, x_tree, x_treeBefore, x_timeouts, x_deadlines, x_events, x_eventCounts, x_watchSessions, x_watchKinds, x_watchPaths, x_partKinds, x_partPaths, x_partAs, x_partBs, x_changePaths, x_changeKinds⟩ := u
  obtain ⟨y_time, y_last, y_watchCount, y_partCount, y_wrong, y_changes, y_log, y_since, y_placesLeft, y_paths, y_values, y_open, y_timeouts, y_deadlines, y_events, y_eventCounts, y_watchers, y_watchKinds, y_watchPaths, y_parts, y_happened, y_how⟩ := v
  have I2 := I
  obtain ⟨hT, hI, hV, hS, hti, hE, hW, hP, hw, hN, hc⟩ := I2
  unfold wpX_create wpY_create
  by_cases hf : ∃ f, f ≤ 3 ∧ v4 = nI f
  · obtain ⟨f, f1, rfl⟩ := hf
    have fp : ¬ nI f < 0 := nI_pos (by omega)
    have fl : nI f ≤ 3 := nI_le (b := 3) f1 (by omega)
    refine wx_flags_t f1 (br_f (by decide) ?_)
    rcases wt_cases hS v1 with ⟨s, hs, rfl, ho, hx⟩ | ⟨hx, hy⟩
    · obtain ⟨r, u', v', hX, hY, hR⟩ := wt_single (kd := 0) (x := v2) (d := v3) (b := nI f) hs hx (by decide) I (wt_create (c := 0) hT hI hV (wt_C_0 _ _ _ _) (by omega) (by omega) (by omega))
      obtain ⟨x_time, x_partCount, x_wrongAt, x_changeCount, x_transactions, x_logStart, x_snapshotStart, x_placesLeft, x_tree, x_treeBefore, x_timeouts, x_deadlines, x_events, x_eventCounts, x_watchSessions, x_watchKinds, x_watchPaths, x_partKinds, x_partPaths, x_partAs, x_partBs, x_changePaths, x_changeKinds⟩ := u'
      obtain ⟨y_time, y_last, y_watchCount, y_partCount, y_wrong, y_changes, y_log, y_since, y_placesLeft, y_paths, y_values, y_open, y_timeouts, y_deadlines, y_events, y_eventCounts, y_watchers, y_watchKinds, y_watchPaths, y_parts, y_happened, y_how⟩ := v'
      exact hX _ (wy_open_t hs ho (br_f (by decide) (br_f fp (br_t fl (hY _ ⟨rfl, wt_R_up hR (by omega)⟩)))))
    · exact wx_single_f hx (wy_open_f hy (br_t rfl ⟨rfl, I'⟩))
  · refine wx_flags_f (fun f f1 f2 => hf ⟨f, f1, f2⟩) (br_t rfl ?_)
    have nf : ¬ v4 < 0 → ¬ v4 ≤ 3 := fun z y => by
      obtain ⟨f, f1, f2⟩ := nI_of2 (M := 3) (n := 3) (by decide) z y
      exact hf ⟨f, f1, f2⟩
    rcases wt_cases hS v1 with ⟨s, hs, rfl, ho, hx⟩ | ⟨hx, hy⟩
    · exact wy_open_t hs ho (br_f (by decide) (br_c (fun _ => ⟨rfl, I'⟩) (fun z => br_f (nf z) ⟨rfl, I'⟩)))
    · exact wy_open_f hy (br_t rfl ⟨rfl, I'⟩)
theorem i_vc_set {k : Nat} {u : SX} {v : SY} (I : i_Rel k u v) (hk : k + 5 ≤ 2560) (v1 : Int32) (v2 : Int32) (v3 : Int32) (v4 : Int32) : wpX_set (fun r u' => wpY_set (fun r' v' => r' = r ∧ i_Rel (k + 5) u' v') v v1 v2 v3 v4) u v1 v2 v3 v4 := by
  have I' := i_up I
  obtain ⟨x_time, x_partCount, x_wrongAt, x_changeCount, x_transactions, x_logStart, x_snapshotStart, x_placesLeft, x_tree, x_treeBefore, x_timeouts, x_deadlines, x_events, x_eventCounts, x_watchSessions, x_watchKinds, x_watchPaths, x_partKinds, x_partPaths, x_partAs, x_partBs, x_changePaths, x_changeKinds⟩ := u
  obtain ⟨y_time, y_last, y_watchCount, y_partCount, y_wrong, y_changes, y_log, y_since, y_placesLeft, y_paths, y_values, y_open, y_timeouts, y_deadlines, y_events, y_eventCounts, y_watchers, y_watchKinds, y_watchPaths, y_parts, y_happened, y_how⟩ := v
  have I2 := I
  obtain ⟨hT, hI, hV, hS, hti, hE, hW, hP, hw, hN, hc⟩ := I2
  unfold wpX_set wpY_set
  rcases wt_cases hS v1 with ⟨s, hs, rfl, ho, hx⟩ | ⟨hx, hy⟩
  · obtain ⟨r, u', v', hX, hY, hR⟩ := wt_single (kd := 1) (x := v2) (d := v3) (b := v4) hs hx (by decide) I (wt_set (c := 0) hT hI hV (wt_C_0 _ _ _ _) (by omega) (by omega))
    obtain ⟨x_time, x_partCount, x_wrongAt, x_changeCount, x_transactions, x_logStart, x_snapshotStart, x_placesLeft, x_tree, x_treeBefore, x_timeouts, x_deadlines, x_events, x_eventCounts, x_watchSessions, x_watchKinds, x_watchPaths, x_partKinds, x_partPaths, x_partAs, x_partBs, x_changePaths, x_changeKinds⟩ := u'
    obtain ⟨y_time, y_last, y_watchCount, y_partCount, y_wrong, y_changes, y_log, y_since, y_placesLeft, y_paths, y_values, y_open, y_timeouts, y_deadlines, y_events, y_eventCounts, y_watchers, y_watchKinds, y_watchPaths, y_parts, y_happened, y_how⟩ := v'
    exact hX _ (wy_open_t hs ho (br_f (by decide) (hY _ ⟨rfl, wt_R_up hR (by omega)⟩)))
  · exact wx_single_f hx (wy_open_f hy (br_t rfl ⟨rfl, I'⟩))
theorem i_vc_remove {k : Nat} {u : SX} {v : SY} (I : i_Rel k u v) (hk : k + 5 ≤ 2560) (v1 : Int32) (v2 : Int32) (v3 : Int32) : wpX_remove (fun r u' => wpY_remove (fun r' v' => r' = r ∧ i_Rel (k + 5) u' v') v v1 v2 v3) u v1 v2 v3 := by
  have I' := i_up I
  obtain ⟨x_time, x_partCount, x_wrongAt, x_changeCount, x_transactions, x_logStart, x_snapshotStart, x_placesLeft, x_tree, x_treeBefore, x_timeouts, x_deadlines, x_events, x_eventCounts, x_watchSessions, x_watchKinds, x_watchPaths, x_partKinds, x_partPaths, x_partAs, x_partBs, x_changePaths, x_changeKinds⟩ := u
  obtain ⟨y_time, y_last, y_watchCount, y_partCount, y_wrong, y_changes, y_log, y_since, y_placesLeft, y_paths, y_values, y_open, y_timeouts, y_deadlines, y_events, y_eventCounts, y_watchers, y_watchKinds, y_watchPaths, y_parts, y_happened, y_how⟩ := v
  have I2 := I
  obtain ⟨hT, hI, hV, hS, hti, hE, hW, hP, hw, hN, hc⟩ := I2
  unfold wpX_remove wpY_remove
  rcases wt_cases hS v1 with ⟨s, hs, rfl, ho, hx⟩ | ⟨hx, hy⟩
  · obtain ⟨r, u', v', hX, hY, hR⟩ := wt_single (kd := 2) (x := v2) (d := 0) (b := v3) hs hx (by decide) I (wt_remove (c := 0) hT hI hV (wt_C_0 _ _ _ _) (by omega) (by omega))
    obtain ⟨x_time, x_partCount, x_wrongAt, x_changeCount, x_transactions, x_logStart, x_snapshotStart, x_placesLeft, x_tree, x_treeBefore, x_timeouts, x_deadlines, x_events, x_eventCounts, x_watchSessions, x_watchKinds, x_watchPaths, x_partKinds, x_partPaths, x_partAs, x_partBs, x_changePaths, x_changeKinds⟩ := u'
    obtain ⟨y_time, y_last, y_watchCount, y_partCount, y_wrong, y_changes, y_log, y_since, y_placesLeft, y_paths, y_values, y_open, y_timeouts, y_deadlines, y_events, y_eventCounts, y_watchers, y_watchKinds, y_watchPaths, y_parts, y_happened, y_how⟩ := v'
    exact hX _ (wy_open_t hs ho (br_f (by decide) (hY _ ⟨rfl, wt_R_up hR (by omega)⟩)))
  · exact wx_single_f hx (wy_open_f hy (br_t rfl ⟨rfl, I'⟩))
end
section
section
variable {x_time x_partCount x_wrongAt x_changeCount x_transactions x_logStart x_snapshotStart x_placesLeft : Int32} {x_tree x_treeBefore x_timeouts x_deadlines x_events x_eventCounts x_watchSessions x_watchKinds x_watchPaths x_partKinds x_partPaths x_partAs x_partBs x_changePaths x_changeKinds : Nat → Int32}
variable {y_time y_last y_watchCount y_partCount y_wrong y_changes y_log y_since y_placesLeft : Int32} {y_paths y_values y_open y_timeouts y_deadlines y_events y_eventCounts y_watchers y_watchKinds y_watchPaths y_parts y_happened y_how : Nat → Int32}
variable {n : Int32}
/-- a request of any kind -/
theorem wt_req {B c b : Nat} {s d x fl : Int32} (hb : b ≤ 3) (hf : b = 0 → ∃ f, f ≤ 3 ∧ fl = nI f) (hT : wt_T x_tree y_paths y_values) (hI : wt_I y_paths y_values) (hV : wt_V B y_values) (hC : wt_C c x_changeKinds x_changePaths y_happened y_how) (hc : c < 20) (hB : B < 2 ^ 30) :
    ∃ (r r' : Int32) (t' p' w' xk' xp' yh' yw' : Nat → Int32) (c' : Nat), (∀ post : Int32 → SX → Prop, post r (x_time, x_partCount, x_wrongAt, (nI c'), n, x_logStart, x_snapshotStart, x_placesLeft, t', x_treeBefore, x_timeouts, x_deadlines, x_events, x_eventCounts, x_watchSessions, x_watchKinds, x_watchPaths, x_partKinds, x_partPaths, x_partAs, x_partBs, xp', xk') → wpX_perform post (x_time, x_partCount, x_wrongAt, (nI c), n, x_logStart, x_snapshotStart, x_placesLeft, x_tree, x_treeBefore, x_timeouts, x_deadlines, x_events, x_eventCounts, x_watchSessions, x_watchKinds, x_watchPaths, x_partKinds, x_partPaths, x_partAs, x_partBs, x_changePaths, x_changeKinds) s (nI b) x d fl) ∧ (∀ post : Int32 → SY → Prop, post r' (y_time, n, y_watchCount, y_partCount, y_wrong, (nI c'), y_log, y_since, y_placesLeft, p', w', y_open, y_timeouts, y_deadlines, y_events, y_eventCounts, y_watchers, y_watchKinds, y_watchPaths, y_parts, yh', yw') → wpY_request post (y_time, n, y_watchCount, y_partCount, y_wrong, (nI c), y_log, y_since, y_placesLeft, y_paths, y_values, y_open, y_timeouts, y_deadlines, y_events, y_eventCounts, y_watchers, y_watchKinds, y_watchPaths, y_parts, y_happened, y_how) s (nI b) x d fl (n + 1)) ∧ wt_O B c y_paths y_values (nI b) r r' t' p' w' xk' xp' yh' yw' c' := by
  by_cases b0 : b = 0
  · subst b0
    obtain ⟨f, f1, rfl⟩ := hf rfl
    obtain ⟨r, t', p', w', xk', xp', yh', yw', c', hX, hY, hO⟩ := wt_create (x_time := x_time) (x_partCount := x_partCount) (x_wrongAt := x_wrongAt) (x_logStart := x_logStart) (x_snapshotStart := x_snapshotStart) (x_placesLeft := x_placesLeft) (x_tree := x_tree) (x_treeBefore := x_treeBefore) (x_timeouts := x_timeouts) (x_deadlines := x_deadlines) (x_events := x_events) (x_eventCounts := x_eventCounts) (x_watchSessions := x_watchSessions) (x_watchKinds := x_watchKinds) (x_watchPaths := x_watchPaths) (x_partKinds := x_partKinds) (x_partPaths := x_partPaths) (x_partAs := x_partAs) (x_partBs := x_partBs) (x_changePaths := x_changePaths) (x_changeKinds := x_changeKinds) (y_time := y_time) (y_watchCount := y_watchCount) (y_partCount := y_partCount) (y_wrong := y_wrong) (y_log := y_log) (y_since := y_since) (y_placesLeft := y_placesLeft) (y_paths := y_paths) (y_values := y_values) (y_open := y_open) (y_timeouts := y_timeouts) (y_deadlines := y_deadlines) (y_events := y_events) (y_eventCounts := y_eventCounts) (y_watchers := y_watchers) (y_watchKinds := y_watchKinds) (y_watchPaths := y_watchPaths) (y_parts := y_parts) (y_happened := y_happened) (y_how := y_how) (n := n) (s := s) (d := d) (x := x) hT hI hV hC hc hB (fl := f) (by omega)
    exact ⟨r, r, t', p', w', xk', xp', yh', yw', c', hX, hY, hO⟩
  · by_cases b1 : b = 1
    · subst b1
      obtain ⟨r, t', p', w', xk', xp', yh', yw', c', hX, hY, hO⟩ := wt_set (x_time := x_time) (x_partCount := x_partCount) (x_wrongAt := x_wrongAt) (x_logStart := x_logStart) (x_snapshotStart := x_snapshotStart) (x_placesLeft := x_placesLeft) (x_tree := x_tree) (x_treeBefore := x_treeBefore) (x_timeouts := x_timeouts) (x_deadlines := x_deadlines) (x_events := x_events) (x_eventCounts := x_eventCounts) (x_watchSessions := x_watchSessions) (x_watchKinds := x_watchKinds) (x_watchPaths := x_watchPaths) (x_partKinds := x_partKinds) (x_partPaths := x_partPaths) (x_partAs := x_partAs) (x_partBs := x_partBs) (x_changePaths := x_changePaths) (x_changeKinds := x_changeKinds) (y_time := y_time) (y_watchCount := y_watchCount) (y_partCount := y_partCount) (y_wrong := y_wrong) (y_log := y_log) (y_since := y_since) (y_placesLeft := y_placesLeft) (y_paths := y_paths) (y_values := y_values) (y_open := y_open) (y_timeouts := y_timeouts) (y_deadlines := y_deadlines) (y_events := y_events) (y_eventCounts := y_eventCounts) (y_watchers := y_watchers) (y_watchKinds := y_watchKinds) (y_watchPaths := y_watchPaths) (y_parts := y_parts) (y_happened := y_happened) (y_how := y_how) (n := n) (s := s) (d := d) (x := x) (b := fl) hT hI hV hC hc hB
      exact ⟨r, r, t', p', w', xk', xp', yh', yw', c', hX, hY, hO⟩
    · by_cases b2 : b = 2
      · subst b2
        obtain ⟨r, t', p', w', xk', xp', yh', yw', c', hX, hY, hO⟩ := wt_remove (x_time := x_time) (x_partCount := x_partCount) (x_wrongAt := x_wrongAt) (x_logStart := x_logStart) (x_snapshotStart := x_snapshotStart) (x_placesLeft := x_placesLeft) (x_tree := x_tree) (x_treeBefore := x_treeBefore) (x_timeouts := x_timeouts) (x_deadlines := x_deadlines) (x_events := x_events) (x_eventCounts := x_eventCounts) (x_watchSessions := x_watchSessions) (x_watchKinds := x_watchKinds) (x_watchPaths := x_watchPaths) (x_partKinds := x_partKinds) (x_partPaths := x_partPaths) (x_partAs := x_partAs) (x_partBs := x_partBs) (x_changePaths := x_changePaths) (x_changeKinds := x_changeKinds) (y_time := y_time) (y_watchCount := y_watchCount) (y_partCount := y_partCount) (y_wrong := y_wrong) (y_log := y_log) (y_since := y_since) (y_placesLeft := y_placesLeft) (y_paths := y_paths) (y_values := y_values) (y_open := y_open) (y_timeouts := y_timeouts) (y_deadlines := y_deadlines) (y_events := y_events) (y_eventCounts := y_eventCounts) (y_watchers := y_watchers) (y_watchKinds := y_watchKinds) (y_watchPaths := y_watchPaths) (y_parts := y_parts) (y_happened := y_happened) (y_how := y_how) (n := n) (s := s) (d := d) (x := x) (b := fl) hT hI hV hC hc hB
        exact ⟨r, r, t', p', w', xk', xp', yh', yw', c', hX, hY, hO⟩
      · have b3 : b = 3 := by omega
        subst b3
        obtain ⟨r, r', hX, hY, hO⟩ := wt_check (x_time := x_time) (x_partCount := x_partCount) (x_wrongAt := x_wrongAt) (x_logStart := x_logStart) (x_snapshotStart := x_snapshotStart) (x_placesLeft := x_placesLeft) (x_tree := x_tree) (x_treeBefore := x_treeBefore) (x_timeouts := x_timeouts) (x_deadlines := x_deadlines) (x_events := x_events) (x_eventCounts := x_eventCounts) (x_watchSessions := x_watchSessions) (x_watchKinds := x_watchKinds) (x_watchPaths := x_watchPaths) (x_partKinds := x_partKinds) (x_partPaths := x_partPaths) (x_partAs := x_partAs) (x_partBs := x_partBs) (x_changePaths := x_changePaths) (x_changeKinds := x_changeKinds) (y_time := y_time) (y_watchCount := y_watchCount) (y_partCount := y_partCount) (y_wrong := y_wrong) (y_log := y_log) (y_since := y_since) (y_placesLeft := y_placesLeft) (y_paths := y_paths) (y_values := y_values) (y_open := y_open) (y_timeouts := y_timeouts) (y_deadlines := y_deadlines) (y_events := y_events) (y_eventCounts := y_eventCounts) (y_watchers := y_watchers) (y_watchKinds := y_watchKinds) (y_watchPaths := y_watchPaths) (y_parts := y_parts) (y_happened := y_happened) (y_how := y_how) (n := n) (s := s) (d := d) (x := x) (b := fl) hT hI hV hC
        exact ⟨r, r', _, _, _, _, _, _, _, _, hX, hY, hO⟩
theorem wx_copy1_lp {post : SX → Prop} (hp : post (x_time, x_partCount, x_wrongAt, x_changeCount, x_transactions, x_logStart, x_snapshotStart, x_placesLeft, x_tree, (wt_mx 147 x_tree x_treeBefore), x_timeouts, x_deadlines, x_events, x_eventCounts, x_watchSessions, x_watchKinds, x_watchPaths, x_partKinds, x_partPaths, x_partAs, x_partBs, x_changePaths, x_changeKinds)) : ∀ d i, i + d = 147 → wX_copyTree__tree_treeBefore_2 post x_time x_partCount x_wrongAt x_changeCount x_transactions x_logStart x_snapshotStart x_placesLeft (d + 1) (nI i) x_tree (wt_mx i x_tree x_treeBefore) x_timeouts x_deadlines x_events x_eventCounts x_watchSessions x_watchKinds x_watchPaths x_partKinds x_partPaths x_partAs x_partBs x_changePaths x_changeKinds := by
  intro d
  induction d with
  | zero =>
    intro i hi
    have e : i = 147 := by omega
    subst e
    exact br_t (nI_le (a := 147) (b := 147) (by omega) (by omega)) hp
  | succ d ih =>
    intro i hi
    have hn := ih (i + 1) (by omega)
    rw [← wt_mx_s] at hn
    have vi : vp_in (nI i) 147 := vp_in_nI (by omega) (by omega)
    have ci : (nI i).toNatClampNeg = i := nI_clamp (by omega)
    exact br_f (nI_ge (b := 147) (by omega) (by omega)) ⟨vi, vi, nm_r (e' := upd (wt_mx i x_tree x_treeBefore) i (x_tree i)) (by rw [ci]) (nm_r (nI_1 i) hn)⟩
theorem wx_copy1 {post : SX → Prop} (hp : post (x_time, x_partCount, x_wrongAt, x_changeCount, x_transactions, x_logStart, x_snapshotStart, x_placesLeft, x_tree, (wt_mx 147 x_tree x_treeBefore), x_timeouts, x_deadlines, x_events, x_eventCounts, x_watchSessions, x_watchKinds, x_watchPaths, x_partKinds, x_partPaths, x_partAs, x_partBs, x_changePaths, x_changeKinds)) : wpX_copyTree__tree_treeBefore post (x_time, x_partCount, x_wrongAt, x_changeCount, x_transactions, x_logStart, x_snapshotStart, x_placesLeft, x_tree, x_treeBefore, x_timeouts, x_deadlines, x_events, x_eventCounts, x_watchSessions, x_watchKinds, x_watchPaths, x_partKinds, x_partPaths, x_partAs, x_partBs, x_changePaths, x_changeKinds) := by
  have h := wx_copy1_lp hp 147 0 rfl
  rw [wt_mx_0] at h
  exact ⟨148, h⟩
theorem wx_copy2_lp {post : SX → Prop} (hp : post (x_time, x_partCount, x_wrongAt, x_changeCount, x_transactions, x_logStart, x_snapshotStart, x_placesLeft, (wt_mx 147 x_treeBefore x_tree), x_treeBefore, x_timeouts, x_deadlines, x_events, x_eventCounts, x_watchSessions, x_watchKinds, x_watchPaths, x_partKinds, x_partPaths, x_partAs, x_partBs, x_changePaths, x_changeKinds)) : ∀ d i, i + d = 147 → wX_copyTree__treeBefore_tree_2 post x_time x_partCount x_wrongAt x_changeCount x_transactions x_logStart x_snapshotStart x_placesLeft (d + 1) (nI i) (wt_mx i x_treeBefore x_tree) x_treeBefore x_timeouts x_deadlines x_events x_eventCounts x_watchSessions x_watchKinds x_watchPaths x_partKinds x_partPaths x_partAs x_partBs x_changePaths x_changeKinds := by
  intro d
  induction d with
  | zero =>
    intro i hi
    have e : i = 147 := by omega
    subst e
    exact br_t (nI_le (a := 147) (b := 147) (by omega) (by omega)) hp
  | succ d ih =>
    intro i hi
    have hn := ih (i + 1) (by omega)
    rw [← wt_mx_s] at hn
    have vi : vp_in (nI i) 147 := vp_in_nI (by omega) (by omega)
    have ci : (nI i).toNatClampNeg = i := nI_clamp (by omega)
    exact br_f (nI_ge (b := 147) (by omega) (by omega)) ⟨vi, vi, nm_r (e' := upd (wt_mx i x_treeBefore x_tree) i (x_treeBefore i)) (by rw [ci]) (nm_r (nI_1 i) hn)⟩
theorem wx_copy2 {post : SX → Prop} (hp : post (x_time, x_partCount, x_wrongAt, x_changeCount, x_transactions, x_logStart, x_snapshotStart, x_placesLeft, (wt_mx 147 x_treeBefore x_tree), x_treeBefore, x_timeouts, x_deadlines, x_events, x_eventCounts, x_watchSessions, x_watchKinds, x_watchPaths, x_partKinds, x_partPaths, x_partAs, x_partBs, x_changePaths, x_changeKinds)) : wpX_copyTree__treeBefore_tree post (x_time, x_partCount, x_wrongAt, x_changeCount, x_transactions, x_logStart, x_snapshotStart, x_placesLeft, x_tree, x_treeBefore, x_timeouts, x_deadlines, x_events, x_eventCounts, x_watchSessions, x_watchKinds, x_watchPaths, x_partKinds, x_partPaths, x_partAs, x_partBs, x_changePaths, x_changeKinds) := by
  have h := wx_copy2_lp hp 147 0 rfl
  rw [wt_mx_0] at h
  exact ⟨148, h⟩
theorem wy_copyv_lp {post : SY → Prop} {a b : Nat} (hab : a + 21 ≤ b ∨ b + 21 ≤ a) (ha : a ≤ 21) (hb : b ≤ 21) (hp : post (y_time, y_last, y_watchCount, y_partCount, y_wrong, y_changes, y_log, y_since, y_placesLeft, y_paths, (wt_mv (6 * a) (6 * b) 126 y_values), y_open, y_timeouts, y_deadlines, y_events, y_eventCounts, y_watchers, y_watchKinds, y_watchPaths, y_parts, y_happened, y_how)) : ∀ d i, i + d = 126 → wY_copy_32 post (nI a) (nI b) y_time y_last y_watchCount y_partCount y_wrong y_changes y_log y_since y_placesLeft (d + 1) (nI i) y_paths (wt_mv (6 * a) (6 * b) i y_values) y_open y_timeouts y_deadlines y_events y_eventCounts y_watchers y_watchKinds y_watchPaths y_parts y_happened y_how := by
  intro d
  induction d with
  | zero =>
    intro i hi
    have e : i = 126 := by omega
    subst e
    exact br_t (nI_le (a := 126) (b := 126) (by omega) (by omega)) hp
  | succ d ih =>
    intro i hi
    have hn := ih (i + 1) (by omega)
    rw [← wt_mv_s (n := 126) (by omega) (by omega)] at hn
    have ea : 6 * nI a + nI i = nI (6 * a + i) := wt_6j a i
    have eb : 6 * nI b + nI i = nI (6 * b + i) := wt_6j b i
    exact br_f (nI_ge (b := 126) (by omega) (by omega)) ⟨by rw [ea]; exact vp_in_nI (by omega) (by omega), by rw [eb]; exact vp_in_nI (by omega) (by omega), nm_r (e' := upd (wt_mv (6 * a) (6 * b) i y_values) (6 * b + i) (wt_mv (6 * a) (6 * b) i y_values (6 * a + i))) (by rw [ea, eb, nI_clamp (by omega), nI_clamp (by omega)]) (nm_r (nI_1 i) hn)⟩
theorem wy_copyp_lp {post : SY → Prop} {a b : Nat} (hab : a + 21 ≤ b ∨ b + 21 ≤ a) (ha : a ≤ 21) (hb : b ≤ 21) (hp : post (y_time, y_last, y_watchCount, y_partCount, y_wrong, y_changes, y_log, y_since, y_placesLeft, (wt_mv a b 21 y_paths), (wt_mv (6 * a) (6 * b) 126 y_values), y_open, y_timeouts, y_deadlines, y_events, y_eventCounts, y_watchers, y_watchKinds, y_watchPaths, y_parts, y_happened, y_how)) : ∀ d i, i + d = 21 → wY_copy_2 post (nI a) (nI b) y_time y_last y_watchCount y_partCount y_wrong y_changes y_log y_since y_placesLeft (d + 1) (nI i) (wt_mv a b i y_paths) y_values y_open y_timeouts y_deadlines y_events y_eventCounts y_watchers y_watchKinds y_watchPaths y_parts y_happened y_how := by
  intro d
  induction d with
  | zero =>
    intro i hi
    have e : i = 21 := by omega
    subst e
    have h := wy_copyv_lp (y_time := y_time) (y_last := y_last) (y_watchCount := y_watchCount) (y_partCount := y_partCount) (y_wrong := y_wrong) (y_changes := y_changes) (y_log := y_log) (y_since := y_since) (y_placesLeft := y_placesLeft) (y_values := y_values) (y_open := y_open) (y_timeouts := y_timeouts) (y_deadlines := y_deadlines) (y_events := y_events) (y_eventCounts := y_eventCounts) (y_watchers := y_watchers) (y_watchKinds := y_watchKinds) (y_watchPaths := y_watchPaths) (y_parts := y_parts) (y_happened := y_happened) (y_how := y_how) (y_paths := wt_mv a b 21 y_paths) hab ha hb hp 126 0 rfl
    rw [wt_mv_0] at h
    exact br_t wt_21le ⟨127, h⟩
  | succ d ih =>
    intro i hi
    have hn := ih (i + 1) (by omega)
    rw [← wt_mv_s (n := 21) (by omega) (by omega)] at hn
    have ea : nI a + nI i = nI (a + i) := nI_add a i
    have eb : nI b + nI i = nI (b + i) := nI_add b i
    exact br_f (wt_21ge i (by omega)) ⟨by rw [ea]; exact vp_in_nI (by omega) (by omega), by rw [eb]; exact vp_in_nI (by omega) (by omega), nm_r (e' := upd (wt_mv a b i y_paths) (b + i) (wt_mv a b i y_paths (a + i))) (by rw [ea, eb, nI_clamp (by omega), nI_clamp (by omega)]) (nm_r (nI_1 i) hn)⟩
theorem wy_copy {post : SY → Prop} {a b : Nat} (hab : a + 21 ≤ b ∨ b + 21 ≤ a) (ha : a ≤ 21) (hb : b ≤ 21) (hp : post (y_time, y_last, y_watchCount, y_partCount, y_wrong, y_changes, y_log, y_since, y_placesLeft, (wt_mv a b 21 y_paths), (wt_mv (6 * a) (6 * b) 126 y_values), y_open, y_timeouts, y_deadlines, y_events, y_eventCounts, y_watchers, y_watchKinds, y_watchPaths, y_parts, y_happened, y_how)) : wpY_copy post (y_time, y_last, y_watchCount, y_partCount, y_wrong, y_changes, y_log, y_since, y_placesLeft, y_paths, y_values, y_open, y_timeouts, y_deadlines, y_events, y_eventCounts, y_watchers, y_watchKinds, y_watchPaths, y_parts, y_happened, y_how) (nI a) (nI b) := by
  have h := wy_copyp_lp hab ha hb hp 21 0 rfl
  rw [wt_mv_0] at h
  exact ⟨22, h⟩
end
section
variable {x_time x_partCount x_wrongAt x_changeCount x_transactions x_logStart x_snapshotStart x_placesLeft : Int32} {x_tree x_treeBefore x_timeouts x_deadlines x_events x_eventCounts x_watchSessions x_watchKinds x_watchPaths x_partKinds x_partPaths x_partAs x_partBs x_changePaths x_changeKinds : Nat → Int32}
variable {y_time y_last y_watchCount y_partCount y_wrong y_changes y_log y_since y_placesLeft : Int32} {y_paths y_values y_open y_timeouts y_deadlines y_events y_eventCounts y_watchers y_watchKinds y_watchPaths y_parts y_happened y_how : Nat → Int32}
/-- the parts of a multi request, from the i-th on; t0, p0, w0: the tree before -/
theorem wt_multi_lp {B c s : Nat} {t0 p0 w0 : Nat → Int32} (hB : B + 20 < 2 ^ 29) (hc : c ≤ 6) (hparts : ∀ i, i < c → x_partKinds i = y_parts (4 * i) ∧ x_partPaths i = y_parts (4 * i + 1) ∧ x_partAs i = y_parts (4 * i + 2) ∧ x_partBs i = y_parts (4 * i + 3) ∧ ∃ b, b ≤ 3 ∧ y_parts (4 * i) = nI b ∧ (b = 0 → ∃ f, f ≤ 3 ∧ y_parts (4 * i + 3) = nI f)) (hT0 : wt_T t0 p0 w0) (hI0 : wt_I p0 w0) (hV0 : wt_V B w0) (htb : ∀ j, j < 147 → x_treeBefore j = t0 j) (hE : wt_E y_open x_events x_eventCounts y_events y_eventCounts) (hW : wt_WR y_open x_watchSessions x_watchKinds x_watchPaths y_watchers y_watchKinds y_watchPaths y_watchCount)
    (hR : ∀ (xn xw yw yn yl ys yc : Int32) (t p w xe xc ye yec xs ya yk yp xck xcp yh ywh : Nat → Int32) (wc : Int32), wt_T t p w → wt_I p w → wt_V (B + 20) w → wt_E y_open xe xc ye yec → wt_WR y_open xs x_watchKinds x_watchPaths ya yk yp wc → xw = yw → ((xn = x_transactions ∧ yn = y_last ∧ yl = y_log ∧ ys = y_since) ∨ (xn = x_transactions + 1 ∧ yn = y_last + 1 ∧ yl = y_log + 1 ∧ ys = y_since + 1)) → wt_R (B + 20) (x_time, x_partCount, xw, 0, xn, x_logStart, x_snapshotStart, x_placesLeft, t, x_treeBefore, x_timeouts, x_deadlines, xe, xc, xs, x_watchKinds, x_watchPaths, x_partKinds, x_partPaths, x_partAs, x_partBs, xcp, xck) (y_time, yn, wc, y_partCount, yw, yc, yl, ys, y_placesLeft, p, w, y_open, y_timeouts, y_deadlines, ye, yec, ya, yk, yp, y_parts, yh, ywh)) (hn : x_transactions = y_last) :
    ∀ d i, i + d = c → ∀ (cc : Nat) (t p w xk xp yh yw : Nat → Int32), cc ≤ i → wt_T t p w → wt_I p w → wt_V (B + i) w → wt_C cc xk xp yh yw → (∀ j, j < 21 → p (21 + j) = p0 j) → (∀ j, j < 126 → w (126 + j) = w0 j) → ∃ (r : Int32) (u' : SX) (v' : SY), (∀ post : Int32 → SX → Prop, post r u' → wX_multi_52 post (nI s) (nI c) (d + 1) (nI i) x_time x_partCount (-1) (nI cc) x_transactions x_logStart x_snapshotStart x_placesLeft t x_treeBefore x_timeouts x_deadlines x_events x_eventCounts x_watchSessions x_watchKinds x_watchPaths x_partKinds x_partPaths x_partAs x_partBs xp xk) ∧ (∀ post : Int32 → SY → Prop, post r v' → wY_multi_55 post (nI s) (nI c) (d + 1) (nI i) y_time y_last y_watchCount y_partCount (-1) (nI cc) y_log y_since y_placesLeft p w y_open y_timeouts y_deadlines y_events y_eventCounts y_watchers y_watchKinds y_watchPaths y_parts yh yw) ∧ wt_R (B + 20) u' v' := by
  intro d
  induction d with
  | zero =>
    intro i hi cc t p w xk xp yh yw hcc hT hI hV hC hp hw
    have e : i = c := by omega
    subst e
    have l : nI i ≤ nI i := nI_le (Nat.le_refl _) (by omega)
    obtain ⟨ws', ev', ec', yev', yec', ya', yk', yp', wc', hXf, hYf, R1, R2⟩ := wt_finish (x_time := x_time) (x_partCount := x_partCount) (x_logStart := x_logStart) (x_snapshotStart := x_snapshotStart) (x_placesLeft := x_placesLeft) (x_treeBefore := x_treeBefore) (x_timeouts := x_timeouts) (x_deadlines := x_deadlines) (x_watchKinds := x_watchKinds) (x_watchPaths := x_watchPaths) (x_partKinds := x_partKinds) (x_partPaths := x_partPaths) (x_partAs := x_partAs) (x_partBs := x_partBs) (x_tree := t) (x_changeKinds := xk) (x_changePaths := xp) (x_wrongAt := -1) (y_time := y_time) (y_partCount := y_partCount) (y_placesLeft := y_placesLeft) (y_open := y_open) (y_timeouts := y_timeouts) (y_deadlines := y_deadlines) (y_parts := y_parts) (y_paths := p) (y_values := w) (y_happened := yh) (y_how := yw) (y_last := y_last + 1) (y_log := y_log + 1) (y_since := y_since + 1) (y_wrong := -1) (n := x_transactions) hC hW hE
    refine ⟨x_transactions + 1, (x_time, x_partCount, (-1), 0, (x_transactions + 1), x_logStart, x_snapshotStart, x_placesLeft, t, x_treeBefore, x_timeouts, x_deadlines, ev', ec', ws', x_watchKinds, x_watchPaths, x_partKinds, x_partPaths, x_partAs, x_partBs, xp, xk), (y_time, (y_last + 1), wc', y_partCount, (-1), (nI cc), (y_log + 1), (y_since + 1), y_placesLeft, p, w, y_open, y_timeouts, y_deadlines, yev', yec', ya', yk', yp', y_parts, yh, yw), fun post hp => ?_, fun post hp => ?_, ?_⟩
    · refine br_t l ?_
      unfold wX_multi_129
      exact hXf _ hp
    · refine br_t l (wy_done (hYf _ ?_))
      rw [hn] at hp
      exact hp
    · exact hR _ _ _ _ _ _ _ _ _ _ _ _ _ _ _ _ _ _ _ _ _ _ _ hT hI (wt_V_up hV (by omega)) R2 R1 rfl (Or.inr ⟨rfl, rfl, rfl, rfl⟩)
  | succ d ih =>
    intro i hi cc t p w xk xp yh yw hcc hT hI hV hC hp hw
    obtain ⟨k1, k2, k3, k4, b, b1, b2, b3⟩ := hparts i (by omega)
    have lc : ¬ nI c ≤ nI i := nI_ge (by omega) (by omega)
    have l6 : ¬ (6 : Int32) ≤ nI i := nI_ge (b := 6) (by omega) (by omega)
    have v6 : vp_in (nI i) 6 := vp_in_nI (by omega) (by omega)
    have ci : (nI i).toNatClampNeg = i := nI_clamp (by omega)
    have x1 : x_partKinds (nI i).toNatClampNeg = nI b := by rw [ci, k1]; exact b2
    have x2 : x_partPaths (nI i).toNatClampNeg = y_parts (4 * i + 1) := by rw [ci]; exact k2
    have x3 : x_partAs (nI i).toNatClampNeg = y_parts (4 * i + 2) := by rw [ci]; exact k3
    have x4 : x_partBs (nI i).toNatClampNeg = y_parts (4 * i + 3) := by rw [ci]; exact k4
    have y1 : y_parts ((4 : Int32) * nI i).toNatClampNeg = nI b := (congrArg y_parts (wt_4c0 i (by omega))).trans b2
    have y2 : y_parts ((4 : Int32) * nI i + 1).toNatClampNeg = y_parts (4 * i + 1) := congrArg y_parts (wt_4c i 1 (by omega) (by omega))
    have y3 : y_parts ((4 : Int32) * nI i + 2).toNatClampNeg = y_parts (4 * i + 2) := congrArg y_parts (wt_4c i 2 (by omega) (by omega))
    have y4 : y_parts ((4 : Int32) * nI i + 3).toNatClampNeg = y_parts (4 * i + 3) := congrArg y_parts (wt_4c i 3 (by omega) (by omega))
    obtain ⟨r, r', t', p', w', xk', xp', yh', yw', c', hX, hY, o1, o2, o3, o4, o5, o6, o7⟩ := wt_req (x_time := x_time) (x_partCount := x_partCount) (x_logStart := x_logStart) (x_snapshotStart := x_snapshotStart) (x_placesLeft := x_placesLeft) (x_treeBefore := x_treeBefore) (x_timeouts := x_timeouts) (x_deadlines := x_deadlines) (x_events := x_events) (x_eventCounts := x_eventCounts) (x_watchSessions := x_watchSessions) (x_watchKinds := x_watchKinds) (x_watchPaths := x_watchPaths) (x_partKinds := x_partKinds) (x_partPaths := x_partPaths) (x_partAs := x_partAs) (x_partBs := x_partBs) (x_tree := t) (x_changeKinds := xk) (x_changePaths := xp) (x_wrongAt := -1) (y_time := y_time) (y_watchCount := y_watchCount) (y_partCount := y_partCount) (y_log := y_log) (y_since := y_since) (y_placesLeft := y_placesLeft) (y_open := y_open) (y_timeouts := y_timeouts) (y_deadlines := y_deadlines) (y_events := y_events) (y_eventCounts := y_eventCounts) (y_watchers := y_watchers) (y_watchKinds := y_watchKinds) (y_watchPaths := y_watchPaths) (y_parts := y_parts) (y_paths := p) (y_values := w) (y_happened := yh) (y_how := yw) (y_wrong := -1) (n := y_last) (s := nI s) (d := y_parts (4 * i + 2)) (x := y_parts (4 * i + 1)) (fl := y_parts (4 * i + 3)) b1 b3 hT hI hV hC (by omega) (by omega)
    rcases o7 with ⟨q1, q2, q3⟩ | ⟨q1, q2, _, q4⟩
    · subst q2
      have nr : ¬ 0 ≤ r' := fun z => Int32.not_le.mpr q1 z
      refine ⟨r', (x_time, x_partCount, (nI i), 0, x_transactions, x_logStart, x_snapshotStart, x_placesLeft, (wt_mx 147 x_treeBefore t'), x_treeBefore, x_timeouts, x_deadlines, x_events, x_eventCounts, x_watchSessions, x_watchKinds, x_watchPaths, x_partKinds, x_partPaths, x_partAs, x_partBs, xp', xk'), (y_time, y_last, y_watchCount, y_partCount, (nI i), (nI c'), y_log, y_since, y_placesLeft, (wt_mv 21 0 21 p'), (wt_mv (6 * 21) (6 * 0) 126 w'), y_open, y_timeouts, y_deadlines, y_events, y_eventCounts, y_watchers, y_watchKinds, y_watchPaths, y_parts, yh', yw'), fun post hpo => ?_, fun post hpo => ?_, ?_⟩
      · refine br_f lc (br_f l6 ⟨v6, v6, v6, v6, ?_⟩)
        rw [x1, x2, x3, x4, hn]
        refine hX _ (br_f nr (wx_copy2 ?_))
        rw [← hn]
        exact hpo
      · refine br_f lc ⟨wt_4in0 i (by omega), wt_4in i 1 (by omega) (by omega), wt_4in i 2 (by omega) (by omega), wt_4in i 3 (by omega) (by omega), ?_⟩
        rw [y1, y2, y3, y4]
        exact hY _ (br_f nr (wy_copy (a := 21) (b := 0) (by omega) (by omega) (by omega) hpo))
      · have ep : ∀ j, j < 21 → wt_mv 21 0 21 p' j = p0 j := fun j hj => by
          have h1 := wt_mv_at (a := 21) (b := 0) (n := 21) (p := p') hj
          rw [Nat.zero_add] at h1
          rw [h1, o5 _ (by omega)]
          exact hp j hj
        have ew : ∀ j, j < 126 → wt_mv (6 * 21) (6 * 0) 126 w' j = w0 j := fun j hj => by
          have h1 := wt_mv_at (a := 6 * 21) (b := 6 * 0) (n := 126) (p := w') hj
          rw [Nat.mul_zero, Nat.zero_add] at h1
          rw [h1, o6 _ (by omega)]
          exact hw j hj
        exact hR _ _ _ _ _ _ _ _ _ _ _ _ _ _ _ _ _ _ _ _ _ _ _ (wt_T_cg hT0 (fun j hj => (wt_mx_at hj).trans (htb j hj)) ep ew) (wt_I_cg hI0 ep ew) (wt_V_cg (wt_V_up hV0 (by omega)) ew) hE hW rfl (Or.inl ⟨rfl, rfl, rfl, rfl⟩)
    · have nr : 0 ≤ r := wt_lt_ge q1
      have nr' : 0 ≤ r' := wt_lt_ge q2
      obtain ⟨rr, u', v', hX2, hY2, hR2⟩ := ih (i + 1) (by omega) c' t' p' w' xk' xp' yh' yw' (by omega) o1 o2 o3 o4 (fun j hj => by rw [o5 _ (by omega)]; exact hp j hj) (fun j hj => by rw [o6 _ (by omega)]; exact hw j hj)
      refine ⟨rr, u', v', fun post hpo => ?_, fun post hpo => ?_, hR2⟩
      · refine br_f lc (br_f l6 ⟨v6, v6, v6, v6, ?_⟩)
        have K := hX2 post hpo
        rw [x1, x2, x3, x4]
        rw [hn] at K ⊢
        exact hX _ (br_t nr (nm_r (nI_1 i) K))
      · refine br_f lc ⟨wt_4in0 i (by omega), wt_4in i 1 (by omega) (by omega), wt_4in i 2 (by omega) (by omega), wt_4in i 3 (by omega) (by omega), ?_⟩
        rw [y1, y2, y3, y4]
        exact hY _ (br_t nr' (nm_r (nI_1 i) (hY2 post hpo)))
end
theorem i_vc_multi {k : Nat} {u : SX} {v : SY} (I : i_Rel k u v) (hk : k + 5 ≤ 2560) (v1 : Int32) : wpX_multi (fun r u' => wpY_multi (fun r' v' => r' = r ∧ i_Rel (k + 5) u' v') v v1) u v1 := by
  have I' := i_up I
  obtain ⟨x_time, x_partCount, x_wrongAt, x_changeCount, x_transactions, x_logStart, x_snapshotStart, x_placesLeft, x_tree, x_treeBefore, x_timeouts, x_deadlines, x_events, x_eventCounts, x_watchSessions, x_watchKinds, x_watchPaths, x_partKinds, x_partPaths, x_partAs, x_partBs, x_changePaths, x_changeKinds⟩ := u
  obtain ⟨y_time, y_last, y_watchCount, y_partCount, y_wrong, y_changes, y_log, y_since, y_placesLeft, y_paths, y_values, y_open, y_timeouts, y_deadlines, y_events, y_eventCounts, y_watchers, y_watchKinds, y_watchPaths, y_parts, y_happened, y_how⟩ := v
  obtain ⟨hT', hI', hV', hS', hti', hE', hW', hP', hw', hN', hc'⟩ := I'
  have J : i_Rel (k + 5) (x_time, 0, (-1), x_changeCount, x_transactions, x_logStart, x_snapshotStart, x_placesLeft, x_tree, x_treeBefore, x_timeouts, x_deadlines, x_events, x_eventCounts, x_watchSessions, x_watchKinds, x_watchPaths, x_partKinds, x_partPaths, x_partAs, x_partBs, x_changePaths, x_changeKinds) (y_time, y_last, y_watchCount, 0, (-1), y_changes, y_log, y_since, y_placesLeft, y_paths, y_values, y_open, y_timeouts, y_deadlines, y_events, y_eventCounts, y_watchers, y_watchKinds, y_watchPaths, y_parts, y_happened, y_how) := ⟨hT', hI', hV', hS', hti', hE', hW', ⟨0, by omega, rfl, rfl, fun i hi => absurd hi (Nat.not_lt_zero _)⟩, rfl, hN', hc'⟩
  obtain ⟨hT, hI, hV, hS, ⟨t, ht, et, et'⟩, hE, hW, ⟨c, c1, c2, c3, c4⟩, hw, hN, hc⟩ := I
  unfold wpX_multi wpY_multi
  rcases wt_cases hS v1 with ⟨s, hs, rfl, ho, hx⟩ | ⟨hx, hy⟩
  · refine wx_open_t hs hx (br_f (by decide) ?_)
    by_cases c0 : c = 0
    · subst c0
      exact br_t c2 (wy_open_t hs ho (br_f (by decide) (br_t c3 ⟨rfl, J⟩)))
    · have cn : ¬ nI c = 0 := nI_ne0 (by omega) (by omega)
      have cx : ¬ x_partCount = 0 := by rw [c2]; exact cn
      have cy : ¬ y_partCount = 0 := by rw [c3]; exact cn
      refine br_f cx ?_
      by_cases hl : y_log < 40
      · have hlx : x_transactions - x_logStart < 40 := by rw [hN.2.1]; exact hl
        have ep : ∀ j, j < 21 → wt_mv 0 21 21 y_paths j = y_paths j := fun j hj => wt_mv_out (by omega)
        have ew : ∀ j, j < 126 → wt_mv (6 * 0) (6 * 21) 126 y_values j = y_values j := fun j hj => wt_mv_out (by omega)
        obtain ⟨r, u', v', hX, hY, hR⟩ := wt_multi_lp (x_time := x_time) (x_transactions := x_transactions) (x_logStart := x_logStart) (x_snapshotStart := x_snapshotStart) (x_placesLeft := x_placesLeft) (x_timeouts := x_timeouts) (x_deadlines := x_deadlines) (x_events := x_events) (x_eventCounts := x_eventCounts) (x_watchSessions := x_watchSessions) (x_watchKinds := x_watchKinds) (x_watchPaths := x_watchPaths) (x_partKinds := x_partKinds) (x_partPaths := x_partPaths) (x_partAs := x_partAs) (x_partBs := x_partBs) (x_partCount := 0) (x_treeBefore := wt_mx 147 x_tree x_treeBefore) (y_time := y_time) (y_last := y_last) (y_watchCount := y_watchCount) (y_log := y_log) (y_since := y_since) (y_placesLeft := y_placesLeft) (y_open := y_open) (y_timeouts := y_timeouts) (y_deadlines := y_deadlines) (y_events := y_events) (y_eventCounts := y_eventCounts) (y_watchers := y_watchers) (y_watchKinds := y_watchKinds) (y_watchPaths := y_watchPaths) (y_parts := y_parts) (y_partCount := 0) (B := 100 * k) (c := c) (s := s) (t0 := x_tree) (p0 := y_paths) (w0 := y_values) (by omega) c1 c4 hT hI hV (fun j hj => wt_mx_at hj) hE hW (fun xn xw yw yn yl ys yc t1 p1 w1 xe xc ye yec xs ya yk yp xck xcp yh ywh wc g1 g2 g3 g4 g5 g6 g7 => by
          refine ⟨g1, g2, g3, wt_S_up hS (by omega), ⟨t, by omega, et, et'⟩, g4, g5, ⟨0, by omega, rfl, rfl, fun i hi => absurd hi (Nat.not_lt_zero _)⟩, g6, ?_, rfl⟩
          rcases g7 with ⟨rfl, rfl, rfl, rfl⟩ | ⟨rfl, rfl, rfl, rfl⟩
          · exact hN
          · exact wt_N_s hN) hN.1 c 0 (by omega) 0 x_tree (wt_mv 0 21 21 y_paths) (wt_mv (6 * 0) (6 * 21) 126 y_values) x_changeKinds x_changePaths y_happened y_how (by omega) (wt_T_cg hT (fun _ _ => rfl) ep ew) (wt_I_cg hI ep ew) (wt_V_cg hV ew) (wt_C_0 _ _ _ _) (fun j hj => (wt_mv_at (b := 21) hj).trans (by rw [Nat.zero_add])) (fun j hj => (wt_mv_at (b := 6 * 21) hj).trans (by rw [Nat.mul_zero, Nat.zero_add]))
        have hc0 : x_changeCount = nI 0 := hc
        subst hc0
        subst c2
        subst c3
        refine wx_log_t hlx (br_t rfl (wx_copy1 ⟨_, hX _ (wy_open_t hs ho (br_f (by decide) (br_f cy (br_t hl (wy_copy (a := 0) (b := 21) (by omega) (by omega) (by omega) ⟨_, hY _ ⟨rfl, wt_R_up hR (by omega)⟩⟩)))))⟩))
      · have hlx : ¬ x_transactions - x_logStart < 40 := by rw [hN.2.1]; exact hl
        exact wx_log_f hlx (br_f (by decide) (wy_open_t hs ho (br_f (by decide) (br_f cy (br_f hl ⟨rfl, J⟩)))))
  · exact wx_open_f hx (br_t rfl (wy_open_f hy (br_t rfl ⟨rfl, J⟩)))
end
section
theorem wt_last : True := trivial
end
