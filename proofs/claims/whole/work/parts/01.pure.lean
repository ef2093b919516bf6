theorem pk_us {f : Nat → Int32} {k : Nat} {x : Int32} : upd f k x k = x := if_pos rfl
theorem pk_un {f : Nat → Int32} {k j : Nat} {x : Int32} (h : j ≠ k) : upd f k x j = f j := if_neg h
theorem pk_sub {a b : Nat} (h : b ≤ a) : nI a - nI b = nI (a - b) := by
  obtain ⟨c, rfl⟩ : ∃ c, a = c + b := ⟨a - b, by omega⟩
  rw [← nI_add, Int32.add_sub_cancel, Nat.add_sub_cancel]
theorem pk_m1 (n : Nat) : nI (n + 1) + (-1) = nI n := by
  rw [← nI_1, Int32.add_assoc, show (1 : Int32) + (-1) = 0 from rfl, Int32.add_zero]
theorem pk_mul (a b : Nat) : nI a * nI b = nI (a * b) := (Int32.ofNat_mul a b).symm
theorem pk_div {a d : Nat} (ha : a < 2 ^ 31) (h0 : 0 < d) (hd : d < 2 ^ 31) : nI a / nI d = nI (a / d) := by
  apply Int32.toInt_inj.mp
  rw [lg_idiv_nonneg (by rw [nI_toInt ha]; omega) (by rw [nI_toInt hd]; omega), nI_toInt ha, nI_toInt hd, nI_toInt (Nat.lt_of_le_of_lt (Nat.div_le_self a d) ha)]
  first | rfl | exact (Int.natCast_ediv _ _).symm
theorem pk_rem {a d : Nat} (ha : a < 2 ^ 31) (h0 : 0 < d) (hd : d < 2 ^ 31) : nI a - nI a / nI d * nI d = nI (a % d) := by
  rw [pk_div ha h0 hd, pk_mul, pk_sub (Nat.div_mul_le_self a d)]
  exact congrArg nI (by have := Nat.div_add_mod' a d; omega)
theorem pk_sub_toInt {a b : Nat} (ha : a < 2 ^ 30) (hb : b < 2 ^ 30) : (nI a - nI b).toInt = (a : Int) - b := by
  rw [Int32.toInt_sub, nI_toInt (by omega), nI_toInt (by omega)]
  exact Int.bmod_eq_of_le (by omega) (by omega)
theorem pk_sneg {a b : Nat} (hb : b < 2 ^ 30) (h : a < b) : nI a - nI b < 0 := by
  rw [Int32.lt_iff_toInt_lt, pk_sub_toInt (by omega) hb, show (0 : Int32).toInt = 0 from by decide]
  omega
theorem pk_ix (x : Int32) {n : Nat} (hn : n < 2 ^ 31) : x < 0 ∨ nI n ≤ x ∨ ∃ j : Nat, j < n ∧ x = nI j := by
  by_cases h : x < 0
  · exact Or.inl h
  · obtain ⟨j, hj, rfl⟩ := nI_of h
    by_cases h2 : j < n
    · exact Or.inr (Or.inr ⟨j, h2, rfl⟩)
    · exact Or.inr (Or.inl (nI_le (by omega) hj))
theorem pk_le {x y : Int32} {A B : Prop} (a b : Nat) (f : a ≤ b → A) (g : b < a → B) (hx : x = nI a := by rfl) (hy : y = nI b := by rfl) (ha : a < 2 ^ 31 := by omega) (hb : b < 2 ^ 31 := by omega) : (x ≤ y → A) ∧ (¬ x ≤ y → B) := by
  subst hx hy
  rw [nI_leI ha hb]
  exact ⟨f, fun z => g (by omega)⟩
theorem pk_lt {x y : Int32} {A B : Prop} (a b : Nat) (f : a < b → A) (g : b ≤ a → B) (hx : x = nI a := by rfl) (hy : y = nI b := by rfl) (ha : a < 2 ^ 31 := by omega) (hb : b < 2 ^ 31 := by omega) : (x < y → A) ∧ (¬ x < y → B) := by
  subst hx hy
  rw [nI_ltI ha hb]
  exact ⟨f, fun z => g (by omega)⟩
theorem pk_eq {x y : Int32} {A B : Prop} (a b : Nat) (f : a = b → A) (g : a ≠ b → B) (hx : x = nI a := by rfl) (hy : y = nI b := by rfl) (ha : a < 2 ^ 31 := by omega) (hb : b < 2 ^ 31 := by omega) : (x = y → A) ∧ (¬ x = y → B) := by
  subst hx hy
  rw [nI_eq ha hb]
  exact ⟨f, g⟩
theorem pk_in {x : Int32} (n N : Nat) (h : n < N) (hx : x = nI n := by rfl) (hN : N < 2 ^ 31 := by omega) : vp_in x N := by
  subst hx
  exact vp_in_nI h hN
theorem pk_cl {x : Int32} (n : Nat) (hx : x = nI n := by rfl) (h : n < 2 ^ 31 := by omega) : x.toNatClampNeg = n := by
  subst hx
  exact nI_clamp h
theorem pk_tn {n : Nat} (h : n < 2 ^ 32) : (nI n).toBitVec.toNat = n := Nat.mod_eq_of_lt h
theorem pk_shl (a s : Int32) (k : Nat) (hs : (s.toBitVec.smod 32).toNat = k) : (a <<< s).toBitVec.toNat = a.toBitVec.toNat * 2 ^ k % 2 ^ 32 := by
  show (a.toBitVec <<< (s.toBitVec.smod 32).toNat).toNat = _
  rw [hs, BitVec.toNat_shiftLeft, Nat.shiftLeft_eq]
theorem pk_shlN {n : Nat} (s : Int32) (k : Nat) (hs : (s.toBitVec.smod 32).toNat = k) (h : n * 2 ^ k < 2 ^ 32) : nI n <<< s = nI (n * 2 ^ k) := by
  apply Int32.toBitVec_inj.mp
  apply BitVec.eq_of_toNat_eq
  have hn : n < 2 ^ 32 := Nat.lt_of_le_of_lt (Nat.le_mul_of_pos_right n (Nat.two_pow_pos k)) h
  rw [pk_shl _ _ k hs, pk_tn hn, pk_tn h, Nat.mod_eq_of_lt h]
/-- The first j from i on, within d steps, at which P holds; i + d if there is none -/
def wt_fs (P : Nat → Bool) : Nat → Nat → Nat
  | 0, i => i
  | d + 1, i => if P i = true then i else wt_fs P d (i + 1)
theorem wt_fs_t {P : Nat → Bool} {d i : Nat} (h : P i = true) : wt_fs P (d + 1) i = i := by
  simp [wt_fs, h]
theorem wt_fs_f {P : Nat → Bool} {d i : Nat} (h : ¬ P i = true) : wt_fs P (d + 1) i = wt_fs P d (i + 1) := by
  simp [wt_fs, h]
theorem wt_fs_spec (P : Nat → Bool) : ∀ d i, i ≤ wt_fs P d i ∧ wt_fs P d i ≤ i + d ∧ (wt_fs P d i < i + d → P (wt_fs P d i) = true) ∧ (∀ j, i ≤ j → j < wt_fs P d i → ¬ P j = true) := by
  intro d
  induction d with
  | zero =>
    intro i
    refine ⟨Nat.le_refl _, Nat.le_refl _, fun h => absurd h (Nat.lt_irrefl _), fun j a b => ?_⟩
    exact absurd (Nat.lt_of_le_of_lt a b) (Nat.lt_irrefl _)
  | succ d ih =>
    intro i
    by_cases h : P i = true
    · rw [wt_fs_t h]
      exact ⟨Nat.le_refl _, by omega, fun _ => h, fun j a b => by omega⟩
    · rw [wt_fs_f h]
      obtain ⟨a, b, c, e⟩ := ih (i + 1)
      refine ⟨by omega, by omega, fun q => c (by omega), fun j p q => ?_⟩
      by_cases z : j = i
      · subst z; exact h
      · exact e j (by omega) q
/-- a search over another property that agrees on the places looked at -/
theorem wt_fs_cg {P Q : Nat → Bool} : ∀ d i, (∀ j, i ≤ j → j < i + d → P j = Q j) → wt_fs P d i = wt_fs Q d i := by
  intro d
  induction d with
  | zero => intro i _; rfl
  | succ d ih =>
    intro i h
    have e : P i = Q i := h i (Nat.le_refl _) (by omega)
    have r := ih (i + 1) (fun j a b => h j (by omega) (by omega))
    by_cases z : P i = true
    · rw [wt_fs_t z, wt_fs_t (e ▸ z)]
    · rw [wt_fs_f z, wt_fs_f (e ▸ z), r]
/-- how many j below n have P -/
def wt_ct (P : Nat → Bool) : Nat → Nat
  | 0 => 0
  | n + 1 => wt_ct P n + (if P n = true then 1 else 0)
theorem wt_ct_t {P : Nat → Bool} {n : Nat} (h : P n = true) : wt_ct P (n + 1) = wt_ct P n + 1 := by
  simp [wt_ct, h]
theorem wt_ct_f {P : Nat → Bool} {n : Nat} (h : ¬ P n = true) : wt_ct P (n + 1) = wt_ct P n := by
  simp [wt_ct, h]
theorem wt_ct_le (P : Nat → Bool) : ∀ n, wt_ct P n ≤ n := by
  intro n
  induction n with
  | zero => exact Nat.le_refl _
  | succ n ih =>
    by_cases h : P n = true
    · rw [wt_ct_t h]; omega
    · rw [wt_ct_f h]; omega
theorem wt_ct_cg {P Q : Nat → Bool} : ∀ n, (∀ j, j < n → P j = Q j) → wt_ct P n = wt_ct Q n := by
  intro n
  induction n with
  | zero => intro _; rfl
  | succ n ih =>
    intro h
    have r := ih (fun j a => h j (by omega))
    have e : P n = Q n := h n (by omega)
    by_cases z : P n = true
    · rw [wt_ct_t z, wt_ct_t (e ▸ z), r]
    · rw [wt_ct_f z, wt_ct_f (e ▸ z), r]
theorem wt_ct_0 {P : Nat → Bool} : ∀ n, wt_ct P n = 0 ↔ ∀ j, j < n → ¬ P j = true := by
  intro n
  induction n with
  | zero => exact ⟨fun _ j h => absurd h (Nat.not_lt_zero _), fun _ => rfl⟩
  | succ n ih =>
    by_cases h : P n = true
    · rw [wt_ct_t h]
      exact ⟨fun z => by omega, fun z => absurd h (z n (by omega))⟩
    · rw [wt_ct_f h, ih]
      refine ⟨fun z j hj => ?_, fun z j hj => z j (by omega)⟩
      by_cases e : j = n
      · subst e; exact h
      · exact z j (by omega)
theorem wt_ct_all {P : Nat → Bool} : ∀ n, wt_ct P n = n ↔ ∀ j, j < n → P j = true := by
  intro n
  induction n with
  | zero => exact ⟨fun _ j h => absurd h (Nat.not_lt_zero _), fun _ => rfl⟩
  | succ n ih =>
    by_cases h : P n = true
    · rw [wt_ct_t h]
      refine ⟨fun z j hj => ?_, fun z => ?_⟩
      · by_cases e : j = n
        · subst e; exact h
        · exact ih.mp (by omega) j (by omega)
      · have := ih.mpr (fun j hj => z j (by omega)); omega
    · rw [wt_ct_f h]
      have b := wt_ct_le P n
      exact ⟨fun z => by omega, fun z => absurd (z n (by omega)) h⟩
theorem wt_ct_cut (P Q : Nat → Bool) : ∀ n, wt_ct P n = wt_ct (fun j => P j && Q j) n + wt_ct (fun j => P j && !Q j) n := by
  intro n
  induction n with
  | zero => rfl
  | succ n ih =>
    simp only [wt_ct]
    rw [ih]
    by_cases a : P n = true <;> by_cases b : Q n = true <;> simp [a, b] <;> omega
/-- one place f below n that had not P and may have Q; all others alike -/
theorem wt_ct_one {P Q : Nat → Bool} {f : Nat} (hf : ¬ P f = true) : ∀ n, f < n → (∀ j, j < n → j ≠ f → Q j = P j) → wt_ct Q n = wt_ct P n + (if Q f = true then 1 else 0) := by
  intro n
  induction n with
  | zero => intro h; exact absurd h (Nat.not_lt_zero _)
  | succ n ih =>
    intro h e
    by_cases z : f = n
    · subst z
      have r : wt_ct Q f = wt_ct P f := wt_ct_cg f (fun j hj => e j (by omega) (by omega))
      rw [wt_ct_f hf, ← r]
      rfl
    · have r := ih (by omega) (fun j hj hn => e j (by omega) hn)
      have q : Q n = P n := e n (by omega) (fun y => z y.symm)
      by_cases w : P n = true
      · rw [wt_ct_t w, wt_ct_t (q.trans w), r]; omega
      · rw [wt_ct_f w, wt_ct_f (fun y => w (q.symm.trans y)), r]
/-- THE TREE: X's records of seven ints (the path last) hold what Y's paths and values hold -/
def wt_T (t p w : Nat → Int32) : Prop := ∀ k, k < 21 → t (7 * k + 6) = p k ∧ ∀ j, j < 6 → t (7 * k + j) = w (6 * k + j)
theorem wt_T_p {t p w : Nat → Int32} (h : wt_T t p w) {k : Nat} (x : Int32) : wt_T (upd t (7 * k + 6) x) (upd p k x) w := by
  intro i hi
  refine ⟨?_, fun j hj => ?_⟩
  · by_cases e : i = k
    · subst e; simp [upd]
    · rw [pk_un (show 7 * i + 6 ≠ 7 * k + 6 by omega), pk_un e]
      exact (h i hi).1
  · have : 7 * i + j ≠ 7 * k + 6 := by omega
    simp only [upd, this, if_false]
    exact (h i hi).2 j hj
theorem wt_T_w {t p w : Nat → Int32} (h : wt_T t p w) {k j : Nat} (hj : j < 6) (x : Int32) : wt_T (upd t (7 * k + j) x) p (upd w (6 * k + j) x) := by
  intro i hi
  refine ⟨?_, fun l hl => ?_⟩
  · have : 7 * i + 6 ≠ 7 * k + j := by omega
    simp only [upd, this, if_false]
    exact (h i hi).1
  · by_cases e : i = k ∧ l = j
    · obtain ⟨e1, e2⟩ := e; subst e1; subst e2; simp [upd]
    · have a : 7 * i + l ≠ 7 * k + j := by omega
      have b : 6 * i + l ≠ 6 * k + j := by omega
      simp only [upd, a, b, if_false]
      exact (h i hi).2 l hl
/-- THE WATCHES as a multiset: how many of the first n (session, kind, path) have P -/
def wt_W (s k p : Nat → Int32) (n : Nat) (P : Int32 → Int32 → Int32 → Bool) : Nat := wt_ct (fun i => P (s i) (k i) (p i)) n
/-- X's: a place whose session is -1 is free -/
def wt_X (s k p : Nat → Int32) (P : Int32 → Int32 → Int32 → Bool) : Nat := wt_W s k p 16 (fun a b c => !decide (a = -1) && P a b c)
theorem wt_nn {n : Nat} (h : n < 2 ^ 31) : ¬ nI n = -1 := by
  intro e
  have q := nI_pos' h
  rw [e] at q
  exact absurd q (by decide)
theorem wt_m1 : (-1 : Int32) < 0 := by decide
theorem wt_ct_20 {P : Nat → Bool} (h0 : ¬ P 0 = true) : wt_ct (fun k => decide (k = 0) || P k) 21 = wt_ct P 21 + 1 := by
  have q := wt_ct_one (P := P) (Q := fun k => decide (k = 0) || P k) (f := 0) h0 21 (by omega) (fun j _ hn => by simp [hn])
  simpa using q
theorem wt_ct_le20 {P : Nat → Bool} (h0 : ¬ P 0 = true) : wt_ct P 21 ≤ 20 := by
  have a := wt_ct_20 h0
  have b := wt_ct_le (fun k => decide (k = 0) || P k) 21
  omega
theorem wt_ct_full {P : Nat → Bool} (h0 : ¬ P 0 = true) : wt_ct P 21 = 20 ↔ ∀ k, 1 ≤ k → k < 21 → P k = true := by
  have a := wt_ct_20 h0
  have b := wt_ct_all (P := fun k => decide (k = 0) || P k) 21
  constructor
  · intro z k h1 h2
    have c := b.mp (by omega) k h2
    have d : ¬ k = 0 := by omega
    simpa [d] using c
  · intro z
    have c := b.mpr (fun k hk => by
      by_cases d : k = 0
      · simp [d]
      · simp [d, z k (by omega) hk])
    omega
/-- a place as X (m = 7) and Y (m = 1) answer it -/
def wt_r (m k : Nat) : Int32 := if k < 21 then nI (m * k) else -1
theorem wt_r_t {m k : Nat} (h : k < 21) : wt_r m k = nI (m * k) := if_pos h
theorem wt_r_f {m k : Nat} (h : ¬ k < 21) : wt_r m k = -1 := if_neg h
/-- find -/
def wt_fd (p : Nat → Int32) (x : Int32) : Nat := if x < 0 then 21 else wt_fs (fun k => decide (p k = x)) 21 0
theorem wt_fd_neg {p : Nat → Int32} {x : Int32} (h : x < 0) : wt_fd p x = 21 := if_pos h
theorem wt_fd_pos {p : Nat → Int32} {x : Int32} (h : ¬ x < 0) : wt_fd p x = wt_fs (fun k => decide (p k = x)) 21 0 := if_neg h
theorem wt_fd_at {p : Nat → Int32} {x : Int32} (h : wt_fd p x < 21) : p (wt_fd p x) = x ∧ ¬ x < 0 := by
  by_cases z : x < 0
  · rw [wt_fd_neg z] at h; omega
  · rw [wt_fd_pos z] at h ⊢
    obtain ⟨_, _, c, _⟩ := wt_fs_spec (fun k => decide (p k = x)) 21 0
    exact ⟨of_decide_eq_true (c (by omega)), z⟩
theorem wt_fd_none {p : Nat → Int32} {x : Int32} (h : ¬ wt_fd p x < 21) (hx : ¬ x < 0) : ∀ k, k < 21 → ¬ p k = x := by
  rw [wt_fd_pos hx] at h
  obtain ⟨_, b, _, e⟩ := wt_fs_spec (fun k => decide (p k = x)) 21 0
  intro k hk z
  exact e k (by omega) (by omega) (decide_eq_true z)
theorem wt_fd_some {p : Nat → Int32} {x : Int32} {k : Nat} (hk : k < 21) (h : p k = x) (hx : ¬ x < 0) : wt_fd p x < 21 := by
  by_cases z : wt_fd p x < 21
  · exact z
  · exact absurd h (wt_fd_none z hx k hk)
theorem wt_fd_cg {p q : Nat → Int32} {x : Int32} (h : ∀ k, k < 21 → (p k = x ↔ q k = x)) : wt_fd p x = wt_fd q x := by
  by_cases z : x < 0
  · rw [wt_fd_neg z, wt_fd_neg z]
  · rw [wt_fd_pos z, wt_fd_pos z]
    exact wt_fs_cg 21 0 (fun j _ hj => decide_eq_decide.mpr (h j (by omega)))
/-- isPath -/
def wt_ok : Nat → Nat → Bool
  | 0, x => decide (x = 0)
  | d + 1, x => if x = 0 then true else if x % 101 = 0 then false else wt_ok d (x / 101)
theorem wt_ok_0 (d : Nat) : wt_ok d 0 = true := by
  cases d with
  | zero => rfl
  | succ d => rfl
theorem wt_ok_f {d x : Nat} (h : ¬ x = 0) (h2 : x % 101 = 0) : wt_ok (d + 1) x = false := by
  simp [wt_ok, h, h2]
theorem wt_ok_s {d x : Nat} (h : ¬ x = 0) (h2 : ¬ x % 101 = 0) : wt_ok (d + 1) x = wt_ok d (x / 101) := by
  simp [wt_ok, h, h2]
theorem wt_ok_big : ∀ d x, 101 ^ d ≤ x → wt_ok d x = false := by
  intro d
  induction d with
  | zero =>
    intro x h
    have : ¬ x = 0 := by simp at h; omega
    simp [wt_ok, this]
  | succ d ih =>
    intro x h
    have e : 101 ^ (d + 1) = 101 ^ d * 101 := Nat.pow_succ _ _
    have p0 : 0 < 101 ^ d := Nat.pow_pos (by decide)
    have h0 : ¬ x = 0 := by omega
    by_cases z : x % 101 = 0
    · exact wt_ok_f h0 z
    · rw [wt_ok_s h0 z]
      exact ih _ ((Nat.le_div_iff_mul_le (by decide)).mpr (by omega))
def wt_ip (x : Int32) : Bool := !decide (x < 0) && wt_ok 3 x.toNatClampNeg
def wt_b (b : Bool) : Int32 := if b = true then 1 else 0
theorem wt_ip_neg {x : Int32} (h : x < 0) : wt_ip x = false := by simp [wt_ip, h]
theorem wt_ip_nI {a : Nat} (h : a < 2 ^ 31) : wt_ip (nI a) = wt_ok 3 a := by
  simp [wt_ip, nI_pos h, nI_clamp h]
theorem wt_ip_t {x : Int32} (h : wt_ip x = true) : ∃ a, a ≤ 1030300 ∧ x = nI a := by
  by_cases z : x < 0
  · rw [wt_ip_neg z] at h; exact absurd h (by decide)
  · obtain ⟨a, ha, rfl⟩ := nI_of z
    refine ⟨a, ?_, rfl⟩
    rw [wt_ip_nI ha] at h
    by_cases q : a ≤ 1030300
    · exact q
    · have e := wt_ok_big 3 a (by have : 101 ^ 3 = 1030301 := by decide
                                  omega)
      rw [e] at h
      exact absurd h (by decide)
/-- the greatest node that s owns, by the first n places; 21: none -/
def wt_ow (p w : Nat → Int32) (s : Int32) : Nat → Nat
  | 0 => 21
  | n + 1 => if w (6 * n + 5) = s ∧ 0 < p n ∧ (wt_ow p w s n = 21 ∨ p (wt_ow p w s n) < p n) then n else wt_ow p w s n
theorem wt_ow_t {p w : Nat → Int32} {s : Int32} {n : Nat} (h : w (6 * n + 5) = s ∧ 0 < p n ∧ (wt_ow p w s n = 21 ∨ p (wt_ow p w s n) < p n)) : wt_ow p w s (n + 1) = n := if_pos h
theorem wt_ow_f {p w : Nat → Int32} {s : Int32} {n : Nat} (h : ¬ (w (6 * n + 5) = s ∧ 0 < p n ∧ (wt_ow p w s n = 21 ∨ p (wt_ow p w s n) < p n))) : wt_ow p w s (n + 1) = wt_ow p w s n := if_neg h
theorem wt_ow_spec (p w : Nat → Int32) (s : Int32) : ∀ n, n ≤ 21 → (wt_ow p w s n = 21 ∧ ∀ j, j < n → ¬ (w (6 * j + 5) = s ∧ 0 < p j)) ∨ (wt_ow p w s n < n ∧ w (6 * wt_ow p w s n + 5) = s ∧ 0 < p (wt_ow p w s n)) := by
  intro n
  induction n with
  | zero => intro _; exact Or.inl ⟨rfl, fun j hj => absurd hj (Nat.not_lt_zero _)⟩
  | succ n ih =>
    intro hn
    by_cases c : w (6 * n + 5) = s ∧ 0 < p n ∧ (wt_ow p w s n = 21 ∨ p (wt_ow p w s n) < p n)
    · rw [wt_ow_t c]
      exact Or.inr ⟨by omega, c.1, c.2.1⟩
    · rw [wt_ow_f c]
      rcases ih (by omega) with ⟨e, q⟩ | ⟨e, q⟩
      · refine Or.inl ⟨e, fun j hj z => ?_⟩
        by_cases y : j = n
        · subst y; exact c ⟨z.1, z.2, Or.inl e⟩
        · exact q j (by omega) z
      · exact Or.inr ⟨by omega, q⟩
/-- how many nodes s owns -/
def wt_oc (p w : Nat → Int32) (s : Int32) : Nat := wt_ct (fun k => decide (w (6 * k + 5) = s ∧ 0 < p k)) 21
/-- the versions are bounded -/
def wt_V (B : Nat) (w : Nat → Int32) : Prop := ∀ k, k < 21 → ∀ j, j = 1 ∨ j = 2 → ∃ a, a ≤ B ∧ w (6 * k + j) = nI a
theorem wt_V_up {B C : Nat} {w : Nat → Int32} (h : wt_V B w) (hb : B ≤ C) : wt_V C w := fun k hk j hj =>
  let ⟨a, ha, e⟩ := h k hk j hj
  ⟨a, Nat.le_trans ha hb, e⟩
theorem wt_V_b {B : Nat} {w : Nat → Int32} {m : Nat} {x : Int32} (h : wt_V B w) (hx : ∃ a, a ≤ B ∧ x = nI a) : wt_V B (upd w m x) := by
  intro k hk j hj
  by_cases e : 6 * k + j = m
  · obtain ⟨a, ha, ea⟩ := hx
    exact ⟨a, ha, by rw [e, pk_us, ea]⟩
  · rw [pk_un e]; exact h k hk j hj
theorem wt_V_n {B : Nat} {w : Nat → Int32} {i l : Nat} {x : Int32} (h : wt_V B w) (hl : l < 6) (h1 : ¬ l = 1) (h2 : ¬ l = 2) : wt_V B (upd w (6 * i + l) x) := by
  intro k hk j hj
  have e : 6 * k + j ≠ 6 * i + l := by omega
  rw [pk_un e]; exact h k hk j hj
theorem wt_V_i {B : Nat} {w : Nat → Int32} {i l : Nat} (h : wt_V B w) (hi : i < 21) (hl : l = 1 ∨ l = 2) : wt_V (B + 1) (upd w (6 * i + l) (w (6 * i + l) + 1)) := by
  obtain ⟨a, ha, e⟩ := h i hi l hl
  exact wt_V_b (wt_V_up h (by omega)) ⟨a + 1, by omega, by rw [e, nI_1]⟩
/-- the tree stands: the root; each other node has a parent that no session owns -/
def wt_I (p w : Nat → Int32) : Prop := p 0 = 0 ∧ w 5 = -1 ∧ (∀ k, 1 ≤ k → k < 21 → p k = -1 ∨ ∃ a, 1 ≤ a ∧ a ≤ 1030300 ∧ p k = nI a) ∧ (∀ k, 1 ≤ k → k < 21 → ¬ p k = -1 → ∃ j, j < 21 ∧ p j = p k / 101 ∧ w (6 * j + 5) = -1)
theorem wt_101 : (101 : Int32) = nI 101 := rfl
theorem wt_d101 {a : Nat} (h : a < 2 ^ 31) : nI a / 101 = nI (a / 101) := by
  rw [wt_101, pk_div h (by decide) (by decide)]
theorem wt_I_w {p w w' : Nat → Int32} (h : wt_I p w) (e : ∀ j, j < 21 → w' (6 * j + 5) = w (6 * j + 5)) : wt_I p w' := by
  obtain ⟨h0, h5, h1, h2⟩ := h
  refine ⟨h0, (e 0 (by omega)).trans h5, h1, fun k a b c => ?_⟩
  obtain ⟨j, hj, q, o⟩ := h2 k a b c
  exact ⟨j, hj, q, (e j hj).trans o⟩
theorem wt_I_any {p w : Nat → Int32} (h : wt_I p w) {k : Nat} (hk : k < 21) : p k = -1 ∨ ∃ a, a ≤ 1030300 ∧ p k = nI a := by
  by_cases z : k = 0
  · subst z; exact Or.inr ⟨0, by omega, h.1⟩
  · rcases h.2.2.1 k (by omega) hk with q | ⟨a, _, b, c⟩
    · exact Or.inl q
    · exact Or.inr ⟨a, b, c⟩
theorem wt_I_ge {p w : Nat → Int32} (h : wt_I p w) {k : Nat} (h1 : 1 ≤ k) (hk : k < 21) : 0 ≤ p k ↔ 0 < p k := by
  rcases h.2.2.1 k h1 hk with q | ⟨a, b, c, d⟩
  · rw [q]; decide
  · rw [d]
    have x : (0 : Int32) ≤ nI a := nI_pos' (by omega)
    have y : (0 : Int32) < nI a := nI_lt (a := 0) (b := a) (by omega) (by omega)
    exact ⟨fun _ => y, fun _ => x⟩
theorem wt_I_fr {p w : Nat → Int32} (h : wt_I p w) {k : Nat} (hk : k < 21) : p k = -1 ↔ ¬ 0 ≤ p k := by
  rcases wt_I_any h hk with q | ⟨a, b, c⟩
  · rw [q]; decide
  · rw [c]
    exact ⟨fun z => absurd z (wt_nn (by omega)), fun z => absurd (nI_pos' (by omega)) z⟩
theorem wt_I_0 {p w : Nat → Int32} (h : wt_I p w) : ¬ 0 < p 0 := by rw [h.1]; decide
/-- a new node in a free place -/
theorem wt_I_mk {p w w' : Nat → Int32} {f q a : Nat} {o : Int32} (h : wt_I p w) (hf : f < 21) (f1 : p f = -1) (ha : 1 ≤ a) (ha2 : a ≤ 1030300) (hq : q < 21) (q1 : p q = nI (a / 101)) (q2 : w (6 * q + 5) = -1) (e : ∀ j, j < 21 → w' (6 * j + 5) = if j = f then o else w (6 * j + 5)) : wt_I (upd p f (nI a)) w' := by
  have f0 : ¬ f = 0 := by
    intro z; subst z; rw [h.1] at f1; exact absurd f1 (by decide)
  have hqf : ¬ q = f := by
    intro z; subst z; rw [q1] at f1; exact wt_nn (by omega) f1
  obtain ⟨h0, h5, h1, h2⟩ := h
  refine ⟨?_, ?_, fun k k1 k2 => ?_, fun k k1 k2 k3 => ?_⟩
  · rw [pk_un (fun z => f0 z.symm)]; exact h0
  · have := e 0 (by omega)
    rw [if_neg (fun z => f0 z.symm)] at this
    exact this.trans h5
  · by_cases z : k = f
    · subst z; rw [pk_us]; exact Or.inr ⟨a, ha, ha2, rfl⟩
    · rw [pk_un z]; exact h1 k k1 k2
  · by_cases z : k = f
    · subst z
      refine ⟨q, hq, ?_, ?_⟩
      · rw [pk_un hqf, pk_us, q1, wt_d101 (by omega)]
      · rw [e q hq, if_neg hqf]; exact q2
    · rw [pk_un z] at k3 ⊢
      obtain ⟨j, hj, x, y⟩ := h2 k k1 k2 k3
      have hjf : ¬ j = f := by
        intro y2
        rw [y2, f1] at x
        rcases h1 k k1 k2 with c | ⟨b, b1, b2, b3⟩
        · exact k3 c
        · rw [b3, wt_d101 (by omega)] at x
          exact wt_nn (by omega) x.symm
      refine ⟨j, hj, ?_, ?_⟩
      · rw [pk_un hjf]; exact x
      · rw [e j hj, if_neg hjf]; exact y
/-- a node goes: no other node has it as its parent, or a session owns it -/
theorem wt_I_tk {p w w' : Nat → Int32} {f : Nat} (h : wt_I p w) (f0 : 1 ≤ f) (hn : ¬ w (6 * f + 5) = -1 ∨ ∀ j, j < 21 → 0 < p j → ¬ p j / 101 = p f) (e : ∀ j, j < 21 → w' (6 * j + 5) = w (6 * j + 5)) : wt_I (upd p f (-1)) w' := by
  obtain ⟨h0, h5, h1, h2⟩ := h
  refine ⟨?_, (e 0 (by omega)).trans h5, fun k k1 k2 => ?_, fun k k1 k2 k3 => ?_⟩
  · rw [pk_un (by omega)]; exact h0
  · by_cases z : k = f
    · subst z; rw [pk_us]; exact Or.inl rfl
    · rw [pk_un z]; exact h1 k k1 k2
  · by_cases z : k = f
    · subst z; rw [pk_us] at k3; exact absurd rfl k3
    · rw [pk_un z] at k3 ⊢
      obtain ⟨j, hj, x, y⟩ := h2 k k1 k2 k3
      have hjf : ¬ j = f := by
        intro y2
        subst y2
        rcases hn with c | c
        · exact c y
        · refine c k k2 ?_ x.symm
          rcases h1 k k1 k2 with g | ⟨b, b1, b2, b3⟩
          · exact absurd g k3
          · rw [b3]; exact nI_lt (a := 0) (b := b) (by omega) (by omega)
      refine ⟨j, hj, ?_, ?_⟩
      · rw [pk_un hjf]; exact x
      · rw [e j hj]; exact y
/-- the parent of a node that goes is found, before and after -/
theorem wt_I_pa {p w : Nat → Int32} {f : Nat} (h : wt_I p w) (f0 : 1 ≤ f) (hf : f < 21) (hp : ¬ p f = -1) : wt_fd p (p f / 101) < 21 ∧ wt_fd (upd p f (-1)) (p f / 101) = wt_fd p (p f / 101) ∧ ¬ wt_fd p (p f / 101) = f ∧ ∃ a, 1 ≤ a ∧ a ≤ 1030300 ∧ p f = nI a := by
  obtain ⟨j, hj, x, _⟩ := h.2.2.2 f f0 hf hp
  rcases h.2.2.1 f f0 hf with c | ⟨a, a1, a2, a3⟩
  · exact absurd c hp
  · have e : p f / 101 = nI (a / 101) := by rw [a3, wt_d101 (by omega)]
    have ng : ¬ p f / 101 < 0 := by rw [e]; exact nI_pos (by omega)
    have ne : ¬ p f = p f / 101 := by
      rw [e, a3]
      intro z
      have := (nI_eq (by omega) (by omega)).mp z
      omega
    have lt := wt_fd_some hj x ng
    refine ⟨lt, wt_fd_cg (fun k hk => ?_), fun z => ?_, a, a1, a2, a3⟩
    · by_cases y : k = f
      · subst y
        rw [pk_us]
        exact ⟨fun z => absurd (z ▸ wt_m1 : p k / 101 < 0) ng, fun z => absurd z ne⟩
      · rw [pk_un y]
    · have := (wt_fd_at lt).1
      rw [z] at this
      exact ne this
