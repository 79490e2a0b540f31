/-! the program: arity, ends -/
def am_ar (k : Int32) : Nat := if k = 0 then 0 else if k = 1 then 0 else if k = 9 then 0 else if k = 12 then 1 else if k = 14 then 1 else if k = 7 then 3 else 2
theorem am_ar_le (k : Int32) : am_ar k ≤ 3 := by
  unfold am_ar
  repeat' split
  all_goals omega
/-- where a scan ends that begins at i with q expressions wanted and d tokens left -/
def am_sE (tk : Nat → Int32) : Nat → Nat → Nat → Nat
  | 0, _, i => i
  | _ + 1, 0, i => i
  | d + 1, q + 1, i => am_sE tk d (q + am_ar (tk i)) (i + 1)
theorem am_sE_z (tk : Nat → Int32) (d i : Nat) : am_sE tk d 0 i = i := by cases d <;> rfl
theorem am_sE_0 (tk : Nat → Int32) (q i : Nat) : am_sE tk 0 q i = i := by cases q <;> rfl
theorem am_sE_s (tk : Nat → Int32) (d q i : Nat) : am_sE tk (d + 1) (q + 1) i = am_sE tk d (q + am_ar (tk i)) (i + 1) := rfl
theorem am_sE_le (tk : Nat → Int32) : ∀ d q i, am_sE tk d q i ≤ i + d := by
  intro d
  induction d with
  | zero => intro q i; rw [am_sE_0]; omega
  | succ d ih =>
    intro q i
    cases q with
    | zero => rw [am_sE_z]; omega
    | succ q =>
      rw [am_sE_s]
      have := ih (q + am_ar (tk i)) (i + 1)
      omega
theorem am_sE_ge (tk : Nat → Int32) : ∀ d q i, i ≤ am_sE tk d q i := by
  intro d
  induction d with
  | zero => intro q i; rw [am_sE_0]; omega
  | succ d ih =>
    intro q i
    cases q with
    | zero => rw [am_sE_z]; omega
    | succ q =>
      rw [am_sE_s]
      have := ih (q + am_ar (tk i)) (i + 1)
      omega
theorem am_sE_add (tk : Nat → Int32) : ∀ d i x y, am_sE tk d (x + y) i = am_sE tk (i + d - am_sE tk d x i) y (am_sE tk d x i) := by
  intro d
  induction d with
  | zero =>
    intro i x y
    rw [am_sE_0, am_sE_0, Nat.add_zero, Nat.sub_self, am_sE_0]
  | succ d ih =>
    intro i x y
    cases x with
    | zero =>
      rw [am_sE_z, Nat.zero_add, Nat.add_sub_cancel_left]
    | succ x =>
      have e : x + 1 + y = (x + y) + 1 := by omega
      have e2 : x + y + am_ar (tk i) = (x + am_ar (tk i)) + y := by omega
      have e3 : i + 1 + d = i + (d + 1) := by omega
      rw [e, am_sE_s, am_sE_s, e2, ih (i + 1) (x + am_ar (tk i)) y, e3]
/-- where the expression at p ends -/
def am_eN (tk : Nat → Int32) (n p : Nat) : Nat := am_sE tk (n - p) 1 p
theorem am_eN_le {tk : Nat → Int32} {n p : Nat} (h : p ≤ n) : am_eN tk n p ≤ n := by
  have := am_sE_le tk (n - p) 1 p
  unfold am_eN
  omega
theorem am_eN_ge (tk : Nat → Int32) (n p : Nat) : p ≤ am_eN tk n p := am_sE_ge tk (n - p) 1 p
theorem am_eN_n (tk : Nat → Int32) (n : Nat) : am_eN tk n n = n := by
  unfold am_eN
  rw [Nat.sub_self, am_sE_0]
def am_it (tk : Nat → Int32) (n : Nat) : Nat → Nat → Nat
  | 0, i => i
  | q + 1, i => am_it tk n q (am_eN tk n i)
theorem am_sE_it (tk : Nat → Int32) (n : Nat) : ∀ q i, i ≤ n → am_sE tk (n - i) q i = am_it tk n q i := by
  intro q
  induction q with
  | zero => intro i _; rw [am_sE_z]; rfl
  | succ q ih =>
    intro i hi
    have e : q + 1 = 1 + q := by omega
    have e2 : i + (n - i) = n := by omega
    have h := am_sE_add tk (n - i) i 1 q
    rw [e2] at h
    rw [e, h]
    have h2 := ih (am_eN tk n i) (am_eN_le hi)
    have e3 : 1 + q = q + 1 := by omega
    rw [e3]
    exact h2
theorem am_eN_s {tk : Nat → Int32} {n p : Nat} (h : p < n) : am_eN tk n p = am_it tk n (am_ar (tk p)) (p + 1) := by
  have e : n - p = (n - (p + 1)) + 1 := by omega
  have h2 : am_eN tk n p = am_sE tk (n - (p + 1) + 1) (0 + 1) p := by
    unfold am_eN
    rw [e]
  rw [h2, am_sE_s, Nat.zero_add, am_sE_it tk n _ _ h]
theorem am_eN_gt {tk : Nat → Int32} {n p : Nat} (h : p < n) : p < am_eN tk n p := by
  have e : n - p = (n - (p + 1)) + 1 := by omega
  have h2 : am_eN tk n p = am_sE tk (n - (p + 1) + 1) (0 + 1) p := by
    unfold am_eN
    rw [e]
  rw [h2, am_sE_s]
  have := am_sE_ge tk (n - (p + 1)) (0 + am_ar (tk p)) (p + 1)
  omega
theorem am_eN_0 {tk : Nat → Int32} {n p : Nat} (h : p < n) (ha : am_ar (tk p) = 0) : am_eN tk n p = p + 1 := by rw [am_eN_s h, ha]; rfl
theorem am_eN_1 {tk : Nat → Int32} {n p : Nat} (h : p < n) (ha : am_ar (tk p) = 1) : am_eN tk n p = am_eN tk n (p + 1) := by rw [am_eN_s h, ha]; rfl
theorem am_eN_2 {tk : Nat → Int32} {n p : Nat} (h : p < n) (ha : am_ar (tk p) = 2) : am_eN tk n p = am_eN tk n (am_eN tk n (p + 1)) := by rw [am_eN_s h, ha]; rfl
theorem am_eN_3 {tk : Nat → Int32} {n p : Nat} (h : p < n) (ha : am_ar (tk p) = 3) : am_eN tk n p = am_eN tk n (am_eN tk n (am_eN tk n (p + 1))) := by rw [am_eN_s h, ha]; rfl
/-! choice vectors: bits, their number with the first bit on top -/
def am_b1 : Bool → Nat
  | true => 1
  | false => 0
theorem am_b1_le (x : Bool) : am_b1 x ≤ 1 := by cases x <;> decide
def am_nm (b : Nat → Bool) : Nat → Nat
  | 0 => 0
  | L + 1 => 2 * am_nm b L + am_b1 (b L)
theorem am_nm_s (b : Nat → Bool) (L : Nat) : am_nm b (L + 1) = 2 * am_nm b L + am_b1 (b L) := rfl
theorem am_nm_lt (b : Nat → Bool) : ∀ L, am_nm b L < 2 ^ L := by
  intro L
  induction L with
  | zero => exact Nat.one_pos
  | succ L ih =>
    rw [am_nm_s, Nat.pow_succ]
    have := am_b1_le (b L)
    omega
theorem am_nm_le {b : Nat → Bool} {L : Nat} (h : L ≤ 6) : am_nm b L < 64 := by
  have h1 := am_nm_lt b L
  have h2 : 2 ^ L ≤ 2 ^ 6 := Nat.pow_le_pow_right (by decide) h
  have h3 : 2 ^ 6 = 64 := by decide
  omega
theorem am_nm_sh (b : Nat → Bool) (j : Nat) : ∀ d, am_nm b (j + d) / 2 ^ d = am_nm b j := by
  intro d
  induction d with
  | zero => rw [Nat.pow_zero, Nat.div_one, Nat.add_zero]
  | succ d ih =>
    have e : j + (d + 1) = (j + d) + 1 := by omega
    have h := am_b1_le (b (j + d))
    have h2 : (2 * am_nm b (j + d) + am_b1 (b (j + d))) / 2 = am_nm b (j + d) := by omega
    rw [e, am_nm_s, Nat.pow_succ', ← Nat.div_div_eq_div_mul, h2, ih]
theorem am_nm_odd (b : Nat → Bool) (j : Nat) : am_nm b (j + 1) % 2 = am_b1 (b j) := by
  rw [am_nm_s]
  have := am_b1_le (b j)
  omega
theorem am_nm_half (b : Nat → Bool) (j : Nat) : am_nm b (j + 1) / 2 = am_nm b j := by
  rw [am_nm_s]
  have := am_b1_le (b j)
  omega
theorem am_nm_congr {b c : Nat → Bool} : ∀ L, (∀ i, i < L → b i = c i) → am_nm b L = am_nm c L := by
  intro L
  induction L with
  | zero => intro _; rfl
  | succ L ih =>
    intro h
    rw [am_nm_s, am_nm_s, ih (fun i hi => h i (by omega)), h L (by omega)]
/-- the last 0 below k, counted from 1; 0 if there is none -/
def am_la (b : Nat → Bool) : Nat → Nat
  | 0 => 0
  | k + 1 => match b k with
    | true => am_la b k
    | false => k + 1
theorem am_la_t {b : Nat → Bool} {k : Nat} (h : b k = true) : am_la b (k + 1) = am_la b k := by
  show (match b k with
    | true => am_la b k
    | false => k + 1) = am_la b k
  rw [h]
theorem am_la_f {b : Nat → Bool} {k : Nat} (h : b k = false) : am_la b (k + 1) = k + 1 := by
  show (match b k with
    | true => am_la b k
    | false => k + 1) = k + 1
  rw [h]
theorem am_la_le (b : Nat → Bool) : ∀ k, am_la b k ≤ k := by
  intro k
  induction k with
  | zero => exact Nat.le_refl 0
  | succ k ih =>
    cases h : b k with
    | true => rw [am_la_t h]; omega
    | false => rw [am_la_f h]; omega
theorem am_la_q {b : Nat → Bool} {q : Nat} : ∀ k, am_la b k = q + 1 → q < k ∧ b q = false := by
  intro k
  induction k with
  | zero => intro h; exact absurd h (by show ¬ (0 = q + 1); omega)
  | succ k ih =>
    intro h
    cases hb : b k with
    | true =>
      rw [am_la_t hb] at h
      exact ⟨by have := (ih h).1; omega, (ih h).2⟩
    | false =>
      rw [am_la_f hb] at h
      have e : k = q := by omega
      rw [← e]
      exact ⟨by omega, hb⟩
/-- the bits below q, then a 1, then 0s -/
def am_sb (b : Nat → Bool) (q : Nat) : Nat → Bool := fun j => if j < q then b j else decide (j = q)
theorem am_sb_lo {b : Nat → Bool} {q j : Nat} (h : j < q) : am_sb b q j = b j := if_pos h
theorem am_sb_at (b : Nat → Bool) (q : Nat) : am_sb b q q = true := by
  unfold am_sb
  rw [if_neg (Nat.lt_irrefl q)]
  exact decide_eq_true rfl
theorem am_sb_hi {b : Nat → Bool} {q j : Nat} (h : q < j) : am_sb b q j = false := by
  unfold am_sb
  rw [if_neg (by omega)]
  exact decide_eq_false (by omega)
theorem am_nm_sb (b : Nat → Bool) (q : Nat) : am_nm (am_sb b q) (q + 1) = 2 * am_nm b q + 1 := by
  rw [am_nm_s, am_sb_at, am_nm_congr q (fun i hi => am_sb_lo (b := b) hi)]
  rfl
theorem am_nm_grow {b c : Nat → Bool} {q : Nat} (h : ∀ i, i < q → b i = c i) (hb : b q = false) (hc : c q = true) : ∀ d, am_nm b (q + 1 + d) < am_nm c (q + 1 + d) := by
  intro d
  induction d with
  | zero =>
    rw [Nat.add_zero, am_nm_s, am_nm_s, am_nm_congr q h, hb, hc]
    show 2 * am_nm c q + 0 < 2 * am_nm c q + 1
    omega
  | succ d ih =>
    have e : q + 1 + (d + 1) = (q + 1 + d) + 1 := by omega
    rw [e, am_nm_s, am_nm_s]
    have h1 := am_b1_le (b (q + 1 + d))
    omega
