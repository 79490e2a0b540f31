section
/-! the program: arity, ends -/
def am_ar (k : Int32) : Nat := if k = 0 then 0 else if k = 1 then 0 else if k = 9 then 0 else if k = 12 then 1 else if k = 14 then 1 else if k = 7 then 3 else 2
theorem am_ar_le (k : Int32) : am_ar k ≤ 3 := by
  unfold am_ar
  repeat' split
  all_goals omega
/-- where a scan ends that begins at i with q expressions wanted and d tokens left -/
def am_sE (tk : Nat → Int32) : Nat → Nat → Nat → Nat
  | 0, _, i => i
  | _ + 1, 0, i => i
  | d + 1, q + 1, i => am_sE tk d (q + am_ar (tk i)) (i + 1)
theorem am_sE_z (tk : Nat → Int32) (d i : Nat) : am_sE tk d 0 i = i := by cases d <;> rfl
theorem am_sE_0 (tk : Nat → Int32) (q i : Nat) : am_sE tk 0 q i = i := by cases q <;> rfl
theorem am_sE_s (tk : Nat → Int32) (d q i : Nat) : am_sE tk (d + 1) (q + 1) i = am_sE tk d (q + am_ar (tk i)) (i + 1) := rfl
theorem am_sE_le (tk : Nat → Int32) : ∀ d q i, am_sE tk d q i ≤ i + d := by
  intro d
  induction d with
  | zero => intro q i; rw [am_sE_0]; omega
  | succ d ih =>
    intro q i
    cases q with
    | zero => rw [am_sE_z]; omega
    | succ q =>
      rw [am_sE_s]
      have := ih (q + am_ar (tk i)) (i + 1)
      omega
theorem am_sE_ge (tk : Nat → Int32) : ∀ d q i, i ≤ am_sE tk d q i := by
  intro d
  induction d with
  | zero => intro q i; rw [am_sE_0]; omega
  | succ d ih =>
    intro q i
    cases q with
    | zero => rw [am_sE_z]; omega
    | succ q =>
      rw [am_sE_s]
      have := ih (q + am_ar (tk i)) (i + 1)
      omega
theorem am_sE_add (tk : Nat → Int32) : ∀ d i x y, am_sE tk d (x + y) i = am_sE tk (i + d - am_sE tk d x i) y (am_sE tk d x i) := by
  intro d
  induction d with
  | zero =>
    intro i x y
    rw [am_sE_0, am_sE_0, Nat.add_zero, Nat.sub_self, am_sE_0]
  | succ d ih =>
    intro i x y
    cases x with
    | zero =>
      rw [am_sE_z, Nat.zero_add, Nat.add_sub_cancel_left]
    | succ x =>
      have e : x + 1 + y = (x + y) + 1 := by omega
      have e2 : x + y + am_ar (tk i) = (x + am_ar (tk i)) + y := by omega
      have e3 : i + 1 + d = i + (d + 1) := by omega
      rw [e, am_sE_s, am_sE_s, e2, ih (i + 1) (x + am_ar (tk i)) y, e3]
/-- where the expression at p ends -/
def am_eN (tk : Nat → Int32) (n p : Nat) : Nat := am_sE tk (n - p) 1 p
theorem am_eN_le {tk : Nat → Int32} {n p : Nat} (h : p ≤ n) : am_eN tk n p ≤ n := by
  have := am_sE_le tk (n - p) 1 p
  unfold am_eN
  omega
theorem am_eN_ge (tk : Nat → Int32) (n p : Nat) : p ≤ am_eN tk n p := am_sE_ge tk (n - p) 1 p
theorem am_eN_n (tk : Nat → Int32) (n : Nat) : am_eN tk n n = n := by
  unfold am_eN
  rw [Nat.sub_self, am_sE_0]
def am_it (tk : Nat → Int32) (n : Nat) : Nat → Nat → Nat
  | 0, i => i
  | q + 1, i => am_it tk n q (am_eN tk n i)
theorem am_sE_it (tk : Nat → Int32) (n : Nat) : ∀ q i, i ≤ n → am_sE tk (n - i) q i = am_it tk n q i := by
  intro q
  induction q with
  | zero => intro i _; rw [am_sE_z]; rfl
  | succ q ih =>
    intro i hi
    have e : q + 1 = 1 + q := by omega
    have e2 : i + (n - i) = n := by omega
    have h := am_sE_add tk (n - i) i 1 q
    rw [e2] at h
    rw [e, h]
    have h2 := ih (am_eN tk n i) (am_eN_le hi)
    have e3 : 1 + q = q + 1 := by omega
    rw [e3]
    exact h2
theorem am_eN_s {tk : Nat → Int32} {n p : Nat} (h : p < n) : am_eN tk n p = am_it tk n (am_ar (tk p)) (p + 1) := by
  have e : n - p = (n - (p + 1)) + 1 := by omega
  have h2 : am_eN tk n p = am_sE tk (n - (p + 1) + 1) (0 + 1) p := by
    unfold am_eN
    rw [e]
  rw [h2, am_sE_s, Nat.zero_add, am_sE_it tk n _ _ h]
theorem am_eN_gt {tk : Nat → Int32} {n p : Nat} (h : p < n) : p < am_eN tk n p := by
  have e : n - p = (n - (p + 1)) + 1 := by omega
  have h2 : am_eN tk n p = am_sE tk (n - (p + 1) + 1) (0 + 1) p := by
    unfold am_eN
    rw [e]
  rw [h2, am_sE_s]
  have := am_sE_ge tk (n - (p + 1)) (0 + am_ar (tk p)) (p + 1)
  omega
theorem am_eN_0 {tk : Nat → Int32} {n p : Nat} (h : p < n) (ha : am_ar (tk p) = 0) : am_eN tk n p = p + 1 := by rw [am_eN_s h, ha]; rfl
theorem am_eN_1 {tk : Nat → Int32} {n p : Nat} (h : p < n) (ha : am_ar (tk p) = 1) : am_eN tk n p = am_eN tk n (p + 1) := by rw [am_eN_s h, ha]; rfl
theorem am_eN_2 {tk : Nat → Int32} {n p : Nat} (h : p < n) (ha : am_ar (tk p) = 2) : am_eN tk n p = am_eN tk n (am_eN tk n (p + 1)) := by rw [am_eN_s h, ha]; rfl
theorem am_eN_3 {tk : Nat → Int32} {n p : Nat} (h : p < n) (ha : am_ar (tk p) = 3) : am_eN tk n p = am_eN tk n (am_eN tk n (am_eN tk n (p + 1))) := by rw [am_eN_s h, ha]; rfl
/-! choice vectors: bits, their number with the first bit on top -/
def am_b1 : Bool → Nat
  | true => 1
  | false => 0
theorem am_b1_le (x : Bool) : am_b1 x ≤ 1 := by cases x <;> decide
def am_nm (b : Nat → Bool) : Nat → Nat
  | 0 => 0
  | L + 1 => 2 * am_nm b L + am_b1 (b L)
theorem am_nm_s (b : Nat → Bool) (L : Nat) : am_nm b (L + 1) = 2 * am_nm b L + am_b1 (b L) := rfl
theorem am_nm_lt (b : Nat → Bool) : ∀ L, am_nm b L < 2 ^ L := by
  intro L
  induction L with
  | zero => exact Nat.one_pos
  | succ L ih =>
    rw [am_nm_s, Nat.pow_succ]
    have := am_b1_le (b L)
    omega
theorem am_nm_le {b : Nat → Bool} {L : Nat} (h : L ≤ 6) : am_nm b L < 64 := by
  have h1 := am_nm_lt b L
  have h2 : 2 ^ L ≤ 2 ^ 6 := Nat.pow_le_pow_right (by decide) h
  have h3 : 2 ^ 6 = 64 := by decide
  omega
theorem am_nm_sh (b : Nat → Bool) (j : Nat) : ∀ d, am_nm b (j + d) / 2 ^ d = am_nm b j := by
  intro d
  induction d with
  | zero => rw [Nat.pow_zero, Nat.div_one, Nat.add_zero]
  | succ d ih =>
    have e : j + (d + 1) = (j + d) + 1 := by omega
    have h := am_b1_le (b (j + d))
    have h2 : (2 * am_nm b (j + d) + am_b1 (b (j + d))) / 2 = am_nm b (j + d) := by omega
    rw [e, am_nm_s, Nat.pow_succ', ← Nat.div_div_eq_div_mul, h2, ih]
theorem am_nm_odd (b : Nat → Bool) (j : Nat) : am_nm b (j + 1) % 2 = am_b1 (b j) := by
  rw [am_nm_s]
  have := am_b1_le (b j)
  omega
theorem am_nm_half (b : Nat → Bool) (j : Nat) : am_nm b (j + 1) / 2 = am_nm b j := by
  rw [am_nm_s]
  have := am_b1_le (b j)
  omega
theorem am_nm_congr {b c : Nat → Bool} : ∀ L, (∀ i, i < L → b i = c i) → am_nm b L = am_nm c L := by
  intro L
  induction L with
  | zero => intro _; rfl
  | succ L ih =>
    intro h
    rw [am_nm_s, am_nm_s, ih (fun i hi => h i (by omega)), h L (by omega)]
/-- the last 0 below k, counted from 1; 0 if there is none -/
def am_la (b : Nat → Bool) : Nat → Nat
  | 0 => 0
  | k + 1 => match b k with
    | true => am_la b k
    | false => k + 1
theorem am_la_t {b : Nat → Bool} {k : Nat} (h : b k = true) : am_la b (k + 1) = am_la b k := by
  show (match b k with
    | true => am_la b k
    | false => k + 1) = am_la b k
  rw [h]
theorem am_la_f {b : Nat → Bool} {k : Nat} (h : b k = false) : am_la b (k + 1) = k + 1 := by
  show (match b k with
    | true => am_la b k
    | false => k + 1) = k + 1
  rw [h]
theorem am_la_le (b : Nat → Bool) : ∀ k, am_la b k ≤ k := by
  intro k
  induction k with
  | zero => exact Nat.le_refl 0
  | succ k ih =>
    cases h : b k with
    | true => rw [am_la_t h]; omega
    | false => rw [am_la_f h]; omega
theorem am_la_q {b : Nat → Bool} {q : Nat} : ∀ k, am_la b k = q + 1 → q < k ∧ b q = false := by
  intro k
  induction k with
  | zero => intro h; exact absurd h (by show ¬ (0 = q + 1); omega)
  | succ k ih =>
    intro h
    cases hb : b k with
    | true =>
      rw [am_la_t hb] at h
      exact ⟨by have := (ih h).1; omega, (ih h).2⟩
    | false =>
      rw [am_la_f hb] at h
      have e : k = q := by omega
      rw [← e]
      exact ⟨by omega, hb⟩
/-- the bits below q, then a 1, then 0s -/
def am_sb (b : Nat → Bool) (q : Nat) : Nat → Bool := fun j => if j < q then b j else decide (j = q)
theorem am_sb_lo {b : Nat → Bool} {q j : Nat} (h : j < q) : am_sb b q j = b j := if_pos h
theorem am_sb_at (b : Nat → Bool) (q : Nat) : am_sb b q q = true := by
  unfold am_sb
  rw [if_neg (Nat.lt_irrefl q)]
  exact decide_eq_true rfl
theorem am_sb_hi {b : Nat → Bool} {q j : Nat} (h : q < j) : am_sb b q j = false := by
  unfold am_sb
  rw [if_neg (by omega)]
  exact decide_eq_false (by omega)
theorem am_nm_sb (b : Nat → Bool) (q : Nat) : am_nm (am_sb b q) (q + 1) = 2 * am_nm b q + 1 := by
  rw [am_nm_s, am_sb_at, am_nm_congr q (fun i hi => am_sb_lo (b := b) hi)]
  rfl
theorem am_nm_grow {b c : Nat → Bool} {q : Nat} (h : ∀ i, i < q → b i = c i) (hb : b q = false) (hc : c q = true) : ∀ d, am_nm b (q + 1 + d) < am_nm c (q + 1 + d) := by
  intro d
  induction d with
  | zero =>
    rw [Nat.add_zero, am_nm_s, am_nm_s, am_nm_congr q h, hb, hc]
    show 2 * am_nm c q + 0 < 2 * am_nm c q + 1
    omega
  | succ d ih =>
    have e : q + 1 + (d + 1) = (q + 1 + d) + 1 := by omega
    rw [e, am_nm_s, am_nm_s]
    have h1 := am_b1_le (b (q + 1 + d))
    omega
end
section
/-! the store of a path: us choices made, nf locations (variable, outer, kind, value), nc closures (token, environment); xl, xc: the component's names of them -/
abbrev am_S : Type := Nat × Nat × Nat × (Nat → Int32) × (Nat → Int32) × (Nat → Int32) × (Nat → Int32) × (Nat → Int32) × (Nat → Int32) × (Nat → Nat) × (Nat → Nat)
def am_us (s : am_S) : Nat := s.1
def am_nf (s : am_S) : Nat := s.2.1
def am_nc (s : am_S) : Nat := s.2.2.1
def am_fVar (s : am_S) : Nat → Int32 := s.2.2.2.1
def am_fPar (s : am_S) : Nat → Int32 := s.2.2.2.2.1
def am_fK (s : am_S) : Nat → Int32 := s.2.2.2.2.2.1
def am_fV (s : am_S) : Nat → Int32 := s.2.2.2.2.2.2.1
def am_cPos (s : am_S) : Nat → Int32 := s.2.2.2.2.2.2.2.1
def am_cEnv (s : am_S) : Nat → Int32 := s.2.2.2.2.2.2.2.2.1
def am_xl (s : am_S) : Nat → Nat := s.2.2.2.2.2.2.2.2.2.1
def am_xc (s : am_S) : Nat → Nat := s.2.2.2.2.2.2.2.2.2.2
def am_al (s : am_S) : Nat := am_nf s + am_nc s
def am_un (f : Nat → Nat) (k x : Nat) : Nat → Nat := fun j => if j = k then x else f j
theorem am_un_s {f : Nat → Nat} {k x : Nat} : am_un f k x k = x := if_pos rfl
theorem am_un_n {f : Nat → Nat} {k j x : Nat} (h : j ≠ k) : am_un f k x j = f j := if_neg h
theorem am_up_s {f : Nat → Int32} {k : Nat} {x : Int32} : upd f k x k = x := if_pos rfl
theorem am_up_n {f : Nat → Int32} {k j : Nat} {x : Int32} (h : j ≠ k) : upd f k x j = f j := if_neg h
def am_s0 : am_S := (0, 0, 0, fun _ => 0, fun _ => 0, fun _ => 0, fun _ => 0, fun _ => 0, fun _ => 0, fun _ => 0, fun _ => 0)
/-- a choice made -/
def am_tick (s : am_S) : am_S := (am_us s + 1, am_nf s, am_nc s, am_fVar s, am_fPar s, am_fK s, am_fV s, am_cPos s, am_cEnv s, am_xl s, am_xc s)
/-- a new location -/
def am_nl (x e k v : Int32) (s : am_S) : am_S := (am_us s, am_nf s + 1, am_nc s, upd (am_fVar s) (am_nf s) x, upd (am_fPar s) (am_nf s) e, upd (am_fK s) (am_nf s) k, upd (am_fV s) (am_nf s) v, am_cPos s, am_cEnv s, am_un (am_xl s) (am_nf s) (am_al s), am_xc s)
/-- a new closure -/
def am_nk (p : Nat) (e : Int32) (s : am_S) : am_S := (am_us s, am_nf s, am_nc s + 1, am_fVar s, am_fPar s, am_fK s, am_fV s, upd (am_cPos s) (am_nc s) (nI p), upd (am_cEnv s) (am_nc s) e, am_xl s, am_un (am_xc s) (am_nc s) (am_al s))
/-- location f set -/
def am_sl (f : Nat) (k v : Int32) (s : am_S) : am_S := (am_us s, am_nf s, am_nc s, am_fVar s, am_fPar s, upd (am_fK s) f k, upd (am_fV s) f v, am_cPos s, am_cEnv s, am_xl s, am_xc s)
/-- the location of a variable -/
def am_lk (s : am_S) (v : Int32) : Nat → Int32 → Int32
  | 0, _ => -1
  | k + 1, e => if e < 0 then -1 else if am_fVar s e.toNatClampNeg = v then e else am_lk s v k (am_fPar s e.toNatClampNeg)
theorem am_lk_s (s : am_S) (v : Int32) (k : Nat) (e : Int32) : am_lk s v (k + 1) e = if e < 0 then -1 else if am_fVar s e.toNatClampNeg = v then e else am_lk s v k (am_fPar s e.toNatClampNeg) := rfl
theorem am_lk_m (s : am_S) (v : Int32) : ∀ k, am_lk s v k (-1) = -1 := by
  intro k
  cases k with
  | zero => rfl
  | succ k => rw [am_lk_s, if_pos (by decide)]
/-- an evaluation's end: did it succeed, kind and value, the store -/
abbrev am_R : Type := Bool × Int32 × Int32 × am_S
def am_fl (s : am_S) : am_R := (false, 0, 0, s)
def am_bd (r : am_R) (f : Int32 → Int32 → am_S → am_R) : am_R := if r.1 = true then f r.2.1 r.2.2.1 r.2.2.2 else am_fl r.2.2.2
theorem am_bd_t {r : am_R} {f : Int32 → Int32 → am_S → am_R} (h : r.1 = true) : am_bd r f = f r.2.1 r.2.2.1 r.2.2.2 := if_pos h
theorem am_bd_f {r : am_R} {f : Int32 → Int32 → am_S → am_R} (h : r.1 = false) : am_bd r f = am_fl r.2.2.2 := if_neg (by rw [h]; decide)
def am_rd (f : Int32) (s : am_S) : am_R := if f < 0 then am_fl s else (true, am_fK s f.toNatClampNeg, am_fV s f.toNatClampNeg, s)
def am_wr (f k v : Int32) (s : am_S) : am_R := if f < 0 then am_fl s else (true, k, v, am_sl f.toNatClampNeg k v s)
def am_op (k x y : Int32) : Int32 := if k = 2 then x + y else if k = 3 then x - y else if k = 4 then x * y else if k = 5 then (if x < y then 1 else 0) else (if x = y then 1 else 0)
section
variable (n : Nat) (tk ta : Nat → Int32) (mC mA : Nat) (b : Nat → Bool) (E : Nat → Int32 → am_S → am_R) (p : Nat) (e : Int32) (s : am_S)
def am_q7 (v : Int32) : Nat := if v = 0 then am_eN tk n (am_eN tk n (p + 1)) else am_eN tk n (p + 1)
def am_c7 (k v : Int32) (s1 : am_S) : am_R := if k = 1 then E (am_q7 n tk p v) e s1 else am_fl s1
def am_e7 : am_R := am_bd (E (p + 1) e s) (am_c7 n tk E p e)
def am_q8 (x : Bool) : Nat := if x = true then am_eN tk n (p + 1) else p + 1
def am_e8 : am_R := if mC ≤ am_us s then am_fl s else E (am_q8 n tk p (b (am_us s))) e (am_tick s)
def am_c10 (k v : Int32) (s1 : am_S) : am_R := if k = 1 ∧ ¬ v = 0 then E (am_eN tk n (p + 1)) e s1 else am_fl s1
def am_e10 : am_R := am_bd (E (p + 1) e s) (am_c10 n tk E p e)
def am_c11 (k v : Int32) (s1 : am_S) : am_R := if mA ≤ am_al s1 then am_fl s1 else E (am_eN tk n (p + 1)) (nI (am_nf s1)) (am_nl (ta p) e k v s1)
def am_e11 : am_R := am_bd (E (p + 1) e s) (am_c11 n tk ta mA E p e)
def am_e12 : am_R := if mA ≤ am_al s then am_fl s else (true, 2, nI (am_nc s), am_nk p e s)
def am_ap (k v k2 v2 : Int32) (s2 : am_S) : am_R := if k = 2 then (if mA ≤ am_al s2 then am_fl s2 else E ((am_cPos s2 v.toNatClampNeg).toNatClampNeg + 1) (nI (am_nf s2)) (am_nl (ta (am_cPos s2 v.toNatClampNeg).toNatClampNeg) (am_cEnv s2 v.toNatClampNeg) k2 v2 s2)) else am_fl s2
def am_c13 (k v : Int32) (s1 : am_S) : am_R := am_bd (E (am_eN tk n (p + 1)) e s1) (am_ap ta mA E k v)
def am_e13 : am_R := am_bd (E (p + 1) e s) (am_c13 n tk ta mA E p e)
def am_c14 (k v : Int32) (s1 : am_S) : am_R := am_wr (am_lk s1 (ta p) 17 e) k v s1
def am_e14 : am_R := am_bd (E (p + 1) e s) (am_c14 ta p e)
def am_c15 (_ _ : Int32) (s1 : am_S) : am_R := E (am_eN tk n (p + 1)) e s1
def am_e15 : am_R := am_bd (E (p + 1) e s) (am_c15 n tk E p e)
def am_ca (c k v k2 v2 : Int32) (s2 : am_S) : am_R := if k = 1 ∧ k2 = 1 then (true, 1, am_op c v v2, s2) else am_fl s2
def am_c2 (k v : Int32) (s1 : am_S) : am_R := am_bd (E (am_eN tk n (p + 1)) e s1) (am_ca (tk p) k v)
def am_e2 : am_R := am_bd (E (p + 1) e s) (am_c2 n tk E p e)
/-- one visit, with the evaluator E for the operands -/
def am_stp : am_R :=
  if n ≤ p then am_fl s
  else if tk p = 0 then (true, 1, ta p, s)
  else if tk p = 1 then am_rd (am_lk s (ta p) 17 e) s
  else if tk p = 7 then am_e7 n tk E p e s
  else if tk p = 8 then am_e8 n tk mC b E p e s
  else if tk p = 9 then am_fl s
  else if tk p = 10 then am_e10 n tk E p e s
  else if tk p = 11 then am_e11 n tk ta mA E p e s
  else if tk p = 12 then am_e12 mA p e s
  else if tk p = 13 then am_e13 n tk ta mA E p e s
  else if tk p = 14 then am_e14 ta E p e s
  else if tk p = 15 then am_e15 n tk E p e s
  else am_e2 n tk E p e s
end
/-- the kinds of tokens -/
def am_kd (k : Int32) : Prop := k = 0 ∨ k = 1 ∨ k = 2 ∨ k = 3 ∨ k = 4 ∨ k = 5 ∨ k = 6 ∨ k = 7 ∨ k = 8 ∨ k = 9 ∨ k = 10 ∨ k = 11 ∨ k = 12 ∨ k = 13 ∨ k = 14 ∨ k = 15
def am_bin (k : Int32) : Prop := k = 2 ∨ k = 3 ∨ k = 4 ∨ k = 5 ∨ k = 6
theorem am_cases {n : Nat} {tk ta : Nat → Int32} {mC mA : Nat} {b : Nat → Bool} {E : Nat → Int32 → am_S → am_R} {p : Nat} {e : Int32} {s : am_S} {P : am_R → Prop}
    (hn : n ≤ p → P (am_fl s))
    (h0 : p < n → tk p = 0 → P (true, 1, ta p, s))
    (h1 : p < n → tk p = 1 → P (am_rd (am_lk s (ta p) 17 e) s))
    (h7 : p < n → tk p = 7 → P (am_e7 n tk E p e s))
    (h8 : p < n → tk p = 8 → P (am_e8 n tk mC b E p e s))
    (h9 : p < n → tk p = 9 → P (am_fl s))
    (h10 : p < n → tk p = 10 → P (am_e10 n tk E p e s))
    (h11 : p < n → tk p = 11 → P (am_e11 n tk ta mA E p e s))
    (h12 : p < n → tk p = 12 → P (am_e12 mA p e s))
    (h13 : p < n → tk p = 13 → P (am_e13 n tk ta mA E p e s))
    (h14 : p < n → tk p = 14 → P (am_e14 ta E p e s))
    (h15 : p < n → tk p = 15 → P (am_e15 n tk E p e s))
    (h2 : p < n → (¬ tk p = 0 ∧ ¬ tk p = 1 ∧ ¬ tk p = 7 ∧ ¬ tk p = 8 ∧ ¬ tk p = 9 ∧ ¬ tk p = 10 ∧ ¬ tk p = 11 ∧ ¬ tk p = 12 ∧ ¬ tk p = 13 ∧ ¬ tk p = 14 ∧ ¬ tk p = 15) → P (am_e2 n tk E p e s)) :
    P (am_stp n tk ta mC mA b E p e s) := by
  unfold am_stp
  by_cases q : n ≤ p
  · rw [if_pos q]; exact hn q
  rw [if_neg q]
  have hp : p < n := Nat.lt_of_not_le q
  by_cases k0 : tk p = 0
  · rw [if_pos k0]; exact h0 hp k0
  rw [if_neg k0]
  by_cases k1 : tk p = 1
  · rw [if_pos k1]; exact h1 hp k1
  rw [if_neg k1]
  by_cases k7 : tk p = 7
  · rw [if_pos k7]; exact h7 hp k7
  rw [if_neg k7]
  by_cases k8 : tk p = 8
  · rw [if_pos k8]; exact h8 hp k8
  rw [if_neg k8]
  by_cases k9 : tk p = 9
  · rw [if_pos k9]; exact h9 hp k9
  rw [if_neg k9]
  by_cases k10 : tk p = 10
  · rw [if_pos k10]; exact h10 hp k10
  rw [if_neg k10]
  by_cases k11 : tk p = 11
  · rw [if_pos k11]; exact h11 hp k11
  rw [if_neg k11]
  by_cases k12 : tk p = 12
  · rw [if_pos k12]; exact h12 hp k12
  rw [if_neg k12]
  by_cases k13 : tk p = 13
  · rw [if_pos k13]; exact h13 hp k13
  rw [if_neg k13]
  by_cases k14 : tk p = 14
  · rw [if_pos k14]; exact h14 hp k14
  rw [if_neg k14]
  by_cases k15 : tk p = 15
  · rw [if_pos k15]; exact h15 hp k15
  rw [if_neg k15]
  exact h2 hp ⟨k0, k1, k7, k8, k9, k10, k11, k12, k13, k14, k15⟩
theorem am_binOf {k : Int32} (h : am_kd k) (g : ¬ k = 0 ∧ ¬ k = 1 ∧ ¬ k = 7 ∧ ¬ k = 8 ∧ ¬ k = 9 ∧ ¬ k = 10 ∧ ¬ k = 11 ∧ ¬ k = 12 ∧ ¬ k = 13 ∧ ¬ k = 14 ∧ ¬ k = 15) : am_bin k := by
  obtain ⟨g0, g1, g7, g8, g9, g10, g11, g12, g13, g14, g15⟩ := g
  rcases h with h | h | h | h | h | h | h | h | h | h | h | h | h | h | h | h
  · exact absurd h g0
  · exact absurd h g1
  · exact Or.inl h
  · exact Or.inr (Or.inl h)
  · exact Or.inr (Or.inr (Or.inl h))
  · exact Or.inr (Or.inr (Or.inr (Or.inl h)))
  · exact Or.inr (Or.inr (Or.inr (Or.inr h)))
  · exact absurd h g7
  · exact absurd h g8
  · exact absurd h g9
  · exact absurd h g10
  · exact absurd h g11
  · exact absurd h g12
  · exact absurd h g13
  · exact absurd h g14
  · exact absurd h g15
def am_ev (n : Nat) (tk ta : Nat → Int32) (mC mA : Nat) (b : Nat → Bool) : Nat → Nat → Int32 → am_S → am_R
  | 0 => fun _ _ s => am_fl s
  | F + 1 => am_stp n tk ta mC mA b (am_ev n tk ta mC mA b F)
theorem am_ev_s (n : Nat) (tk ta : Nat → Int32) (mC mA : Nat) (b : Nat → Bool) (F p : Nat) (e : Int32) (s : am_S) : am_ev n tk ta mC mA b (F + 1) p e s = am_stp n tk ta mC mA b (am_ev n tk ta mC mA b F) p e s := rfl
end
section
/-! what holds of a store, and what an evaluation keeps -/
def am_okE (s : am_S) (e : Int32) : Prop := e = -1 ∨ ∃ f, f < am_nf s ∧ e = nI f
def am_okV (s : am_S) (k v : Int32) : Prop := k = 1 ∨ (k = 2 ∧ ∃ c, c < am_nc s ∧ v = nI c)
def am_ext (s t : am_S) : Prop := am_us s ≤ am_us t ∧ am_nf s ≤ am_nf t ∧ am_nc s ≤ am_nc t ∧ (∀ f, f < am_nf s → am_xl t f = am_xl s f) ∧ (∀ c, c < am_nc s → am_xc t c = am_xc s c)
theorem am_ext_r (s : am_S) : am_ext s s := ⟨Nat.le_refl _, Nat.le_refl _, Nat.le_refl _, fun _ _ => rfl, fun _ _ => rfl⟩
theorem am_ext_t {s t w : am_S} (h : am_ext s t) (g : am_ext t w) : am_ext s w :=
  ⟨Nat.le_trans h.1 g.1, Nat.le_trans h.2.1 g.2.1, Nat.le_trans h.2.2.1 g.2.2.1, fun f hf => (g.2.2.2.1 f (Nat.lt_of_lt_of_le hf h.2.1)).trans (h.2.2.2.1 f hf), fun c hc => (g.2.2.2.2 c (Nat.lt_of_lt_of_le hc h.2.2.1)).trans (h.2.2.2.2 c hc)⟩
theorem am_ext_al {s t : am_S} (h : am_ext s t) : am_al s ≤ am_al t := Nat.add_le_add h.2.1 h.2.2.1
theorem am_ext_tick (s : am_S) : am_ext s (am_tick s) := ⟨Nat.le_succ _, Nat.le_refl _, Nat.le_refl _, fun _ _ => rfl, fun _ _ => rfl⟩
theorem am_ext_nl (x e k v : Int32) (s : am_S) : am_ext s (am_nl x e k v s) := ⟨Nat.le_refl _, Nat.le_succ _, Nat.le_refl _, fun _ hf => am_un_n (Nat.ne_of_lt hf), fun _ _ => rfl⟩
theorem am_ext_nk (p : Nat) (e : Int32) (s : am_S) : am_ext s (am_nk p e s) := ⟨Nat.le_refl _, Nat.le_refl _, Nat.le_succ _, fun _ _ => rfl, fun _ hc => am_un_n (Nat.ne_of_lt hc)⟩
theorem am_ext_sl (f : Nat) (k v : Int32) (s : am_S) : am_ext s (am_sl f k v s) := ⟨Nat.le_refl _, Nat.le_refl _, Nat.le_refl _, fun _ _ => rfl, fun _ _ => rfl⟩
theorem am_okE_x {s t : am_S} {e : Int32} (h : am_ext s t) (g : am_okE s e) : am_okE t e := by
  rcases g with g | ⟨f, hf, g⟩
  · exact Or.inl g
  · exact Or.inr ⟨f, Nat.lt_of_lt_of_le hf h.2.1, g⟩
theorem am_okV_x {s t : am_S} {k v : Int32} (h : am_ext s t) (g : am_okV s k v) : am_okV t k v := by
  rcases g with g | ⟨g, c, hc, gv⟩
  · exact Or.inl g
  · exact Or.inr ⟨g, c, Nat.lt_of_lt_of_le hc h.2.2.1, gv⟩
def am_wL (s : am_S) (f : Nat) : Prop := (am_fPar s f = -1 ∨ ∃ g, g < f ∧ am_fPar s f = nI g) ∧ am_okV s (am_fK s f) (am_fV s f) ∧ am_xl s f < am_al s ∧ ∀ g, g < f → am_xl s g < am_xl s f
def am_wC (n : Nat) (s : am_S) (c : Nat) : Prop := (∃ p, p < n ∧ am_cPos s c = nI p) ∧ am_okE s (am_cEnv s c) ∧ am_xc s c < am_al s
def am_WF (n mC mA : Nat) (s : am_S) : Prop := am_us s ≤ mC ∧ am_al s ≤ mA ∧ (∀ f, f < am_nf s → am_wL s f) ∧ (∀ c, c < am_nc s → am_wC n s c)
theorem am_WF_0 (n mC mA : Nat) : am_WF n mC mA am_s0 := ⟨Nat.zero_le _, Nat.zero_le _, fun f hf => absurd hf (Nat.not_lt_zero f), fun c hc => absurd hc (Nat.not_lt_zero c)⟩
section
variable {n mC mA : Nat} {s : am_S}
theorem am_WF_tick (h : am_WF n mC mA s) (hu : am_us s < mC) : am_WF n mC mA (am_tick s) := ⟨hu, h.2.1, h.2.2.1, h.2.2.2⟩
theorem am_WF_sl {f0 : Nat} {k v : Int32} (h : am_WF n mC mA s) (hv : am_okV s k v) : am_WF n mC mA (am_sl f0 k v s) := by
  refine ⟨h.1, h.2.1, fun f hf => ?_, h.2.2.2⟩
  have hw := h.2.2.1 f hf
  refine ⟨hw.1, ?_, hw.2.2.1, hw.2.2.2⟩
  show am_okV s (upd (am_fK s) f0 k f) (upd (am_fV s) f0 v f)
  by_cases e : f = f0
  · rw [e, am_up_s, am_up_s]; exact hv
  · rw [am_up_n e, am_up_n e]; exact hw.2.1
theorem am_WF_nl {x e k v : Int32} (h : am_WF n mC mA s) (ha : am_al s < mA) (he : am_okE s e) (hv : am_okV s k v) : am_WF n mC mA (am_nl x e k v s) := by
  have hx := am_ext_nl x e k v s
  have hal : am_al (am_nl x e k v s) = am_al s + 1 := by
    show am_nf s + 1 + am_nc s = am_nf s + am_nc s + 1
    omega
  refine ⟨h.1, by rw [hal]; exact ha, fun f hf => ?_, fun c hc => ?_⟩
  · have hf' : f < am_nf s + 1 := hf
    by_cases q : f = am_nf s
    · subst q
      refine ⟨?_, ?_, ?_, ?_⟩
      · show (upd (am_fPar s) (am_nf s) e (am_nf s) = -1 ∨ ∃ g, g < am_nf s ∧ upd (am_fPar s) (am_nf s) e (am_nf s) = nI g)
        rw [am_up_s]
        exact he
      · show am_okV (am_nl x e k v s) (upd (am_fK s) (am_nf s) k (am_nf s)) (upd (am_fV s) (am_nf s) v (am_nf s))
        rw [am_up_s, am_up_s]
        exact am_okV_x hx hv
      · rw [hal]
        show am_un (am_xl s) (am_nf s) (am_al s) (am_nf s) < am_al s + 1
        rw [am_un_s]
        exact Nat.lt_succ_self _
      · intro g hg
        show am_un (am_xl s) (am_nf s) (am_al s) g < am_un (am_xl s) (am_nf s) (am_al s) (am_nf s)
        rw [am_un_s, am_un_n (Nat.ne_of_lt hg)]
        exact (h.2.2.1 g hg).2.2.1
    · have hf2 : f < am_nf s := by omega
      have hw := h.2.2.1 f hf2
      refine ⟨?_, ?_, ?_, ?_⟩
      · show (upd (am_fPar s) (am_nf s) e f = -1 ∨ ∃ g, g < f ∧ upd (am_fPar s) (am_nf s) e f = nI g)
        rw [am_up_n q]
        exact hw.1
      · show am_okV (am_nl x e k v s) (upd (am_fK s) (am_nf s) k f) (upd (am_fV s) (am_nf s) v f)
        rw [am_up_n q, am_up_n q]
        exact am_okV_x hx hw.2.1
      · rw [hal]
        show am_un (am_xl s) (am_nf s) (am_al s) f < am_al s + 1
        rw [am_un_n q]
        exact Nat.lt_succ_of_lt hw.2.2.1
      · intro g hg
        show am_un (am_xl s) (am_nf s) (am_al s) g < am_un (am_xl s) (am_nf s) (am_al s) f
        rw [am_un_n q, am_un_n (by omega)]
        exact hw.2.2.2 g hg
  · have hw := h.2.2.2 c hc
    refine ⟨hw.1, am_okE_x hx hw.2.1, ?_⟩
    rw [hal]
    exact Nat.lt_succ_of_lt hw.2.2
theorem am_WF_nk {p : Nat} {e : Int32} (h : am_WF n mC mA s) (hp : p < n) (ha : am_al s < mA) (he : am_okE s e) : am_WF n mC mA (am_nk p e s) := by
  have hx := am_ext_nk p e s
  have hal : am_al (am_nk p e s) = am_al s + 1 := by
    show am_nf s + (am_nc s + 1) = am_nf s + am_nc s + 1
    omega
  refine ⟨h.1, by rw [hal]; exact ha, fun f hf => ?_, fun c hc => ?_⟩
  · have hw := h.2.2.1 f hf
    refine ⟨hw.1, am_okV_x hx hw.2.1, ?_, hw.2.2.2⟩
    rw [hal]
    exact Nat.lt_succ_of_lt hw.2.2.1
  · have hc' : c < am_nc s + 1 := hc
    by_cases q : c = am_nc s
    · subst q
      refine ⟨⟨p, hp, ?_⟩, ?_, ?_⟩
      · show upd (am_cPos s) (am_nc s) (nI p) (am_nc s) = nI p
        rw [am_up_s]
      · show am_okE (am_nk p e s) (upd (am_cEnv s) (am_nc s) e (am_nc s))
        rw [am_up_s]
        exact am_okE_x hx he
      · rw [hal]
        show am_un (am_xc s) (am_nc s) (am_al s) (am_nc s) < am_al s + 1
        rw [am_un_s]
        exact Nat.lt_succ_self _
    · have hc2 : c < am_nc s := by omega
      have hw := h.2.2.2 c hc2
      refine ⟨?_, ?_, ?_⟩
      · show ∃ p', p' < n ∧ upd (am_cPos s) (am_nc s) (nI p) c = nI p'
        rw [am_up_n q]
        exact hw.1
      · show am_okE (am_nk p e s) (upd (am_cEnv s) (am_nc s) e c)
        rw [am_up_n q]
        exact am_okE_x hx hw.2.1
      · rw [hal]
        show am_un (am_xc s) (am_nc s) (am_al s) c < am_al s + 1
        rw [am_un_n q]
        exact Nat.lt_succ_of_lt hw.2.2
theorem am_WF_f (h : am_WF n mC mA s) (hA : mA ≤ 16) {f : Nat} (hf : f < am_nf s) : f < 16 := by
  have h1 := h.2.1
  unfold am_al at h1
  omega
theorem am_WF_c (h : am_WF n mC mA s) (hA : mA ≤ 16) {c : Nat} (hc : c < am_nc s) : c < 16 := by
  have h1 := h.2.1
  unfold am_al at h1
  omega
theorem am_lk_ok {v : Int32} (h : am_WF n mC mA s) (hA : mA ≤ 16) : ∀ k e, am_okE s e → am_okE s (am_lk s v k e) := by
  intro k
  induction k with
  | zero => intro e _; exact Or.inl rfl
  | succ k ih =>
    intro e he
    rw [am_lk_s]
    rcases he with he | ⟨f, hf, he⟩
    · rw [he, if_pos (by decide)]
      exact Or.inl rfl
    · have hb : f < 2 ^ 31 := by have := am_WF_f h hA hf; omega
      rw [he, if_neg (nI_pos hb), nI_clamp hb]
      by_cases q : am_fVar s f = v
      · rw [if_pos q]
        exact Or.inr ⟨f, hf, rfl⟩
      · rw [if_neg q]
        apply ih
        rcases (h.2.2.1 f hf).1 with g | ⟨g, hg, eg⟩
        · exact Or.inl g
        · exact Or.inr ⟨g, by omega, eg⟩
theorem am_lk_st {v : Int32} (h : am_WF n mC mA s) (hA : mA ≤ 16) : ∀ k f, f < k → f < am_nf s → am_lk s v (k + 1) (nI f) = am_lk s v k (nI f) := by
  intro k
  induction k with
  | zero => intro f hk; omega
  | succ k ih =>
    intro f hk hf
    have hb : f < 2 ^ 31 := by have := am_WF_f h hA hf; omega
    rw [am_lk_s s v (k + 1) (nI f), am_lk_s s v k (nI f), if_neg (nI_pos hb), if_neg (nI_pos hb), nI_clamp hb]
    by_cases q : am_fVar s f = v
    · rw [if_pos q, if_pos q]
    · rw [if_neg q, if_neg q]
      rcases (h.2.2.1 f hf).1 with g | ⟨g, hg, eg⟩
      · rw [g, am_lk_m, am_lk_m]
      · rw [eg]
        exact ih g (by omega) (by omega)
theorem am_lk_16 {v e : Int32} (h : am_WF n mC mA s) (hA : mA ≤ 16) (he : am_okE s e) : am_lk s v 17 e = am_lk s v 16 e := by
  rcases he with he | ⟨f, hf, he⟩
  · rw [he, am_lk_m, am_lk_m]
  · rw [he]
    exact am_lk_st h hA 16 f (am_WF_f h hA hf) hf
end
/-- an evaluation that began at s: its end is a good store that extends s -/
def am_G (n mC mA : Nat) (s : am_S) (r : am_R) : Prop := am_WF n mC mA r.2.2.2 ∧ am_ext s r.2.2.2 ∧ (r.1 = true → am_okV r.2.2.2 r.2.1 r.2.2.1)
section
variable {n mC mA : Nat}
theorem am_G_fl {s : am_S} (h : am_WF n mC mA s) : am_G n mC mA s (am_fl s) := ⟨h, am_ext_r s, fun z => absurd z (by show ¬ (false = true); decide)⟩
theorem am_G_ok {s t : am_S} {k v : Int32} (h : am_WF n mC mA t) (hx : am_ext s t) (hv : am_okV t k v) : am_G n mC mA s (true, k, v, t) := ⟨h, hx, fun _ => hv⟩
theorem am_G_x {s t : am_S} {r : am_R} (hx : am_ext s t) (g : am_G n mC mA t r) : am_G n mC mA s r := ⟨g.1, am_ext_t hx g.2.1, g.2.2⟩
theorem am_G_bd {s : am_S} {r : am_R} {f : Int32 → Int32 → am_S → am_R} (g : am_G n mC mA s r) (hf : ∀ k v s1, am_WF n mC mA s1 → am_ext s s1 → am_okV s1 k v → am_G n mC mA s1 (f k v s1)) : am_G n mC mA s (am_bd r f) := by
  cases h : r.1 with
  | true =>
    rw [am_bd_t h]
    exact am_G_x g.2.1 (hf _ _ _ g.1 g.2.1 (g.2.2 h))
  | false =>
    rw [am_bd_f h]
    exact am_G_x g.2.1 (am_G_fl g.1)
theorem am_G_rd {s : am_S} {f : Int32} (h : am_WF n mC mA s) (hA : mA ≤ 16) (hf : am_okE s f) : am_G n mC mA s (am_rd f s) := by
  unfold am_rd
  rcases hf with hf | ⟨g, hg, hf⟩
  · rw [hf, if_pos (by decide)]
    exact am_G_fl h
  · have hb : g < 2 ^ 31 := by have := am_WF_f h hA hg; omega
    rw [hf, if_neg (nI_pos hb), nI_clamp hb]
    exact am_G_ok h (am_ext_r s) (h.2.2.1 g hg).2.1
theorem am_G_wr {s : am_S} {f k v : Int32} (h : am_WF n mC mA s) (hA : mA ≤ 16) (hf : am_okE s f) (hv : am_okV s k v) : am_G n mC mA s (am_wr f k v s) := by
  unfold am_wr
  rcases hf with hf | ⟨g, hg, hf⟩
  · rw [hf, if_pos (by decide)]
    exact am_G_fl h
  · have hb : g < 2 ^ 31 := by have := am_WF_f h hA hg; omega
    rw [hf, if_neg (nI_pos hb), nI_clamp hb]
    exact am_G_ok (am_WF_sl h hv) (am_ext_sl g k v s) (am_okV_x (am_ext_sl g k v s) hv)
end
theorem am_okE_nf (x e k v : Int32) (s : am_S) : am_okE (am_nl x e k v s) (nI (am_nf s)) := Or.inr ⟨am_nf s, Nat.lt_succ_self _, rfl⟩
theorem am_ev_G {n : Nat} {tk ta : Nat → Int32} {mC mA : Nat} {b : Nat → Bool} (hA : mA ≤ 16) (hn : n ≤ 32) : ∀ F p e s, am_WF n mC mA s → am_okE s e → am_G n mC mA s (am_ev n tk ta mC mA b F p e s) := by
  intro F
  induction F with
  | zero => intro p e s h _; exact am_G_fl h
  | succ F ih =>
    intro p e s h he
    rw [am_ev_s]
    refine am_cases (P := am_G n mC mA s) ?_ ?_ ?_ ?_ ?_ ?_ ?_ ?_ ?_ ?_ ?_ ?_ ?_
    · intro _; exact am_G_fl h
    · intro _ _; exact am_G_ok h (am_ext_r s) (Or.inl rfl)
    · intro _ _; exact am_G_rd h hA (am_lk_ok h hA _ _ he)
    · intro _ _
      refine am_G_bd (ih _ _ _ h he) (fun k v s1 w x _ => ?_)
      unfold am_c7
      split
      · exact ih _ _ _ w (am_okE_x x he)
      · exact am_G_fl w
    · intro _ _
      unfold am_e8
      split
      · exact am_G_fl h
      · rename_i q
        exact am_G_x (am_ext_tick s) (ih _ _ _ (am_WF_tick h (Nat.lt_of_not_le q)) (am_okE_x (am_ext_tick s) he))
    · intro _ _; exact am_G_fl h
    · intro _ _
      refine am_G_bd (ih _ _ _ h he) (fun k v s1 w x _ => ?_)
      unfold am_c10
      split
      · exact ih _ _ _ w (am_okE_x x he)
      · exact am_G_fl w
    · intro _ _
      refine am_G_bd (ih _ _ _ h he) (fun k v s1 w x hv => ?_)
      unfold am_c11
      split
      · exact am_G_fl w
      · rename_i q
        exact am_G_x (am_ext_nl _ _ _ _ s1) (ih _ _ _ (am_WF_nl w (Nat.lt_of_not_le q) (am_okE_x x he) hv) (am_okE_nf _ _ _ _ s1))
    · intro hp _
      unfold am_e12
      split
      · exact am_G_fl h
      · rename_i q
        exact am_G_ok (am_WF_nk h hp (Nat.lt_of_not_le q) he) (am_ext_nk p e s) (Or.inr ⟨rfl, am_nc s, Nat.lt_succ_self _, rfl⟩)
    · intro _ _
      refine am_G_bd (ih _ _ _ h he) (fun k v s1 w x hv => ?_)
      refine am_G_bd (ih _ _ _ w (am_okE_x x he)) (fun k2 v2 s2 w2 x2 hv2 => ?_)
      unfold am_ap
      split
      · rename_i hk
        split
        · exact am_G_fl w2
        · rename_i q
          rcases am_okV_x x2 hv with hv' | ⟨_, c, hc, hv'⟩
          · rw [hv'] at hk
            exact absurd hk (by decide)
          · have hb : c < 2 ^ 31 := by have := am_WF_c w2 hA hc; omega
            rw [hv', nI_clamp hb]
            exact am_G_x (am_ext_nl _ _ _ _ s2) (ih _ _ _ (am_WF_nl w2 (Nat.lt_of_not_le q) (w2.2.2.2 c hc).2.1 hv2) (am_okE_nf _ _ _ _ s2))
      · exact am_G_fl w2
    · intro _ _
      refine am_G_bd (ih _ _ _ h he) (fun k v s1 w x hv => ?_)
      exact am_G_wr w hA (am_lk_ok w hA _ _ (am_okE_x x he)) hv
    · intro _ _
      refine am_G_bd (ih _ _ _ h he) (fun k v s1 w x _ => ?_)
      exact ih _ _ _ w (am_okE_x x he)
    · intro _ _
      refine am_G_bd (ih _ _ _ h he) (fun k v s1 w x _ => ?_)
      refine am_G_bd (ih _ _ _ w (am_okE_x x he)) (fun k2 v2 s2 w2 x2 _ => ?_)
      unfold am_ca
      split
      · exact am_G_ok w2 (am_ext_r s2) (Or.inl rfl)
      · exact am_G_fl w2
/-! choices grow; two vectors that agree below j lead to the same, up to choice j -/
def am_M (s : am_S) (r : am_R) : Prop := am_us s ≤ am_us r.2.2.2
theorem am_M_r {r : am_R} {f : Int32 → Int32 → am_S → am_R} (hf : ∀ k v s1, am_M s1 (f k v s1)) : am_us r.2.2.2 ≤ am_us (am_bd r f).2.2.2 := by
  cases h : r.1 with
  | true => rw [am_bd_t h]; exact hf _ _ _
  | false => rw [am_bd_f h]; exact Nat.le_refl _
theorem am_M_bd {s : am_S} {r : am_R} {f : Int32 → Int32 → am_S → am_R} (g : am_M s r) (hf : ∀ k v s1, am_M s1 (f k v s1)) : am_M s (am_bd r f) := Nat.le_trans g (am_M_r hf)
theorem am_M_fl (s : am_S) : am_M s (am_fl s) := Nat.le_refl _
section
variable {n : Nat} {tk ta : Nat → Int32} {mC mA : Nat} {E : Nat → Int32 → am_S → am_R} {p : Nat} {e : Int32}
theorem am_M_7 (hE : ∀ p e s, am_M s (E p e s)) (k v : Int32) (s : am_S) : am_M s (am_c7 n tk E p e k v s) := by
  unfold am_c7
  split
  · exact hE _ _ _
  · exact am_M_fl s
theorem am_M_10 (hE : ∀ p e s, am_M s (E p e s)) (k v : Int32) (s : am_S) : am_M s (am_c10 n tk E p e k v s) := by
  unfold am_c10
  split
  · exact hE _ _ _
  · exact am_M_fl s
theorem am_M_11 (hE : ∀ p e s, am_M s (E p e s)) (k v : Int32) (s : am_S) : am_M s (am_c11 n tk ta mA E p e k v s) := by
  unfold am_c11
  split
  · exact am_M_fl s
  · exact hE _ _ (am_nl (ta p) e k v s)
theorem am_M_ap (hE : ∀ p e s, am_M s (E p e s)) (k v k2 v2 : Int32) (s : am_S) : am_M s (am_ap ta mA E k v k2 v2 s) := by
  unfold am_ap
  split
  · split
    · exact am_M_fl s
    · exact hE _ _ (am_nl _ _ _ _ s)
  · exact am_M_fl s
theorem am_M_wr (f k v : Int32) (s : am_S) : am_M s (am_wr f k v s) := by
  unfold am_wr
  split
  · exact am_M_fl s
  · exact Nat.le_refl _
theorem am_M_rd (f : Int32) (s : am_S) : am_M s (am_rd f s) := by
  unfold am_rd
  split
  · exact am_M_fl s
  · exact Nat.le_refl _
theorem am_M_ca (c k v k2 v2 : Int32) (s : am_S) : am_M s (am_ca c k v k2 v2 s) := by
  unfold am_ca
  split
  · exact Nat.le_refl _
  · exact am_M_fl s
theorem am_M_13 (hE : ∀ p e s, am_M s (E p e s)) (k v : Int32) (s : am_S) : am_M s (am_c13 n tk ta mA E p e k v s) := am_M_bd (hE _ _ _) (fun k2 v2 s2 => am_M_ap hE k v k2 v2 s2)
theorem am_M_14 (k v : Int32) (s : am_S) : am_M s (am_c14 ta p e k v s) := am_M_wr _ k v s
theorem am_M_15 (hE : ∀ p e s, am_M s (E p e s)) (k v : Int32) (s : am_S) : am_M s (am_c15 n tk E p e k v s) := hE _ _ _
theorem am_M_2 (hE : ∀ p e s, am_M s (E p e s)) (k v : Int32) (s : am_S) : am_M s (am_c2 n tk E p e k v s) := am_M_bd (hE _ _ _) (fun k2 v2 s2 => am_M_ca _ k v k2 v2 s2)
end
theorem am_ev_M {n : Nat} {tk ta : Nat → Int32} {mC mA : Nat} {b : Nat → Bool} : ∀ F p e s, am_M s (am_ev n tk ta mC mA b F p e s) := by
  intro F
  induction F with
  | zero => intro p e s; exact am_M_fl s
  | succ F ih =>
    intro p e s
    rw [am_ev_s]
    refine am_cases (P := am_M s) ?_ ?_ ?_ ?_ ?_ ?_ ?_ ?_ ?_ ?_ ?_ ?_ ?_
    · intro _; exact am_M_fl s
    · intro _ _; exact Nat.le_refl _
    · intro _ _; exact am_M_rd _ s
    · intro _ _; exact am_M_bd (ih _ _ _) (fun k v s1 => am_M_7 ih k v s1)
    · intro _ _
      unfold am_e8
      split
      · exact am_M_fl s
      · exact Nat.le_trans (Nat.le_succ _) (ih _ _ (am_tick s))
    · intro _ _; exact am_M_fl s
    · intro _ _; exact am_M_bd (ih _ _ _) (fun k v s1 => am_M_10 ih k v s1)
    · intro _ _; exact am_M_bd (ih _ _ _) (fun k v s1 => am_M_11 ih k v s1)
    · intro _ _
      unfold am_e12
      split
      · exact am_M_fl s
      · exact Nat.le_refl _
    · intro _ _; exact am_M_bd (ih _ _ _) (fun k v s1 => am_M_13 ih k v s1)
    · intro _ _; exact am_M_bd (ih _ _ _) (fun k v s1 => am_M_14 k v s1)
    · intro _ _; exact am_M_bd (ih _ _ _) (fun k v s1 => am_M_15 ih k v s1)
    · intro _ _; exact am_M_bd (ih _ _ _) (fun k v s1 => am_M_2 ih k v s1)
def am_D (j : Nat) (r t : am_R) : Prop := (am_us r.2.2.2 ≤ j ∧ t = r) ∨ (j < am_us r.2.2.2 ∧ j < am_us t.2.2.2)
theorem am_D_r (j : Nat) (r : am_R) : am_D j r r := by
  by_cases h : am_us r.2.2.2 ≤ j
  · exact Or.inl ⟨h, rfl⟩
  · exact Or.inr ⟨Nat.lt_of_not_le h, Nat.lt_of_not_le h⟩
theorem am_D_bd {j : Nat} {r t : am_R} {f g : Int32 → Int32 → am_S → am_R} (h : am_D j r t) (hf : ∀ k v s1, am_D j (f k v s1) (g k v s1)) (mf : ∀ k v s1, am_M s1 (f k v s1)) (mg : ∀ k v s1, am_M s1 (g k v s1)) : am_D j (am_bd r f) (am_bd t g) := by
  rcases h with ⟨_, e⟩ | ⟨h, h'⟩
  · rw [e]
    cases hr : r.1 with
    | true => rw [am_bd_t hr, am_bd_t hr]; exact hf _ _ _
    | false => rw [am_bd_f hr, am_bd_f hr]; exact am_D_r j _
  · exact Or.inr ⟨Nat.lt_of_lt_of_le h (am_M_r mf), Nat.lt_of_lt_of_le h' (am_M_r mg)⟩
theorem am_cases2 {n : Nat} {tk ta : Nat → Int32} {mC mA : Nat} {b b2 : Nat → Bool} {E E2 : Nat → Int32 → am_S → am_R} {p : Nat} {e : Int32} {s : am_S} {P : am_R → am_R → Prop}
    (hs : ∀ r : am_R, P r r)
    (h7 : P (am_e7 n tk E p e s) (am_e7 n tk E2 p e s))
    (h8 : P (am_e8 n tk mC b E p e s) (am_e8 n tk mC b2 E2 p e s))
    (h10 : P (am_e10 n tk E p e s) (am_e10 n tk E2 p e s))
    (h11 : P (am_e11 n tk ta mA E p e s) (am_e11 n tk ta mA E2 p e s))
    (h13 : P (am_e13 n tk ta mA E p e s) (am_e13 n tk ta mA E2 p e s))
    (h14 : P (am_e14 ta E p e s) (am_e14 ta E2 p e s))
    (h15 : P (am_e15 n tk E p e s) (am_e15 n tk E2 p e s))
    (h2 : P (am_e2 n tk E p e s) (am_e2 n tk E2 p e s)) :
    P (am_stp n tk ta mC mA b E p e s) (am_stp n tk ta mC mA b2 E2 p e s) := by
  unfold am_stp
  by_cases q : n ≤ p
  · rw [if_pos q, if_pos q]; exact hs _
  rw [if_neg q, if_neg q]
  by_cases k0 : tk p = 0
  · rw [if_pos k0, if_pos k0]; exact hs _
  rw [if_neg k0, if_neg k0]
  by_cases k1 : tk p = 1
  · rw [if_pos k1, if_pos k1]; exact hs _
  rw [if_neg k1, if_neg k1]
  by_cases k7 : tk p = 7
  · rw [if_pos k7, if_pos k7]; exact h7
  rw [if_neg k7, if_neg k7]
  by_cases k8 : tk p = 8
  · rw [if_pos k8, if_pos k8]; exact h8
  rw [if_neg k8, if_neg k8]
  by_cases k9 : tk p = 9
  · rw [if_pos k9, if_pos k9]; exact hs _
  rw [if_neg k9, if_neg k9]
  by_cases k10 : tk p = 10
  · rw [if_pos k10, if_pos k10]; exact h10
  rw [if_neg k10, if_neg k10]
  by_cases k11 : tk p = 11
  · rw [if_pos k11, if_pos k11]; exact h11
  rw [if_neg k11, if_neg k11]
  by_cases k12 : tk p = 12
  · rw [if_pos k12, if_pos k12]; exact hs _
  rw [if_neg k12, if_neg k12]
  by_cases k13 : tk p = 13
  · rw [if_pos k13, if_pos k13]; exact h13
  rw [if_neg k13, if_neg k13]
  by_cases k14 : tk p = 14
  · rw [if_pos k14, if_pos k14]; exact h14
  rw [if_neg k14, if_neg k14]
  by_cases k15 : tk p = 15
  · rw [if_pos k15, if_pos k15]; exact h15
  rw [if_neg k15, if_neg k15]
  exact h2
theorem am_ev_D {n : Nat} {tk ta : Nat → Int32} {mC mA : Nat} {b b2 : Nat → Bool} {j : Nat} (hb : ∀ i, i < j → b i = b2 i) : ∀ F p e s, am_D j (am_ev n tk ta mC mA b F p e s) (am_ev n tk ta mC mA b2 F p e s) := by
  intro F
  induction F with
  | zero => intro p e s; exact am_D_r j _
  | succ F ih =>
    intro p e s
    have m1 := am_ev_M (n := n) (tk := tk) (ta := ta) (mC := mC) (mA := mA) (b := b) F
    have m2 := am_ev_M (n := n) (tk := tk) (ta := ta) (mC := mC) (mA := mA) (b := b2) F
    rw [am_ev_s, am_ev_s]
    refine am_cases2 (P := am_D j) (am_D_r j) ?_ ?_ ?_ ?_ ?_ ?_ ?_ ?_
    · refine am_D_bd (ih _ _ _) (fun k v s1 => ?_) (fun k v s1 => am_M_7 m1 k v s1) (fun k v s1 => am_M_7 m2 k v s1)
      unfold am_c7
      by_cases k1 : k = 1
      · rw [if_pos k1, if_pos k1]
        exact ih _ _ _
      · rw [if_neg k1, if_neg k1]
        exact am_D_r j _
    · unfold am_e8
      by_cases q : mC ≤ am_us s
      · rw [if_pos q, if_pos q]
        exact am_D_r j _
      · rw [if_neg q, if_neg q]
        by_cases u : am_us s < j
        · rw [hb _ u]
          exact ih _ _ _
        · have h1 := m1 (am_q8 n tk p (b (am_us s))) e (am_tick s)
          have h2 := m2 (am_q8 n tk p (b2 (am_us s))) e (am_tick s)
          have h3 : am_us (am_tick s) = am_us s + 1 := rfl
          unfold am_M at h1 h2
          rw [h3] at h1 h2
          exact Or.inr ⟨by omega, by omega⟩
    · refine am_D_bd (ih _ _ _) (fun k v s1 => ?_) (fun k v s1 => am_M_10 m1 k v s1) (fun k v s1 => am_M_10 m2 k v s1)
      unfold am_c10
      by_cases k1 : k = 1 ∧ ¬ v = 0
      · rw [if_pos k1, if_pos k1]
        exact ih _ _ _
      · rw [if_neg k1, if_neg k1]
        exact am_D_r j _
    · refine am_D_bd (ih _ _ _) (fun k v s1 => ?_) (fun k v s1 => am_M_11 m1 k v s1) (fun k v s1 => am_M_11 m2 k v s1)
      unfold am_c11
      by_cases q : mA ≤ am_al s1
      · rw [if_pos q, if_pos q]
        exact am_D_r j _
      · rw [if_neg q, if_neg q]
        exact ih _ _ _
    · refine am_D_bd (ih _ _ _) (fun k v s1 => ?_) (fun k v s1 => am_M_13 m1 k v s1) (fun k v s1 => am_M_13 m2 k v s1)
      refine am_D_bd (ih _ _ _) (fun k2 v2 s2 => ?_) (fun k2 v2 s2 => am_M_ap m1 k v k2 v2 s2) (fun k2 v2 s2 => am_M_ap m2 k v k2 v2 s2)
      unfold am_ap
      by_cases k1 : k = 2
      · rw [if_pos k1, if_pos k1]
        by_cases q : mA ≤ am_al s2
        · rw [if_pos q, if_pos q]
          exact am_D_r j _
        · rw [if_neg q, if_neg q]
          exact ih _ _ _
      · rw [if_neg k1, if_neg k1]
        exact am_D_r j _
    · exact am_D_bd (ih _ _ _) (fun k v s1 => am_D_r j _) (fun k v s1 => am_M_14 k v s1) (fun k v s1 => am_M_14 k v s1)
    · exact am_D_bd (ih _ _ _) (fun k v s1 => ih _ _ _) (fun k v s1 => am_M_15 m1 k v s1) (fun k v s1 => am_M_15 m2 k v s1)
    · refine am_D_bd (ih _ _ _) (fun k v s1 => ?_) (fun k v s1 => am_M_2 m1 k v s1) (fun k v s1 => am_M_2 m2 k v s1)
      exact am_D_bd (ih _ _ _) (fun k2 v2 s2 => am_D_r j _) (fun k2 v2 s2 => am_M_ca _ k v k2 v2 s2) (fun k2 v2 s2 => am_M_ca _ k v k2 v2 s2)
/-- a path's whole run -/
def am_run (n : Nat) (tk ta : Nat → Int32) (mC mA : Nat) (b : Nat → Bool) : am_R := am_ev n tk ta mC mA b 545 0 (-1) am_s0
theorem am_reach {n : Nat} {tk ta : Nat → Int32} {mC mA : Nat} {b b2 : Nat → Bool} {q : Nat} (hb : ∀ i, i < q → b i = b2 i) (h : q < am_us (am_run n tk ta mC mA b).2.2.2) : q < am_us (am_run n tk ta mC mA b2).2.2.2 := by
  rcases am_ev_D (n := n) (tk := tk) (ta := ta) (mC := mC) (mA := mA) hb 545 0 (-1) am_s0 with ⟨h1, _⟩ | ⟨_, h2⟩
  · unfold am_run at h
    omega
  · exact h2
theorem am_run_G {n : Nat} {tk ta : Nat → Int32} {mC mA : Nat} (b : Nat → Bool) (hA : mA ≤ 16) (hn : n ≤ 32) : am_G n mC mA am_s0 (am_run n tk ta mC mA b) := am_ev_G hA hn 545 0 (-1) am_s0 (am_WF_0 n mC mA) (Or.inl rfl)
end
section
/-! a machine of frames (token, environment, state, first kind, first value), by its rules; a is the number of steps left over 128 for each allocation that may still come -/
abbrev am_F : Type := Nat × Int32 × Int32 × Int32 × Int32
def am_psh (k : Int32) : Prop := k = 7 ∨ k = 10 ∨ k = 11 ∨ k = 13 ∨ k = 14 ∨ k = 15 ∨ am_bin k
def am_tl (k st : Int32) : Prop := (k = 7 ∧ st = 2) ∨ (k = 8 ∧ st = 1) ∨ (k = 10 ∧ st = 2) ∨ (k = 11 ∧ st = 2) ∨ (k = 13 ∧ st = 3) ∨ (k = 15 ∧ st = 2)
def am_nz : List am_F → Prop
  | [] => True
  | (_, _, st, _, _) :: r => ¬ st = 0 ∧ am_nz r
def am_H (n mC mA : Nat) (s : am_S) (e : Int32) (p : Nat) (stk : List am_F) : Prop := am_WF n mC mA s ∧ am_okE s e ∧ p < n ∧ stk.length < 544 ∧ am_nz stk
def am_I (n : Nat) (tk ta : Nat → Int32) (mC mA : Nat) (b : Nat → Bool) (L : Nat → List am_F → Int32 → Int32 → am_S → Prop) (Q : am_S → Prop) : Prop :=
  (∀ (a a' : Nat) (stk : List am_F) (rk rv : Int32) (s : am_S), a ≤ a' → L a stk rk rv s → L a' stk rk rv s) ∧
  (∀ (a : Nat) (e : Int32) (stk : List am_F) (rk rv : Int32) (s : am_S), am_WF n mC mA s → am_okE s e → stk.length < 545 → Q s → L (a + 1) ((n, e, 0, 0, 0) :: stk) rk rv s) ∧
  (∀ (a p : Nat) (e : Int32) (stk : List am_F) (rk rv : Int32) (s : am_S), am_H n mC mA s e p stk → tk p = 0 → L a stk 1 (ta p) s → L (a + 1) ((p, e, 0, 0, 0) :: stk) rk rv s) ∧
  (∀ (a p : Nat) (e : Int32) (stk : List am_F) (rk rv : Int32) (s : am_S) (f : Nat), am_H n mC mA s e p stk → tk p = 1 → f < am_nf s → am_lk s (ta p) 17 e = nI f → L a stk (am_fK s f) (am_fV s f) s → L (a + 1) ((p, e, 0, 0, 0) :: stk) rk rv s) ∧
  (∀ (a p : Nat) (e : Int32) (stk : List am_F) (rk rv : Int32) (s : am_S), am_H n mC mA s e p stk → tk p = 1 → am_lk s (ta p) 17 e = -1 → Q s → L (a + 1) ((p, e, 0, 0, 0) :: stk) rk rv s) ∧
  (∀ (a p : Nat) (e : Int32) (stk : List am_F) (rk rv : Int32) (s : am_S), am_H n mC mA s e p stk → am_psh (tk p) → L a ((p + 1, e, 0, 0, 0) :: (p, e, 1, 0, 0) :: stk) rk rv s → L (a + 1) ((p, e, 0, 0, 0) :: stk) rk rv s) ∧
  (∀ (a p : Nat) (e : Int32) (stk : List am_F) (rk rv : Int32) (s : am_S), am_H n mC mA s e p stk → tk p = 8 → am_us s < mC → L a ((am_q8 n tk p (b (am_us s)), e, 0, 0, 0) :: (p, e, 1, 0, 0) :: stk) rk rv (am_tick s) → L (a + 1) ((p, e, 0, 0, 0) :: stk) rk rv s) ∧
  (∀ (a p : Nat) (e : Int32) (stk : List am_F) (rk rv : Int32) (s : am_S), am_H n mC mA s e p stk → tk p = 8 → mC ≤ am_us s → Q s → L (a + 1) ((p, e, 0, 0, 0) :: stk) rk rv s) ∧
  (∀ (a p : Nat) (e : Int32) (stk : List am_F) (rk rv : Int32) (s : am_S), am_H n mC mA s e p stk → tk p = 9 → Q s → L (a + 1) ((p, e, 0, 0, 0) :: stk) rk rv s) ∧
  (∀ (a p : Nat) (e : Int32) (stk : List am_F) (rk rv : Int32) (s : am_S), am_H n mC mA s e p stk → tk p = 12 → am_al s < mA → L a stk 2 (nI (am_nc s)) (am_nk p e s) → L (a + 1) ((p, e, 0, 0, 0) :: stk) rk rv s) ∧
  (∀ (a p : Nat) (e : Int32) (stk : List am_F) (rk rv : Int32) (s : am_S), am_H n mC mA s e p stk → tk p = 12 → mA ≤ am_al s → Q s → L (a + 1) ((p, e, 0, 0, 0) :: stk) rk rv s) ∧
  (∀ (a p : Nat) (e : Int32) (stk : List am_F) (rk rv : Int32) (s : am_S), am_H n mC mA s e p stk → am_okV s rk rv → (tk p = 13 ∨ am_bin (tk p)) → L a ((am_eN tk n (p + 1), e, 0, 0, 0) :: (p, e, 2, rk, rv) :: stk) rk rv s → L (a + 1) ((p, e, 1, 0, 0) :: stk) rk rv s) ∧
  (∀ (a p : Nat) (e : Int32) (stk : List am_F) (v rv : Int32) (s : am_S), am_H n mC mA s e p stk → am_bin (tk p) → L a stk 1 (am_op (tk p) v rv) s → L (a + 1) ((p, e, 2, 1, v) :: stk) 1 rv s) ∧
  (∀ (a p : Nat) (e : Int32) (stk : List am_F) (k v rk rv : Int32) (s : am_S), am_H n mC mA s e p stk → am_bin (tk p) → am_okV s k v → am_okV s rk rv → ¬ (k = 1 ∧ rk = 1) → Q s → L (a + 1) ((p, e, 2, k, v) :: stk) rk rv s) ∧
  (∀ (a p : Nat) (e : Int32) (stk : List am_F) (rv : Int32) (s : am_S), am_H n mC mA s e p stk → tk p = 7 → L a ((am_q7 n tk p rv, e, 0, 0, 0) :: (p, e, 2, 0, 0) :: stk) 1 rv s → L (a + 1) ((p, e, 1, 0, 0) :: stk) 1 rv s) ∧
  (∀ (a p : Nat) (e : Int32) (stk : List am_F) (rk rv : Int32) (s : am_S), am_H n mC mA s e p stk → tk p = 7 → am_okV s rk rv → ¬ rk = 1 → Q s → L (a + 1) ((p, e, 1, 0, 0) :: stk) rk rv s) ∧
  (∀ (a p : Nat) (e : Int32) (stk : List am_F) (rv : Int32) (s : am_S), am_H n mC mA s e p stk → tk p = 10 → ¬ rv = 0 → L a ((am_eN tk n (p + 1), e, 0, 0, 0) :: (p, e, 2, 0, 0) :: stk) 1 rv s → L (a + 1) ((p, e, 1, 0, 0) :: stk) 1 rv s) ∧
  (∀ (a p : Nat) (e : Int32) (stk : List am_F) (rk rv : Int32) (s : am_S), am_H n mC mA s e p stk → tk p = 10 → am_okV s rk rv → ¬ (rk = 1 ∧ ¬ rv = 0) → Q s → L (a + 1) ((p, e, 1, 0, 0) :: stk) rk rv s) ∧
  (∀ (a p : Nat) (e : Int32) (stk : List am_F) (rk rv : Int32) (s : am_S), am_H n mC mA s e p stk → tk p = 11 → am_okV s rk rv → am_al s < mA → L a ((am_eN tk n (p + 1), nI (am_nf s), 0, 0, 0) :: (p, e, 2, 0, 0) :: stk) rk rv (am_nl (ta p) e rk rv s) → L (a + 1) ((p, e, 1, 0, 0) :: stk) rk rv s) ∧
  (∀ (a p : Nat) (e : Int32) (stk : List am_F) (rk rv : Int32) (s : am_S), am_H n mC mA s e p stk → tk p = 11 → am_okV s rk rv → mA ≤ am_al s → Q s → L (a + 1) ((p, e, 1, 0, 0) :: stk) rk rv s) ∧
  (∀ (a p : Nat) (e : Int32) (stk : List am_F) (rk rv : Int32) (s : am_S) (f : Nat), am_H n mC mA s e p stk → tk p = 14 → am_okV s rk rv → f < am_nf s → am_lk s (ta p) 17 e = nI f → L a stk rk rv (am_sl f rk rv s) → L (a + 1) ((p, e, 1, 0, 0) :: stk) rk rv s) ∧
  (∀ (a p : Nat) (e : Int32) (stk : List am_F) (rk rv : Int32) (s : am_S), am_H n mC mA s e p stk → tk p = 14 → am_okV s rk rv → am_lk s (ta p) 17 e = -1 → Q s → L (a + 1) ((p, e, 1, 0, 0) :: stk) rk rv s) ∧
  (∀ (a p : Nat) (e : Int32) (stk : List am_F) (rk rv : Int32) (s : am_S), am_H n mC mA s e p stk → tk p = 15 → am_okV s rk rv → L a ((am_eN tk n (p + 1), e, 0, 0, 0) :: (p, e, 2, 0, 0) :: stk) rk rv s → L (a + 1) ((p, e, 1, 0, 0) :: stk) rk rv s) ∧
  (∀ (a p : Nat) (e : Int32) (stk : List am_F) (rk rv : Int32) (s : am_S) (c lp : Nat), am_H n mC mA s e p stk → tk p = 13 → am_okV s rk rv → c < am_nc s → am_al s < mA → lp < n → am_cPos s c = nI lp → L (a + 127) ((lp + 1, nI (am_nf s), 0, 0, 0) :: (p, e, 3, 2, nI c) :: stk) rk rv (am_nl (ta lp) (am_cEnv s c) rk rv s) → L a ((p, e, 2, 2, nI c) :: stk) rk rv s) ∧
  (∀ (a p : Nat) (e : Int32) (stk : List am_F) (k v rk rv : Int32) (s : am_S), am_H n mC mA s e p stk → tk p = 13 → am_okV s k v → am_okV s rk rv → (¬ k = 2 ∨ mA ≤ am_al s) → Q s → L (a + 1) ((p, e, 2, k, v) :: stk) rk rv s) ∧
  (∀ (a p : Nat) (e : Int32) (stk : List am_F) (st k v rk rv : Int32) (s : am_S), am_H n mC mA s e p stk → am_okV s rk rv → am_tl (tk p) st → L a stk rk rv s → L (a + 1) ((p, e, st, k, v) :: stk) rk rv s)
/-- what is wanted of the machine at an evaluation's end -/
def am_K (L : Nat → List am_F → Int32 → Int32 → am_S → Prop) (Q : am_S → Prop) (stk : List am_F) (a : Nat) (r : am_R) : Prop := if r.1 = true then L a stk r.2.1 r.2.2.1 r.2.2.2 else Q r.2.2.2
section
variable {L : Nat → List am_F → Int32 → Int32 → am_S → Prop} {Q : am_S → Prop}
theorem am_K_t {stk : List am_F} {a : Nat} {r : am_R} (h : r.1 = true) (H : am_K L Q stk a r) : L a stk r.2.1 r.2.2.1 r.2.2.2 := by
  unfold am_K at H
  rw [if_pos h] at H
  exact H
theorem am_K_f {stk : List am_F} {a : Nat} {r : am_R} (h : r.1 = false) (H : am_K L Q stk a r) : Q r.2.2.2 := by
  unfold am_K at H
  rw [if_neg (by rw [h]; decide)] at H
  exact H
theorem am_K_T {stk : List am_F} {a : Nat} {r : am_R} (h : r.1 = true) (H : L a stk r.2.1 r.2.2.1 r.2.2.2) : am_K L Q stk a r := by
  unfold am_K
  rw [if_pos h]
  exact H
theorem am_K_F {stk : List am_F} {a : Nat} {r : am_R} (h : r.1 = false) (H : Q r.2.2.2) : am_K L Q stk a r := by
  unfold am_K
  rw [if_neg (by rw [h]; decide)]
  exact H
theorem am_K_q {stk : List am_F} {a : Nat} {s : am_S} (H : am_K L Q stk a (am_fl s)) : Q s := am_K_f (r := am_fl s) rfl H
theorem am_K_o {stk : List am_F} {a : Nat} {k v : Int32} {s : am_S} (H : am_K L Q stk a (true, k, v, s)) : L a stk k v s := am_K_t (r := (true, k, v, s)) rfl H
theorem am_K_bd {n mC mA : Nat} {s : am_S} {stk stk2 : List am_F} {a a2 : Nat} {r : am_R} {f : Int32 → Int32 → am_S → am_R} (g : am_G n mC mA s r) (H : am_K L Q stk a (am_bd r f)) (h : ∀ k v s1, am_WF n mC mA s1 → am_ext s s1 → am_okV s1 k v → am_K L Q stk a (f k v s1) → L a2 stk2 k v s1) : am_K L Q stk2 a2 r := by
  cases hr : r.1 with
  | true =>
    rw [am_bd_t hr] at H
    exact am_K_T hr (h _ _ _ g.1 g.2.1 (g.2.2 hr) H)
  | false =>
    rw [am_bd_f hr] at H
    exact am_K_F hr (am_K_q H)
theorem am_K_pop {n mC mA : Nat} {s : am_S} {stk stk2 : List am_F} {a a2 : Nat} {r : am_R} (g : am_G n mC mA s r) (H : am_K L Q stk a r) (h : ∀ k v s1, am_WF n mC mA s1 → am_ext s s1 → am_okV s1 k v → L a stk k v s1 → L a2 stk2 k v s1) : am_K L Q stk2 a2 r := by
  cases hr : r.1 with
  | true => exact am_K_T hr (h _ _ _ g.1 g.2.1 (g.2.2 hr) (am_K_t hr H))
  | false => exact am_K_F hr (am_K_f hr H)
end
theorem am_al_nl (x e k v : Int32) (s : am_S) : am_al (am_nl x e k v s) = am_al s + 1 := by
  show am_nf s + 1 + am_nc s = am_nf s + am_nc s + 1
  omega
theorem am_al_tick (s : am_S) : am_al (am_tick s) = am_al s := rfl
theorem am_q7_b {n : Nat} {tk : Nat → Int32} {p : Nat} (hp : p < n) (v : Int32) : am_eN tk n (p + 1) ≤ am_q7 n tk p v ∧ am_q7 n tk p v ≤ n ∧ am_q7 n tk p v ≤ am_eN tk n (am_q7 n tk p v) ∧ am_eN tk n (am_q7 n tk p v) ≤ am_eN tk n (am_eN tk n (am_eN tk n (p + 1))) := by
  have c1 : am_eN tk n (p + 1) ≤ n := am_eN_le hp
  have c2 : am_eN tk n (am_eN tk n (p + 1)) ≤ n := am_eN_le c1
  have b2 := am_eN_ge tk n (am_eN tk n (p + 1))
  have b3 := am_eN_ge tk n (am_eN tk n (am_eN tk n (p + 1)))
  unfold am_q7
  by_cases h : v = 0
  · rw [if_pos h]
    exact ⟨b2, c2, b3, Nat.le_refl _⟩
  · rw [if_neg h]
    exact ⟨Nat.le_refl _, c1, b2, b3⟩
theorem am_q8_b {n : Nat} {tk : Nat → Int32} {p : Nat} (hp : p < n) (x : Bool) : p + 1 ≤ am_q8 n tk p x ∧ am_q8 n tk p x ≤ n ∧ am_q8 n tk p x ≤ am_eN tk n (am_q8 n tk p x) ∧ am_eN tk n (am_q8 n tk p x) ≤ am_eN tk n (am_eN tk n (p + 1)) := by
  have c1 : am_eN tk n (p + 1) ≤ n := am_eN_le hp
  have b1 := am_eN_ge tk n (p + 1)
  have b2 := am_eN_ge tk n (am_eN tk n (p + 1))
  unfold am_q8
  by_cases h : x = true
  · rw [if_pos h]
    exact ⟨b1, c1, b2, Nat.le_refl _⟩
  · rw [if_neg h]
    exact ⟨Nat.le_refl _, hp, b1, b2⟩
theorem am_ar_bin {k : Int32} (h : am_bin k) : am_ar k = 2 := by
  rcases h with h | h | h | h | h <;> rw [h] <;> decide
end
section
/-- the machine does what the evaluation says -/
theorem am_sim {n : Nat} {tk ta : Nat → Int32} {mC mA : Nat} {b : Nat → Bool} {L : Nat → List am_F → Int32 → Int32 → am_S → Prop} {Q : am_S → Prop} (I : am_I n tk ta mC mA b L Q) (hA : mA ≤ 16) (hn : n ≤ 32) (hK : ∀ i, i < n → am_kd (tk i)) :
    ∀ (F p : Nat) (e : Int32) (s : am_S) (stk : List am_F) (rk rv : Int32) (a : Nat), p ≤ n → am_WF n mC mA s → am_okE s e → am_nz stk → stk.length + (am_eN tk n p - p) + 32 * (16 - am_al s) ≤ 544 → (am_eN tk n p - p) + 32 * (16 - am_al s) < F → am_K L Q stk a (am_ev n tk ta mC mA b F p e s) → L (a + 4 * (am_eN tk n p - p) + 1) ((p, e, 0, 0, 0) :: stk) rk rv s := by
  obtain ⟨rMono, rOut, rNum, rVar, rVarF, rPush, rAmb, rAmbF, rFail, rLam, rLamF, rHold, rCalc, rCalcF, rIf, rIfF, rReq, rReqF, rLet, rLetF, rSet, rSetF, rSeq, rApp, rAppF, rPop⟩ := I
  intro F
  induction F with
  | zero => intro p e s stk rk rv a _ _ _ _ _ hF; exact absurd hF (Nat.not_lt_zero _)
  | succ F ih =>
    intro p e s stk rk rv a hp0 w he hz hl hF
    rw [am_ev_s]
    refine am_cases (P := fun r => am_K L Q stk a r → L (a + 4 * (am_eN tk n p - p) + 1) ((p, e, 0, 0, 0) :: stk) rk rv s) ?_ ?_ ?_ ?_ ?_ ?_ ?_ ?_ ?_ ?_ ?_ ?_ ?_
    · intro hp H
      have ep : p = n := by omega
      rw [ep]
      exact rMono _ _ _ _ _ _ (by omega) (rOut a e stk rk rv s w he (by omega) (am_K_q H))
    · intro hp hk H
      have hg := am_eN_gt (tk := tk) hp
      exact rMono _ _ _ _ _ _ (by omega) (rNum a p e stk rk rv s ⟨w, he, hp, by omega, hz⟩ hk (am_K_o H))
    · intro hp hk H
      have hg := am_eN_gt (tk := tk) hp
      have hH : am_H n mC mA s e p stk := ⟨w, he, hp, by omega, hz⟩
      unfold am_rd at H
      rcases am_lk_ok (v := ta p) w hA 17 e he with hf | ⟨f, hf, ef⟩
      · rw [hf, if_pos (by decide)] at H
        exact rMono _ _ _ _ _ _ (by omega) (rVarF a p e stk rk rv s hH hk hf (am_K_q H))
      · have hb : f < 2 ^ 31 := by have := am_WF_f w hA hf; omega
        rw [ef, if_neg (nI_pos hb), nI_clamp hb] at H
        exact rMono _ _ _ _ _ _ (by omega) (rVar a p e stk rk rv s f hH hk hf ef (am_K_o H))
    · intro hp hk H
      have hg := am_eN_gt (tk := tk) hp
      have hH : am_H n mC mA s e p stk := ⟨w, he, hp, by omega, hz⟩
      have ea := am_eN_3 (tk := tk) hp (by rw [hk]; decide)
      have b1 := am_eN_ge tk n (p + 1)
      have c1 : am_eN tk n (p + 1) ≤ n := am_eN_le hp
      have b2 := am_eN_ge tk n (am_eN tk n (p + 1))
      have b3 := am_eN_ge tk n (am_eN tk n (am_eN tk n (p + 1)))
      refine rMono _ _ _ _ _ _ ?_ (rPush _ p e stk rk rv s hH (Or.inl hk) (ih (p + 1) e s ((p, e, 1, 0, 0) :: stk) rk rv (a + 4 * (am_eN tk n p - am_eN tk n (p + 1)) + 3) hp w he ⟨by decide, hz⟩ ?_ ?_ (am_K_bd (am_ev_G hA hn F (p + 1) e s w he) H (fun k v s1 w1 x1 v1 H1 => ?_))))
      · omega
      · rw [List.length_cons]; omega
      · omega
      · have hal := am_ext_al x1
        have hH1 : am_H n mC mA s1 e p stk := ⟨w1, am_okE_x x1 he, hp, hH.2.2.2⟩
        unfold am_c7 at H1
        by_cases k1 : k = 1
        · subst k1
          rw [if_pos rfl] at H1
          obtain ⟨d1, d2, d3, d4⟩ := am_q7_b (tk := tk) hp v
          refine rMono _ _ _ _ _ _ ?_ (rIf _ p e stk v s1 hH1 hk (ih (am_q7 n tk p v) e s1 ((p, e, 2, 0, 0) :: stk) 1 v (a + 1) d2 w1 (am_okE_x x1 he) ⟨by decide, hz⟩ ?_ ?_ (am_K_pop (am_ev_G hA hn F (am_q7 n tk p v) e s1 w1 (am_okE_x x1 he)) H1 (fun k' v' s2 w2 x2 v2 h2 => rPop a p e stk 2 0 0 k' v' s2 ⟨w2, am_okE_x x2 (am_okE_x x1 he), hp, hH.2.2.2⟩ v2 (Or.inl ⟨hk, rfl⟩) h2))))
          · omega
          · rw [List.length_cons]; omega
          · omega
        · rw [if_neg k1] at H1
          exact rMono _ _ _ _ _ _ (by omega) (rIfF a p e stk k v s1 hH1 hk v1 k1 (am_K_q H1))
    · intro hp hk H
      have hg := am_eN_gt (tk := tk) hp
      have hH : am_H n mC mA s e p stk := ⟨w, he, hp, by omega, hz⟩
      have ea := am_eN_2 (tk := tk) hp (by rw [hk]; decide)
      unfold am_e8 at H
      by_cases u : mC ≤ am_us s
      · rw [if_pos u] at H
        exact rMono _ _ _ _ _ _ (by omega) (rAmbF a p e stk rk rv s hH hk u (am_K_q H))
      · rw [if_neg u] at H
        have u' : am_us s < mC := Nat.lt_of_not_le u
        have wt := am_WF_tick w u'
        have xt := am_ext_tick s
        have at1 := am_al_tick s
        obtain ⟨d1, d2, d3, d4⟩ := am_q8_b (tk := tk) hp (b (am_us s))
        refine rMono _ _ _ _ _ _ ?_ (rAmb _ p e stk rk rv s hH hk u' (ih (am_q8 n tk p (b (am_us s))) e (am_tick s) ((p, e, 1, 0, 0) :: stk) rk rv (a + 1) d2 wt (am_okE_x xt he) ⟨by decide, hz⟩ ?_ ?_ (am_K_pop (am_ev_G hA hn F (am_q8 n tk p (b (am_us s))) e (am_tick s) wt (am_okE_x xt he)) H (fun k' v' s2 w2 x2 v2 h2 => rPop a p e stk 1 0 0 k' v' s2 ⟨w2, am_okE_x x2 (am_okE_x xt he), hp, hH.2.2.2⟩ v2 (Or.inr (Or.inl ⟨hk, rfl⟩)) h2))))
        · omega
        · rw [List.length_cons]; omega
        · omega
    · intro hp hk H
      have hg := am_eN_gt (tk := tk) hp
      exact rMono _ _ _ _ _ _ (by omega) (rFail a p e stk rk rv s ⟨w, he, hp, by omega, hz⟩ hk (am_K_q H))
    · intro hp hk H
      have hg := am_eN_gt (tk := tk) hp
      have hH : am_H n mC mA s e p stk := ⟨w, he, hp, by omega, hz⟩
      have ea := am_eN_2 (tk := tk) hp (by rw [hk]; decide)
      have b1 := am_eN_ge tk n (p + 1)
      have c1 : am_eN tk n (p + 1) ≤ n := am_eN_le hp
      have b2 := am_eN_ge tk n (am_eN tk n (p + 1))
      refine rMono _ _ _ _ _ _ ?_ (rPush _ p e stk rk rv s hH (Or.inr (Or.inl hk)) (ih (p + 1) e s ((p, e, 1, 0, 0) :: stk) rk rv (a + 4 * (am_eN tk n p - am_eN tk n (p + 1)) + 3) hp w he ⟨by decide, hz⟩ ?_ ?_ (am_K_bd (am_ev_G hA hn F (p + 1) e s w he) H (fun k v s1 w1 x1 v1 H1 => ?_))))
      · omega
      · rw [List.length_cons]; omega
      · omega
      · have hal := am_ext_al x1
        have hH1 : am_H n mC mA s1 e p stk := ⟨w1, am_okE_x x1 he, hp, hH.2.2.2⟩
        unfold am_c10 at H1
        by_cases k1 : k = 1 ∧ ¬ v = 0
        · rw [if_pos k1] at H1
          obtain ⟨k2, k3⟩ := k1
          subst k2
          refine rMono _ _ _ _ _ _ ?_ (rReq _ p e stk v s1 hH1 hk k3 (ih (am_eN tk n (p + 1)) e s1 ((p, e, 2, 0, 0) :: stk) 1 v (a + 1) c1 w1 (am_okE_x x1 he) ⟨by decide, hz⟩ ?_ ?_ (am_K_pop (am_ev_G hA hn F (am_eN tk n (p + 1)) e s1 w1 (am_okE_x x1 he)) H1 (fun k' v' s2 w2 x2 v2 h2 => rPop a p e stk 2 0 0 k' v' s2 ⟨w2, am_okE_x x2 (am_okE_x x1 he), hp, hH.2.2.2⟩ v2 (Or.inr (Or.inr (Or.inl ⟨hk, rfl⟩))) h2))))
          · omega
          · rw [List.length_cons]; omega
          · omega
        · rw [if_neg k1] at H1
          exact rMono _ _ _ _ _ _ (by omega) (rReqF a p e stk k v s1 hH1 hk v1 k1 (am_K_q H1))
    · intro hp hk H
      have hg := am_eN_gt (tk := tk) hp
      have hH : am_H n mC mA s e p stk := ⟨w, he, hp, by omega, hz⟩
      have ea := am_eN_2 (tk := tk) hp (by rw [hk]; decide)
      have b1 := am_eN_ge tk n (p + 1)
      have c1 : am_eN tk n (p + 1) ≤ n := am_eN_le hp
      have b2 := am_eN_ge tk n (am_eN tk n (p + 1))
      refine rMono _ _ _ _ _ _ ?_ (rPush _ p e stk rk rv s hH (Or.inr (Or.inr (Or.inl hk))) (ih (p + 1) e s ((p, e, 1, 0, 0) :: stk) rk rv (a + 4 * (am_eN tk n p - am_eN tk n (p + 1)) + 3) hp w he ⟨by decide, hz⟩ ?_ ?_ (am_K_bd (am_ev_G hA hn F (p + 1) e s w he) H (fun k v s1 w1 x1 v1 H1 => ?_))))
      · omega
      · rw [List.length_cons]; omega
      · omega
      · have hal := am_ext_al x1
        have hH1 : am_H n mC mA s1 e p stk := ⟨w1, am_okE_x x1 he, hp, hH.2.2.2⟩
        unfold am_c11 at H1
        by_cases k1 : mA ≤ am_al s1
        · rw [if_pos k1] at H1
          exact rMono _ _ _ _ _ _ (by omega) (rLetF a p e stk k v s1 hH1 hk v1 k1 (am_K_q H1))
        · rw [if_neg k1] at H1
          have k2 : am_al s1 < mA := Nat.lt_of_not_le k1
          have wn : am_WF n mC mA (am_nl (ta p) e k v s1) := am_WF_nl w1 k2 (am_okE_x x1 he) v1
          have on := am_okE_nf (ta p) e k v s1
          have xn := am_ext_nl (ta p) e k v s1
          have an := am_al_nl (ta p) e k v s1
          refine rMono _ _ _ _ _ _ ?_ (rLet _ p e stk k v s1 hH1 hk v1 k2 (ih (am_eN tk n (p + 1)) (nI (am_nf s1)) (am_nl (ta p) e k v s1) ((p, e, 2, 0, 0) :: stk) k v (a + 1) c1 wn on ⟨by decide, hz⟩ ?_ ?_ (am_K_pop (am_ev_G hA hn F (am_eN tk n (p + 1)) (nI (am_nf s1)) (am_nl (ta p) e k v s1) wn on) H1 (fun k' v' s2 w2 x2 v2 h2 => rPop a p e stk 2 0 0 k' v' s2 ⟨w2, am_okE_x x2 (am_okE_x xn (am_okE_x x1 he)), hp, hH.2.2.2⟩ v2 (Or.inr (Or.inr (Or.inr (Or.inl ⟨hk, rfl⟩)))) h2))))
          · omega
          · rw [List.length_cons]; omega
          · omega
    · intro hp hk H
      have hg := am_eN_gt (tk := tk) hp
      have hH : am_H n mC mA s e p stk := ⟨w, he, hp, by omega, hz⟩
      unfold am_e12 at H
      by_cases k1 : mA ≤ am_al s
      · rw [if_pos k1] at H
        exact rMono _ _ _ _ _ _ (by omega) (rLamF a p e stk rk rv s hH hk k1 (am_K_q H))
      · rw [if_neg k1] at H
        exact rMono _ _ _ _ _ _ (by omega) (rLam a p e stk rk rv s hH hk (Nat.lt_of_not_le k1) (am_K_o H))
    · intro hp hk H
      have hg := am_eN_gt (tk := tk) hp
      have hH : am_H n mC mA s e p stk := ⟨w, he, hp, by omega, hz⟩
      have ea := am_eN_2 (tk := tk) hp (by rw [hk]; decide)
      have b1 := am_eN_ge tk n (p + 1)
      have c1 : am_eN tk n (p + 1) ≤ n := am_eN_le hp
      have b2 := am_eN_ge tk n (am_eN tk n (p + 1))
      refine rMono _ _ _ _ _ _ ?_ (rPush _ p e stk rk rv s hH (Or.inr (Or.inr (Or.inr (Or.inl hk)))) (ih (p + 1) e s ((p, e, 1, 0, 0) :: stk) rk rv (a + 4 * (am_eN tk n p - am_eN tk n (p + 1)) + 3) hp w he ⟨by decide, hz⟩ ?_ ?_ (am_K_bd (am_ev_G hA hn F (p + 1) e s w he) H (fun k v s1 w1 x1 v1 H1 => ?_))))
      · omega
      · rw [List.length_cons]; omega
      · omega
      · have hal := am_ext_al x1
        have hH1 : am_H n mC mA s1 e p stk := ⟨w1, am_okE_x x1 he, hp, hH.2.2.2⟩
        refine rMono _ _ _ _ _ _ ?_ (rHold _ p e stk k v s1 hH1 v1 (Or.inl hk) (ih (am_eN tk n (p + 1)) e s1 ((p, e, 2, k, v) :: stk) k v (a + 1) c1 w1 (am_okE_x x1 he) ⟨by decide, hz⟩ ?_ ?_ (am_K_bd (am_ev_G hA hn F (am_eN tk n (p + 1)) e s1 w1 (am_okE_x x1 he)) H1 (fun k2 v2 s2 w2 x2 o2 H2 => ?_))))
        · omega
        · rw [List.length_cons]; omega
        · omega
        · have hal2 := am_ext_al x2
          have hH2 : am_H n mC mA s2 e p stk := ⟨w2, am_okE_x x2 (am_okE_x x1 he), hp, hH.2.2.2⟩
          unfold am_ap at H2
          by_cases k1 : k = 2
          · rw [if_pos k1] at H2
            by_cases q : mA ≤ am_al s2
            · rw [if_pos q] at H2
              exact rAppF a p e stk k v k2 v2 s2 hH2 hk (am_okV_x x2 v1) o2 (Or.inr q) (am_K_q H2)
            · rw [if_neg q] at H2
              have q' : am_al s2 < mA := Nat.lt_of_not_le q
              subst k1
              rcases am_okV_x x2 v1 with hv | ⟨_, c, hc, hv⟩
              · exact absurd hv (by decide)
              · have hcb : c < 2 ^ 31 := by have := am_WF_c w2 hA hc; omega
                obtain ⟨⟨lp, hlp, elp⟩, oc, _⟩ := w2.2.2.2 c hc
                have hlb : lp < 2 ^ 31 := by omega
                subst hv
                rw [nI_clamp hcb, elp, nI_clamp hlb] at H2
                have wn : am_WF n mC mA (am_nl (ta lp) (am_cEnv s2 c) k2 v2 s2) := am_WF_nl w2 q' oc o2
                have on := am_okE_nf (ta lp) (am_cEnv s2 c) k2 v2 s2
                have xn := am_ext_nl (ta lp) (am_cEnv s2 c) k2 v2 s2
                have an := am_al_nl (ta lp) (am_cEnv s2 c) k2 v2 s2
                have cb : am_eN tk n (lp + 1) ≤ n := am_eN_le hlp
                refine rApp (a + 1) p e stk k2 v2 s2 c lp hH2 hk o2 hc q' hlp elp (rMono _ _ _ _ _ _ ?_ (ih (lp + 1) (nI (am_nf s2)) (am_nl (ta lp) (am_cEnv s2 c) k2 v2 s2) ((p, e, 3, 2, nI c) :: stk) k2 v2 (a + 1) hlp wn on ⟨by decide, hz⟩ ?_ ?_ (am_K_pop (am_ev_G hA hn F (lp + 1) (nI (am_nf s2)) (am_nl (ta lp) (am_cEnv s2 c) k2 v2 s2) wn on) H2 (fun k' v' s3 w3 x3 o3 h3 => rPop a p e stk 3 2 (nI c) k' v' s3 ⟨w3, am_okE_x x3 (am_okE_x xn (am_okE_x x2 (am_okE_x x1 he))), hp, hH.2.2.2⟩ o3 (Or.inr (Or.inr (Or.inr (Or.inr (Or.inl ⟨hk, rfl⟩))))) h3))))
                · omega
                · rw [List.length_cons]; omega
                · omega
          · rw [if_neg k1] at H2
            exact rAppF a p e stk k v k2 v2 s2 hH2 hk (am_okV_x x2 v1) o2 (Or.inl k1) (am_K_q H2)
    · intro hp hk H
      have hg := am_eN_gt (tk := tk) hp
      have hH : am_H n mC mA s e p stk := ⟨w, he, hp, by omega, hz⟩
      have ea := am_eN_1 (tk := tk) hp (by rw [hk]; decide)
      have b1 := am_eN_ge tk n (p + 1)
      refine rMono _ _ _ _ _ _ ?_ (rPush _ p e stk rk rv s hH (Or.inr (Or.inr (Or.inr (Or.inr (Or.inl hk))))) (ih (p + 1) e s ((p, e, 1, 0, 0) :: stk) rk rv (a + 1) hp w he ⟨by decide, hz⟩ ?_ ?_ (am_K_bd (am_ev_G hA hn F (p + 1) e s w he) H (fun k v s1 w1 x1 v1 H1 => ?_))))
      · omega
      · rw [List.length_cons]; omega
      · omega
      · have hH1 : am_H n mC mA s1 e p stk := ⟨w1, am_okE_x x1 he, hp, hH.2.2.2⟩
        unfold am_c14 am_wr at H1
        rcases am_lk_ok (v := ta p) w1 hA 17 e (am_okE_x x1 he) with hf | ⟨f, hf, ef⟩
        · rw [hf, if_pos (by decide)] at H1
          exact rSetF a p e stk k v s1 hH1 hk v1 hf (am_K_q H1)
        · have hb : f < 2 ^ 31 := by have := am_WF_f w1 hA hf; omega
          rw [ef, if_neg (nI_pos hb), nI_clamp hb] at H1
          exact rSet a p e stk k v s1 f hH1 hk v1 hf ef (am_K_o H1)
    · intro hp hk H
      have hg := am_eN_gt (tk := tk) hp
      have hH : am_H n mC mA s e p stk := ⟨w, he, hp, by omega, hz⟩
      have ea := am_eN_2 (tk := tk) hp (by rw [hk]; decide)
      have b1 := am_eN_ge tk n (p + 1)
      have c1 : am_eN tk n (p + 1) ≤ n := am_eN_le hp
      have b2 := am_eN_ge tk n (am_eN tk n (p + 1))
      refine rMono _ _ _ _ _ _ ?_ (rPush _ p e stk rk rv s hH (Or.inr (Or.inr (Or.inr (Or.inr (Or.inr (Or.inl hk)))))) (ih (p + 1) e s ((p, e, 1, 0, 0) :: stk) rk rv (a + 4 * (am_eN tk n p - am_eN tk n (p + 1)) + 3) hp w he ⟨by decide, hz⟩ ?_ ?_ (am_K_bd (am_ev_G hA hn F (p + 1) e s w he) H (fun k v s1 w1 x1 v1 H1 => ?_))))
      · omega
      · rw [List.length_cons]; omega
      · omega
      · have hal := am_ext_al x1
        have hH1 : am_H n mC mA s1 e p stk := ⟨w1, am_okE_x x1 he, hp, hH.2.2.2⟩
        unfold am_c15 at H1
        refine rMono _ _ _ _ _ _ ?_ (rSeq _ p e stk k v s1 hH1 hk v1 (ih (am_eN tk n (p + 1)) e s1 ((p, e, 2, 0, 0) :: stk) k v (a + 1) c1 w1 (am_okE_x x1 he) ⟨by decide, hz⟩ ?_ ?_ (am_K_pop (am_ev_G hA hn F (am_eN tk n (p + 1)) e s1 w1 (am_okE_x x1 he)) H1 (fun k' v' s2 w2 x2 v2 h2 => rPop a p e stk 2 0 0 k' v' s2 ⟨w2, am_okE_x x2 (am_okE_x x1 he), hp, hH.2.2.2⟩ v2 (Or.inr (Or.inr (Or.inr (Or.inr (Or.inr ⟨hk, rfl⟩))))) h2))))
        · omega
        · rw [List.length_cons]; omega
        · omega
    · intro hp hk0 H
      have hk := am_binOf (hK p hp) hk0
      have hg := am_eN_gt (tk := tk) hp
      have hH : am_H n mC mA s e p stk := ⟨w, he, hp, by omega, hz⟩
      have ea := am_eN_2 hp (am_ar_bin hk)
      have b1 := am_eN_ge tk n (p + 1)
      have c1 : am_eN tk n (p + 1) ≤ n := am_eN_le hp
      have b2 := am_eN_ge tk n (am_eN tk n (p + 1))
      refine rMono _ _ _ _ _ _ ?_ (rPush _ p e stk rk rv s hH (Or.inr (Or.inr (Or.inr (Or.inr (Or.inr (Or.inr hk)))))) (ih (p + 1) e s ((p, e, 1, 0, 0) :: stk) rk rv (a + 4 * (am_eN tk n p - am_eN tk n (p + 1)) + 3) hp w he ⟨by decide, hz⟩ ?_ ?_ (am_K_bd (am_ev_G hA hn F (p + 1) e s w he) H (fun k v s1 w1 x1 v1 H1 => ?_))))
      · omega
      · rw [List.length_cons]; omega
      · omega
      · have hal := am_ext_al x1
        have hH1 : am_H n mC mA s1 e p stk := ⟨w1, am_okE_x x1 he, hp, hH.2.2.2⟩
        refine rMono _ _ _ _ _ _ ?_ (rHold _ p e stk k v s1 hH1 v1 (Or.inr hk) (ih (am_eN tk n (p + 1)) e s1 ((p, e, 2, k, v) :: stk) k v (a + 1) c1 w1 (am_okE_x x1 he) ⟨by decide, hz⟩ ?_ ?_ (am_K_bd (am_ev_G hA hn F (am_eN tk n (p + 1)) e s1 w1 (am_okE_x x1 he)) H1 (fun k2 v2 s2 w2 x2 o2 H2 => ?_))))
        · omega
        · rw [List.length_cons]; omega
        · omega
        · have hH2 : am_H n mC mA s2 e p stk := ⟨w2, am_okE_x x2 (am_okE_x x1 he), hp, hH.2.2.2⟩
          unfold am_ca at H2
          by_cases k1 : k = 1 ∧ k2 = 1
          · rw [if_pos k1] at H2
            obtain ⟨k3, k4⟩ := k1
            subst k3
            subst k4
            exact rCalc a p e stk v v2 s2 hH2 hk (am_K_o H2)
          · rw [if_neg k1] at H2
            exact rCalcF a p e stk k v k2 v2 s2 hH2 hk (am_okV_x x2 v1) o2 k1 (am_K_q H2)
end
section
/-! how the component keeps a store: locations and closures under the numbers of their allocations -/
def am_xe (s : am_S) (e : Int32) : Int32 := if e < 0 then -1 else nI (am_xl s e.toNatClampNeg)
def am_xk (k : Int32) : Int32 := if k = 2 then 1 else 0
def am_xv (s : am_S) (k v : Int32) : Int32 := if k = 2 then nI (am_xc s v.toNatClampNeg) else v
theorem am_xe_m (s : am_S) : am_xe s (-1) = -1 := if_pos (by decide)
theorem am_xe_f (s : am_S) {f : Nat} (h : f < 2 ^ 31) : am_xe s (nI f) = nI (am_xl s f) := by
  unfold am_xe
  rw [if_neg (nI_pos h), nI_clamp h]
theorem am_xk_1 : am_xk 1 = 0 := if_neg (by decide)
theorem am_xk_2 : am_xk 2 = 1 := if_pos rfl
theorem am_xv_1 (s : am_S) (v : Int32) : am_xv s 1 v = v := if_neg (by decide)
theorem am_xv_2 (s : am_S) {c : Nat} (h : c < 2 ^ 31) : am_xv s 2 (nI c) = nI (am_xc s c) := by
  unfold am_xv
  rw [if_pos rfl, nI_clamp h]
theorem am_xe_x {s t : am_S} {e : Int32} (h : am_ext s t) (g : am_okE s e) (hb : am_nf s ≤ 16) : am_xe t e = am_xe s e := by
  rcases g with g | ⟨f, hf, g⟩
  · rw [g, am_xe_m, am_xe_m]
  · rw [g, am_xe_f t (by omega), am_xe_f s (by omega), h.2.2.2.1 f hf]
theorem am_xv_x {s t : am_S} {k v : Int32} (h : am_ext s t) (g : am_okV s k v) (hb : am_nc s ≤ 16) : am_xv t k v = am_xv s k v := by
  rcases g with g | ⟨g, c, hc, gv⟩
  · rw [g, am_xv_1, am_xv_1]
  · rw [g, gv, am_xv_2 t (by omega), am_xv_2 s (by omega), h.2.2.2.2 c hc]
theorem am_nf16 {n mC mA : Nat} {s : am_S} (h : am_WF n mC mA s) (hA : mA ≤ 16) : am_nf s ≤ 16 ∧ am_nc s ≤ 16 ∧ am_al s ≤ 16 := by
  have h1 := h.2.1
  unfold am_al at h1 ⊢
  omega
def am_sx (s : am_S) (lV lO lC lW cT cE : Nat → Int32) : Prop :=
  (∀ f, f < am_nf s → lV (am_xl s f) = am_fVar s f ∧ lO (am_xl s f) = am_xe s (am_fPar s f) ∧ lC (am_xl s f) = am_xk (am_fK s f) ∧ lW (am_xl s f) = am_xv s (am_fK s f) (am_fV s f)) ∧
  (∀ c, c < am_nc s → cT (am_xc s c) = am_cPos s c ∧ cE (am_xc s c) = am_xe s (am_cEnv s c))
theorem am_wL_par {n mC mA : Nat} {s : am_S} (h : am_WF n mC mA s) {f : Nat} (hf : f < am_nf s) : am_okE s (am_fPar s f) := by
  rcases (h.2.2.1 f hf).1 with g | ⟨g, hg, eg⟩
  · exact Or.inl g
  · exact Or.inr ⟨g, by omega, eg⟩
theorem am_sx_tick {s : am_S} {lV lO lC lW cT cE : Nat → Int32} (h : am_sx s lV lO lC lW cT cE) : am_sx (am_tick s) lV lO lC lW cT cE := h
theorem am_sx_nl {n mC mA : Nat} {s : am_S} {lV lO lC lW cT cE : Nat → Int32} {x e k v : Int32} (w : am_WF n mC mA s) (hA : mA ≤ 16) (he : am_okE s e) (hv : am_okV s k v) (h : am_sx s lV lO lC lW cT cE) : am_sx (am_nl x e k v s) (upd lV (am_al s) x) (upd lO (am_al s) (am_xe s e)) (upd lC (am_al s) (am_xk k)) (upd lW (am_al s) (am_xv s k v)) cT cE := by
  obtain ⟨b1, b2, b3⟩ := am_nf16 w hA
  have hx := am_ext_nl x e k v s
  refine ⟨fun f hf => ?_, fun c hc => ?_⟩
  · have hf' : f < am_nf s + 1 := hf
    by_cases q : f = am_nf s
    · subst q
      have e1 : am_xl (am_nl x e k v s) (am_nf s) = am_al s := am_un_s
      have e2 : am_fVar (am_nl x e k v s) (am_nf s) = x := am_up_s
      have e3 : am_fPar (am_nl x e k v s) (am_nf s) = e := am_up_s
      have e4 : am_fK (am_nl x e k v s) (am_nf s) = k := am_up_s
      have e5 : am_fV (am_nl x e k v s) (am_nf s) = v := am_up_s
      rw [e1, e2, e3, e4, e5, am_up_s, am_up_s, am_up_s, am_up_s, am_xe_x hx he b1, am_xv_x hx hv b2]
      exact ⟨rfl, rfl, rfl, rfl⟩
    · have hf2 : f < am_nf s := by omega
      have hl := (w.2.2.1 f hf2).2.2.1
      have hne : am_xl s f ≠ am_al s := Nat.ne_of_lt hl
      have e1 : am_xl (am_nl x e k v s) f = am_xl s f := am_un_n q
      have e2 : am_fVar (am_nl x e k v s) f = am_fVar s f := am_up_n q
      have e3 : am_fPar (am_nl x e k v s) f = am_fPar s f := am_up_n q
      have e4 : am_fK (am_nl x e k v s) f = am_fK s f := am_up_n q
      have e5 : am_fV (am_nl x e k v s) f = am_fV s f := am_up_n q
      rw [e1, e2, e3, e4, e5, am_up_n hne, am_up_n hne, am_up_n hne, am_up_n hne, am_xe_x hx (am_wL_par w hf2) b1, am_xv_x hx (w.2.2.1 f hf2).2.1 b2]
      exact h.1 f hf2
  · have hc' : c < am_nc s := hc
    have e1 : am_xc (am_nl x e k v s) c = am_xc s c := rfl
    have e2 : am_cPos (am_nl x e k v s) c = am_cPos s c := rfl
    have e3 : am_cEnv (am_nl x e k v s) c = am_cEnv s c := rfl
    rw [e1, e2, e3, am_xe_x hx (w.2.2.2 c hc').2.1 b1]
    exact h.2 c hc'
theorem am_sx_nk {n mC mA : Nat} {s : am_S} {lV lO lC lW cT cE : Nat → Int32} {p : Nat} {e : Int32} (w : am_WF n mC mA s) (hA : mA ≤ 16) (he : am_okE s e) (h : am_sx s lV lO lC lW cT cE) : am_sx (am_nk p e s) lV lO lC lW (upd cT (am_al s) (nI p)) (upd cE (am_al s) (am_xe s e)) := by
  obtain ⟨b1, b2, b3⟩ := am_nf16 w hA
  have hx := am_ext_nk p e s
  refine ⟨fun f hf => ?_, fun c hc => ?_⟩
  · have hf2 : f < am_nf s := hf
    have e1 : am_xl (am_nk p e s) f = am_xl s f := rfl
    have e2 : am_fVar (am_nk p e s) f = am_fVar s f := rfl
    have e3 : am_fPar (am_nk p e s) f = am_fPar s f := rfl
    have e4 : am_fK (am_nk p e s) f = am_fK s f := rfl
    have e5 : am_fV (am_nk p e s) f = am_fV s f := rfl
    rw [e1, e2, e3, e4, e5, am_xe_x hx (am_wL_par w hf2) b1, am_xv_x hx (w.2.2.1 f hf2).2.1 b2]
    exact h.1 f hf2
  · have hc' : c < am_nc s + 1 := hc
    by_cases q : c = am_nc s
    · subst q
      have e1 : am_xc (am_nk p e s) (am_nc s) = am_al s := am_un_s
      have e2 : am_cPos (am_nk p e s) (am_nc s) = nI p := am_up_s
      have e3 : am_cEnv (am_nk p e s) (am_nc s) = e := am_up_s
      rw [e1, e2, e3, am_up_s, am_up_s, am_xe_x hx he b1]
      exact ⟨rfl, rfl⟩
    · have hc2 : c < am_nc s := by omega
      have hne : am_xc s c ≠ am_al s := Nat.ne_of_lt (w.2.2.2 c hc2).2.2
      have e1 : am_xc (am_nk p e s) c = am_xc s c := am_un_n q
      have e2 : am_cPos (am_nk p e s) c = am_cPos s c := am_up_n q
      have e3 : am_cEnv (am_nk p e s) c = am_cEnv s c := am_up_n q
      rw [e1, e2, e3, am_up_n hne, am_up_n hne, am_xe_x hx (w.2.2.2 c hc2).2.1 b1]
      exact h.2 c hc2
theorem am_xl_inj {n mC mA : Nat} {s : am_S} (w : am_WF n mC mA s) {f g : Nat} (hf : f < am_nf s) (hg : g < am_nf s) (h : f ≠ g) : am_xl s f ≠ am_xl s g := by
  rcases Nat.lt_or_gt_of_ne h with q | q
  · exact Nat.ne_of_lt ((w.2.2.1 g hg).2.2.2 f q)
  · exact Nat.ne_of_gt ((w.2.2.1 f hf).2.2.2 g q)
theorem am_sx_sl {n mC mA : Nat} {s : am_S} {lV lO lC lW cT cE : Nat → Int32} {f0 : Nat} {k v : Int32} (w : am_WF n mC mA s) (hf0 : f0 < am_nf s) (h : am_sx s lV lO lC lW cT cE) : am_sx (am_sl f0 k v s) lV lO (upd lC (am_xl s f0) (am_xk k)) (upd lW (am_xl s f0) (am_xv s k v)) cT cE := by
  refine ⟨fun f hf => ?_, fun c hc => h.2 c hc⟩
  have hf2 : f < am_nf s := hf
  have e1 : am_xl (am_sl f0 k v s) f = am_xl s f := rfl
  have e2 : am_fVar (am_sl f0 k v s) f = am_fVar s f := rfl
  have e3 : am_xe (am_sl f0 k v s) (am_fPar (am_sl f0 k v s) f) = am_xe s (am_fPar s f) := rfl
  have e6 : ∀ x y, am_xv (am_sl f0 k v s) x y = am_xv s x y := fun _ _ => rfl
  rw [e1, e2, e3, e6]
  by_cases q : f = f0
  · subst q
    have e4 : am_fK (am_sl f k v s) f = k := am_up_s
    have e5 : am_fV (am_sl f k v s) f = v := am_up_s
    rw [e4, e5, am_up_s, am_up_s]
    exact ⟨(h.1 f hf2).1, (h.1 f hf2).2.1, rfl, rfl⟩
  · have e4 : am_fK (am_sl f0 k v s) f = am_fK s f := am_up_n q
    have e5 : am_fV (am_sl f0 k v s) f = am_fV s f := am_up_n q
    have hne := am_xl_inj w hf2 hf0 q
    rw [e4, e5, am_up_n hne, am_up_n hne]
    exact h.1 f hf2
/-! the component's frames: those that wait for a value -/
def am_er (tk : Nat → Int32) : List am_F → List am_F
  | [] => []
  | (p, e, st, k, v) :: r => if (tk p = 7 ∧ st = 2) ∨ (tk p = 8 ∧ st = 1) ∨ (tk p = 10 ∧ st = 2) ∨ (tk p = 11 ∧ st = 2) ∨ (tk p = 13 ∧ st = 3) ∨ (tk p = 15 ∧ st = 2) then am_er tk r else (p, e, st, k, v) :: am_er tk r
theorem am_er_t {tk : Nat → Int32} {p : Nat} {e st k v : Int32} {r : List am_F} (h : am_tl (tk p) st) : am_er tk ((p, e, st, k, v) :: r) = am_er tk r := if_pos h
theorem am_er_f {tk : Nat → Int32} {p : Nat} {e st k v : Int32} {r : List am_F} (h : ¬ am_tl (tk p) st) : am_er tk ((p, e, st, k, v) :: r) = (p, e, st, k, v) :: am_er tk r := if_neg h
theorem am_er_le (tk : Nat → Int32) : ∀ r : List am_F, (am_er tk r).length ≤ r.length := by
  intro r
  induction r with
  | nil => exact Nat.le_refl _
  | cons f r ih =>
    obtain ⟨p, e, st, k, v⟩ := f
    by_cases h : am_tl (tk p) st
    · rw [am_er_t h, List.length_cons]; omega
    · rw [am_er_f h, List.length_cons, List.length_cons]; omega
def am_fx (s : am_S) (fT fE fH fC fV : Nat → Int32) : List am_F → Prop
  | [] => True
  | (p, e, st, k, v) :: r => fT r.length = nI p ∧ am_okE s e ∧ fE r.length = am_xe s e ∧ ((st = 1 ∧ fH r.length = 0) ∨ (st = 2 ∧ fH r.length = 1 ∧ am_okV s k v ∧ fC r.length = am_xk k ∧ fV r.length = am_xv s k v)) ∧ am_fx s fT fE fH fC fV r
theorem am_fx_x {s t : am_S} {fT fE fH fC fV : Nat → Int32} (hx : am_ext s t) (b1 : am_nf s ≤ 16) (b2 : am_nc s ≤ 16) : ∀ r : List am_F, am_fx s fT fE fH fC fV r → am_fx t fT fE fH fC fV r := by
  intro r
  induction r with
  | nil => intro _; exact True.intro
  | cons f r ih =>
    obtain ⟨p, e, st, k, v⟩ := f
    intro h
    obtain ⟨h1, h2, h3, h4, h5⟩ := h
    refine ⟨h1, am_okE_x hx h2, by rw [am_xe_x hx h2 b1]; exact h3, ?_, ih h5⟩
    rcases h4 with h4 | ⟨g1, g2, g3, g4, g5⟩
    · exact Or.inl h4
    · exact Or.inr ⟨g1, g2, am_okV_x hx g3, g4, by rw [am_xv_x hx g3 b2]; exact g5⟩
theorem am_fx_eq {s : am_S} {fT fE fH fC fV gT gE gH gC gV : Nat → Int32} : ∀ (r : List am_F), (∀ i, i < r.length → gT i = fT i ∧ gE i = fE i ∧ gH i = fH i ∧ gC i = fC i ∧ gV i = fV i) → am_fx s fT fE fH fC fV r → am_fx s gT gE gH gC gV r := by
  intro r
  induction r with
  | nil => intro _ _; exact True.intro
  | cons f r ih =>
    obtain ⟨p, e, st, k, v⟩ := f
    intro hi h
    obtain ⟨h1, h2, h3, h4, h5⟩ := h
    obtain ⟨i1, i2, i3, i4, i5⟩ := hi r.length (by rw [List.length_cons]; omega)
    refine ⟨by rw [i1]; exact h1, h2, by rw [i2]; exact h3, by rw [i3, i4, i5]; exact h4, ih (fun i hl => hi i (by rw [List.length_cons]; omega)) h5⟩
end
section
/-! what both of whole's sides use -/
def am_mx (L0 u : Nat) : Nat := L0 + (u - L0)
def am_bI : Bool → Int32
  | true => 1
  | false => 0
theorem am_bI_n (x : Bool) : am_bI x = nI (am_b1 x) := by cases x <;> decide
theorem am_sub {a b : Nat} (h : b ≤ a) : nI a - nI b = nI (a - b) := by
  obtain ⟨c, rfl⟩ : ∃ c, a = c + b := ⟨a - b, by omega⟩
  rw [← nI_add, Int32.add_sub_cancel, Nat.add_sub_cancel]
theorem am_m1 (n : Nat) : nI (n + 1) + (-1) = nI n := by
  rw [← nI_1, Int32.add_assoc, show (1 : Int32) + (-1) = 0 from rfl, Int32.add_zero]
def am_pI : Nat → Int32
  | 0 => -1
  | k + 1 => nI k
theorem am_pI_m (k : Nat) : nI k + (-1) = am_pI k := by
  cases k with
  | zero => decide
  | succ k => exact am_m1 k
theorem am_pI_s (k : Nat) : nI k - 1 = am_pI k := by
  cases k with
  | zero => decide
  | succ k => exact nI_pred k
theorem am_al_nk (p : Nat) (e : Int32) (s : am_S) : am_al (am_nk p e s) = am_al s + 1 := rfl
end
section
/-! the component's small methods -/
theorem am_nar0 : vp_nar .boolean 0 = 0 := by rfl
theorem am_nar1 : vp_nar .boolean 1 = 1 := by rfl
theorem am_nark (k : Int32) : vp_nar .boolean (am_xk k) = am_xk k := by
  by_cases q : k = 2
  · rw [q, am_xk_2]; rfl
  · have e : am_xk k = 0 := if_neg q
    rw [e]; rfl
theorem am_boolk (k : Int32) : narrow .boolean (.int (am_xk k)) = .int (am_xk k) ∧ fits .boolean (.int (am_xk k)) = true := by
  by_cases q : k = 2
  · rw [q, am_xk_2]; exact ⟨rfl, rfl⟩
  · have e : am_xk k = 0 := if_neg q
    rw [e]; exact ⟨rfl, rfl⟩
theorem am_shr : ∀ x, x < 64 → ∀ k, k < 6 → nI x >>> (nI k &&& 31) = nI (x / 2 ^ k) := by decide +kernel
theorem am_shr1 : ∀ x, x < 64 → nI x >>> ((1 : Int32) &&& 31) = nI (x / 2) := by decide +kernel
theorem am_shl1 : ∀ x, x < 64 → nI x <<< ((1 : Int32) &&& 31) = nI (2 * x) := by decide +kernel
theorem am_and1 : ∀ x, x < 64 → nI x &&& 1 = nI (x % 2) := by decide +kernel
theorem am_or1 : ∀ x, x < 32 → nI (2 * x) ||| 1 = nI (2 * x + 1) := by decide +kernel
theorem am_bit {b : Nat → Bool} {L u : Nat} (hu : u < L) (hL : L ≤ 6) : (nI (am_nm b L) >>> ((nI L - nI (u + 1)) &&& 31)) &&& 1 = nI (am_b1 (b u)) := by
  have hx := am_nm_le (b := b) hL
  have e1 : am_nm b L / 2 ^ (L - (u + 1)) = am_nm b (u + 1) := by
    have h := am_nm_sh b (u + 1) (L - (u + 1))
    have e : u + 1 + (L - (u + 1)) = L := by omega
    rw [e] at h
    exact h
  have hy := am_nm_le (b := b) (L := u + 1) (by omega)
  rw [am_sub (by omega), am_shr _ hx _ (by omega), e1, am_and1 _ hy, am_nm_odd]
section
variable {f_maxChoices f_maxAlloc f_held f_stage f_solutions f_failures f_lastKind f_lastValue f_lastChoices f_lastChoiceCount f_lastAllocCount f_steering f_steeringLength f_pathLeft f_failed f_choicesMade f_allocsMade f_visiting f_position f_environment f_resultIsClosure f_resultValue f_depth : Int32} {a_kinds a_args a_ends a_locationVariable a_locationOuter a_locationIsClosure a_locationValue a_closureToken a_closureEnvironment a_frameToken a_frameEnvironment a_frameHasFirst a_frameFirstIsClosure a_frameFirstValue : Nat → Int32}
theorem am_xvn {post : St2 → Prop} {x x' : Int32} (ex : x = x') (h : post (f_maxChoices, f_maxAlloc, f_held, f_stage, f_solutions, f_failures, f_lastKind, f_lastValue, f_lastChoices, f_lastChoiceCount, f_lastAllocCount, f_steering, f_steeringLength, f_pathLeft, f_failed, f_choicesMade, f_allocsMade, 1, x', f_environment, f_resultIsClosure, f_resultValue, f_depth, a_kinds, a_args, a_ends, a_locationVariable, a_locationOuter, a_locationIsClosure, a_locationValue, a_closureToken, a_closureEnvironment, a_frameToken, a_frameEnvironment, a_frameHasFirst, a_frameFirstIsClosure, a_frameFirstValue)) : wpX_visitNext post (f_maxChoices, f_maxAlloc, f_held, f_stage, f_solutions, f_failures, f_lastKind, f_lastValue, f_lastChoices, f_lastChoiceCount, f_lastAllocCount, f_steering, f_steeringLength, f_pathLeft, f_failed, f_choicesMade, f_allocsMade, f_visiting, f_position, f_environment, f_resultIsClosure, f_resultValue, f_depth, a_kinds, a_args, a_ends, a_locationVariable, a_locationOuter, a_locationIsClosure, a_locationValue, a_closureToken, a_closureEnvironment, a_frameToken, a_frameEnvironment, a_frameHasFirst, a_frameFirstIsClosure, a_frameFirstValue) x := by
  rw [ex]
  exact h
theorem am_xholdsT {post : Int32 → Prop} {n p : Nat} (hn : n ≤ 32) (hp : p < n) (h : post 1) : wpX_holds post (f_maxChoices, f_maxAlloc, nI n, f_stage, f_solutions, f_failures, f_lastKind, f_lastValue, f_lastChoices, f_lastChoiceCount, f_lastAllocCount, f_steering, f_steeringLength, f_pathLeft, f_failed, f_choicesMade, f_allocsMade, f_visiting, f_position, f_environment, f_resultIsClosure, f_resultValue, f_depth, a_kinds, a_args, a_ends, a_locationVariable, a_locationOuter, a_locationIsClosure, a_locationValue, a_closureToken, a_closureEnvironment, a_frameToken, a_frameEnvironment, a_frameHasFirst, a_frameFirstIsClosure, a_frameFirstValue) (nI p) := br_f (nI_pos (by omega)) (br_f (nI_ge hp (by omega)) h)
theorem am_xholdsF {post : Int32 → Prop} {n p : Nat} (hp : n ≤ p) (hb : p ≤ 32) (h : post 0) : wpX_holds post (f_maxChoices, f_maxAlloc, nI n, f_stage, f_solutions, f_failures, f_lastKind, f_lastValue, f_lastChoices, f_lastChoiceCount, f_lastAllocCount, f_steering, f_steeringLength, f_pathLeft, f_failed, f_choicesMade, f_allocsMade, f_visiting, f_position, f_environment, f_resultIsClosure, f_resultValue, f_depth, a_kinds, a_args, a_ends, a_locationVariable, a_locationOuter, a_locationIsClosure, a_locationValue, a_closureToken, a_closureEnvironment, a_frameToken, a_frameEnvironment, a_frameHasFirst, a_frameFirstIsClosure, a_frameFirstValue) (nI p) := br_f (nI_pos (by omega)) (br_t (nI_le hp (by omega)) h)
theorem am_xtk {post : Int32 → Prop} {n p : Nat} {tk : Nat → Int32} (hn : n ≤ 32) (hp : p < n) (h : post (tk p)) : wpX_tokenKind post (f_maxChoices, f_maxAlloc, nI n, f_stage, f_solutions, f_failures, f_lastKind, f_lastValue, f_lastChoices, f_lastChoiceCount, f_lastAllocCount, f_steering, f_steeringLength, f_pathLeft, f_failed, f_choicesMade, f_allocsMade, f_visiting, f_position, f_environment, f_resultIsClosure, f_resultValue, f_depth, tk, a_args, a_ends, a_locationVariable, a_locationOuter, a_locationIsClosure, a_locationValue, a_closureToken, a_closureEnvironment, a_frameToken, a_frameEnvironment, a_frameHasFirst, a_frameFirstIsClosure, a_frameFirstValue) (nI p) := by
  have hc : (nI p).toNatClampNeg = p := nI_clamp (by omega)
  unfold wpX_tokenKind
  exact am_xholdsT hn hp (br_f (by decide) ⟨vp_in_nI (by omega) (by decide), by rw [hc]; exact h⟩)
theorem am_xta {post : Int32 → Prop} {n p : Nat} {ta : Nat → Int32} (hn : n ≤ 32) (hp : p < n) (h : post (ta p)) : wpX_tokenArg post (f_maxChoices, f_maxAlloc, nI n, f_stage, f_solutions, f_failures, f_lastKind, f_lastValue, f_lastChoices, f_lastChoiceCount, f_lastAllocCount, f_steering, f_steeringLength, f_pathLeft, f_failed, f_choicesMade, f_allocsMade, f_visiting, f_position, f_environment, f_resultIsClosure, f_resultValue, f_depth, a_kinds, ta, a_ends, a_locationVariable, a_locationOuter, a_locationIsClosure, a_locationValue, a_closureToken, a_closureEnvironment, a_frameToken, a_frameEnvironment, a_frameHasFirst, a_frameFirstIsClosure, a_frameFirstValue) (nI p) := by
  have hc : (nI p).toNatClampNeg = p := nI_clamp (by omega)
  unfold wpX_tokenArg
  exact am_xholdsT hn hp (br_f (by decide) ⟨vp_in_nI (by omega) (by decide), by rw [hc]; exact h⟩)
theorem am_xend {post : Int32 → Prop} {n p : Nat} {tk en : Nat → Int32} {x : Int32} (hn : n ≤ 32) (hp : p ≤ n) (hen : ∀ i, i < n → en i = nI (am_eN tk n i)) (ex : x = nI p) (h : post (nI (am_eN tk n p))) : wpX_endOf post (f_maxChoices, f_maxAlloc, nI n, f_stage, f_solutions, f_failures, f_lastKind, f_lastValue, f_lastChoices, f_lastChoiceCount, f_lastAllocCount, f_steering, f_steeringLength, f_pathLeft, f_failed, f_choicesMade, f_allocsMade, f_visiting, f_position, f_environment, f_resultIsClosure, f_resultValue, f_depth, a_kinds, a_args, en, a_locationVariable, a_locationOuter, a_locationIsClosure, a_locationValue, a_closureToken, a_closureEnvironment, a_frameToken, a_frameEnvironment, a_frameHasFirst, a_frameFirstIsClosure, a_frameFirstValue) x := by
  rw [ex]
  have hc : (nI p).toNatClampNeg = p := nI_clamp (by omega)
  by_cases q : p < n
  · exact br_f (nI_pos (by omega)) (br_f (nI_ge q (by omega)) ⟨vp_in_nI (by omega) (by decide), by rw [hc, hen p q]; exact h⟩)
  · have e : p = n := by omega
    rw [e, am_eN_n] at h
    exact br_f (nI_pos (by omega)) (br_t (nI_le (by omega) (by omega)) h)
theorem am_xfind0 {post : Int32 → Prop} {n mC mA : Nat} {s : am_S} {x : Int32} (w : am_WF n mC mA s) (hA : mA ≤ 16) (hs : am_sx s a_locationVariable a_locationOuter a_locationIsClosure a_locationValue a_closureToken a_closureEnvironment) : ∀ (k j : Nat) (e : Int32), j + k = 16 → am_okE s e → post (am_xe s (am_lk s x k e)) → wX_find_7 post x f_maxChoices f_maxAlloc f_held f_stage f_solutions f_failures f_lastKind f_lastValue f_lastChoices f_lastChoiceCount f_lastAllocCount f_steering f_steeringLength f_pathLeft f_failed f_choicesMade f_allocsMade f_visiting f_position f_environment f_resultIsClosure f_resultValue f_depth a_kinds a_args a_ends a_locationVariable a_locationOuter a_locationIsClosure a_locationValue a_closureToken a_closureEnvironment a_frameToken a_frameEnvironment a_frameHasFirst a_frameFirstIsClosure a_frameFirstValue (k + 1) (am_xe s e) (nI j) := by
  intro k
  induction k with
  | zero =>
    intro j e hj he h
    have h' : post (-1) := by
      rw [show am_lk s x 0 e = -1 from rfl, am_xe_m] at h
      exact h
    have h16 : (16 : Int32) ≤ nI j := by
      have : j = 16 := by omega
      rw [this]
      decide
    rw [wX_find_7]
    exact br_t h16 h'
  | succ k ih =>
    intro j e hj he h
    have j16 : ¬ (16 : Int32) ≤ nI j := nI_ge (b := 16) (by omega) (by decide)
    rw [am_lk_s] at h
    rcases he with he | ⟨f, hf, he⟩
    · subst he
      rw [if_pos (by decide), am_xe_m] at h
      rw [am_xe_m, wX_find_7]
      exact br_f j16 (br_t (by decide) h)
    · subst he
      have hb := am_WF_f w hA hf
      have hxl : am_xl s f < 16 := by
        have h1 := (w.2.2.1 f hf).2.2.1
        have h2 := w.2.1
        omega
      have hc : (nI f).toNatClampNeg = f := nI_clamp (by omega)
      have hd : (nI (am_xl s f)).toNatClampNeg = am_xl s f := nI_clamp (by omega)
      rw [if_neg (nI_pos (by omega)), hc] at h
      obtain ⟨s1, s2, _, _⟩ := hs.1 f hf
      have f16 : ¬ (16 : Int32) ≤ nI (am_xl s f) := nI_ge (b := 16) hxl (by decide)
      have vf : vp_in (nI (am_xl s f)) 16 := vp_in_nI hxl (by decide)
      rw [am_xe_f s (by omega), wX_find_7]
      refine br_f j16 (br_f (nI_pos (by omega)) (br_f f16 ⟨vf, ?_⟩))
      by_cases q : am_fVar s f = x
      · rw [if_pos q, am_xe_f s (by omega)] at h
        exact br_t (by rw [hd, s1]; exact q) h
      · rw [if_neg q] at h
        have e2 : a_locationOuter (nI (am_xl s f)).toNatClampNeg = am_xe s (am_fPar s f) := by rw [hd, s2]
        exact br_f (by rw [hd, s1]; exact q) ⟨vf, nm_r e2 (nm_r (nI_1 j) (ih (j + 1) _ (by omega) (am_wL_par w hf) h))⟩
theorem am_xfind {post : Int32 → Prop} {n mC mA : Nat} {s : am_S} {x e r : Int32} (w : am_WF n mC mA s) (hA : mA ≤ 16) (hs : am_sx s a_locationVariable a_locationOuter a_locationIsClosure a_locationValue a_closureToken a_closureEnvironment) (he : am_okE s e) (er : am_lk s x 17 e = r) (h : post (am_xe s r)) : wpX_find post (f_maxChoices, f_maxAlloc, f_held, f_stage, f_solutions, f_failures, f_lastKind, f_lastValue, f_lastChoices, f_lastChoiceCount, f_lastAllocCount, f_steering, f_steeringLength, f_pathLeft, f_failed, f_choicesMade, f_allocsMade, f_visiting, f_position, am_xe s e, f_resultIsClosure, f_resultValue, f_depth, a_kinds, a_args, a_ends, a_locationVariable, a_locationOuter, a_locationIsClosure, a_locationValue, a_closureToken, a_closureEnvironment, a_frameToken, a_frameEnvironment, a_frameHasFirst, a_frameFirstIsClosure, a_frameFirstValue) x := by
  rw [← er, am_lk_16 w hA he] at h
  exact ⟨17, am_xfind0 w hA hs 16 0 e (by omega) he h⟩
theorem am_xopen {post : St2 → Prop} {t p : Nat} (ht : t < 544) (h : post (f_maxChoices, f_maxAlloc, f_held, f_stage, f_solutions, f_failures, f_lastKind, f_lastValue, f_lastChoices, f_lastChoiceCount, f_lastAllocCount, f_steering, f_steeringLength, f_pathLeft, f_failed, f_choicesMade, f_allocsMade, 1, nI (p + 1), f_environment, f_resultIsClosure, f_resultValue, nI (t + 1), a_kinds, a_args, a_ends, a_locationVariable, a_locationOuter, a_locationIsClosure, a_locationValue, a_closureToken, a_closureEnvironment, upd a_frameToken t (nI p), upd a_frameEnvironment t f_environment, upd a_frameHasFirst t 0, a_frameFirstIsClosure, a_frameFirstValue)) : wpX_openFrame post (f_maxChoices, f_maxAlloc, f_held, f_stage, f_solutions, f_failures, f_lastKind, f_lastValue, f_lastChoices, f_lastChoiceCount, f_lastAllocCount, f_steering, f_steeringLength, f_pathLeft, f_failed, f_choicesMade, f_allocsMade, f_visiting, f_position, f_environment, f_resultIsClosure, f_resultValue, nI t, a_kinds, a_args, a_ends, a_locationVariable, a_locationOuter, a_locationIsClosure, a_locationValue, a_closureToken, a_closureEnvironment, a_frameToken, a_frameEnvironment, a_frameHasFirst, a_frameFirstIsClosure, a_frameFirstValue) (nI p) := by
  have hc : (nI t).toNatClampNeg = t := nI_clamp (by omega)
  have v : vp_in (nI t) 544 := vp_in_nI ht (by decide)
  have l : nI t < 544 := nI_lt (b := 544) ht (by decide)
  exact br_t l ⟨v, nm_r (by rw [hc]) ⟨v, nm_r (by rw [hc]) ⟨v, nm_r (by rw [hc]) (nm_r (nI_1 t) (am_xvn (nI_1 p) h))⟩⟩⟩
theorem am_xbindT {post : St2 → Prop} {a mA : Nat} {x x' o o' c : Int32} (h1 : a < mA) (h2 : mA ≤ 16) (ec : vp_nar .boolean c = c) (ex : x = x') (eo : o = o') (h : post (f_maxChoices, nI mA, f_held, f_stage, f_solutions, f_failures, f_lastKind, f_lastValue, f_lastChoices, f_lastChoiceCount, f_lastAllocCount, f_steering, f_steeringLength, f_pathLeft, f_failed, f_choicesMade, nI (a + 1), f_visiting, f_position, nI a, c, f_resultValue, f_depth, a_kinds, a_args, a_ends, upd a_locationVariable a x', upd a_locationOuter a o', upd a_locationIsClosure a c, upd a_locationValue a f_resultValue, a_closureToken, a_closureEnvironment, a_frameToken, a_frameEnvironment, a_frameHasFirst, a_frameFirstIsClosure, a_frameFirstValue)) : wpX_bind post (f_maxChoices, nI mA, f_held, f_stage, f_solutions, f_failures, f_lastKind, f_lastValue, f_lastChoices, f_lastChoiceCount, f_lastAllocCount, f_steering, f_steeringLength, f_pathLeft, f_failed, f_choicesMade, nI a, f_visiting, f_position, f_environment, c, f_resultValue, f_depth, a_kinds, a_args, a_ends, a_locationVariable, a_locationOuter, a_locationIsClosure, a_locationValue, a_closureToken, a_closureEnvironment, a_frameToken, a_frameEnvironment, a_frameHasFirst, a_frameFirstIsClosure, a_frameFirstValue) x o := by
  subst ex
  subst eo
  have hc : (nI a).toNatClampNeg = a := nI_clamp (by omega)
  have v : vp_in (nI a) 16 := vp_in_nI (by omega) (by decide)
  exact br_t (nI_lt h1 (by omega)) ⟨v, nm_r (by rw [hc]) ⟨v, nm_r (by rw [hc]) ⟨v, nm_r (by rw [hc, ec]) ⟨v, nm_r (by rw [hc]) (nm_r (nI_1 a) h)⟩⟩⟩⟩
theorem am_xbindF {post : St2 → Prop} {a mA : Nat} {x o : Int32} (h1 : mA ≤ a) (h2 : a ≤ 16) (h : post (f_maxChoices, nI mA, f_held, f_stage, f_solutions, f_failures, f_lastKind, f_lastValue, f_lastChoices, f_lastChoiceCount, f_lastAllocCount, f_steering, f_steeringLength, f_pathLeft, 1, f_choicesMade, nI a, f_visiting, f_position, f_environment, f_resultIsClosure, f_resultValue, f_depth, a_kinds, a_args, a_ends, a_locationVariable, a_locationOuter, a_locationIsClosure, a_locationValue, a_closureToken, a_closureEnvironment, a_frameToken, a_frameEnvironment, a_frameHasFirst, a_frameFirstIsClosure, a_frameFirstValue)) : wpX_bind post (f_maxChoices, nI mA, f_held, f_stage, f_solutions, f_failures, f_lastKind, f_lastValue, f_lastChoices, f_lastChoiceCount, f_lastAllocCount, f_steering, f_steeringLength, f_pathLeft, f_failed, f_choicesMade, nI a, f_visiting, f_position, f_environment, f_resultIsClosure, f_resultValue, f_depth, a_kinds, a_args, a_ends, a_locationVariable, a_locationOuter, a_locationIsClosure, a_locationValue, a_closureToken, a_closureEnvironment, a_frameToken, a_frameEnvironment, a_frameHasFirst, a_frameFirstIsClosure, a_frameFirstValue) x o := br_f (nI_nlt h1 (by omega)) h
theorem am_xcomb {post : Int32 → Prop} {k x x' y : Int32} (hk : am_bin k) (ex : x' = x) (h : post (am_op k x y)) : wpX_combine post () k x' y := by
  subst ex
  rcases hk with q | q | q | q | q
  · subst q
    exact br_f (by decide) (br_f (by decide) (br_t rfl h))
  · subst q
    exact br_f (by decide) (br_f (by decide) (br_f (by decide) (br_t rfl h)))
  · subst q
    exact br_f (by decide) (br_f (by decide) (br_f (by decide) (br_f (by decide) (br_t rfl h))))
  · subst q
    have eo : am_op 5 x' y = if x' < y then 1 else 0 := rfl
    rw [eo] at h
    exact br_f (by decide) (br_f (by decide) (br_f (by decide) (br_f (by decide) (br_f (by decide) (br_t rfl (br_c (fun z => by rw [if_neg (Int32.not_lt.mpr z)] at h; exact h) (fun z => by rw [if_pos (Int32.not_le.mp z)] at h; exact h)))))))
  · subst q
    have eo : am_op 6 x' y = if x' = y then 1 else 0 := rfl
    rw [eo] at h
    exact br_f (by decide) (br_t (by decide) (br_c (fun z => by rw [if_pos z] at h; exact h) (fun z => by rw [if_neg z] at h; exact h)))
theorem am_nm1 {a : Nat} (h : a < 2 ^ 31) : ¬ nI a = -1 := by
  intro q
  have h2 := nI_pos h
  rw [q] at h2
  exact h2 (by decide)
theorem am_xgi {post : St2 → Prop} {x x' : Int32} (ex : x = x') (h : post (f_maxChoices, f_maxAlloc, f_held, f_stage, f_solutions, f_failures, f_lastKind, f_lastValue, f_lastChoices, f_lastChoiceCount, f_lastAllocCount, f_steering, f_steeringLength, f_pathLeft, f_failed, f_choicesMade, f_allocsMade, 0, f_position, f_environment, 0, x', f_depth, a_kinds, a_args, a_ends, a_locationVariable, a_locationOuter, a_locationIsClosure, a_locationValue, a_closureToken, a_closureEnvironment, a_frameToken, a_frameEnvironment, a_frameHasFirst, a_frameFirstIsClosure, a_frameFirstValue)) : wpX_giveInt post (f_maxChoices, f_maxAlloc, f_held, f_stage, f_solutions, f_failures, f_lastKind, f_lastValue, f_lastChoices, f_lastChoiceCount, f_lastAllocCount, f_steering, f_steeringLength, f_pathLeft, f_failed, f_choicesMade, f_allocsMade, f_visiting, f_position, f_environment, f_resultIsClosure, f_resultValue, f_depth, a_kinds, a_args, a_ends, a_locationVariable, a_locationOuter, a_locationIsClosure, a_locationValue, a_closureToken, a_closureEnvironment, a_frameToken, a_frameEnvironment, a_frameHasFirst, a_frameFirstIsClosure, a_frameFirstValue) x := by
  rw [ex]
  exact h
theorem am_xrvT {post : St2 → Prop} {n mC mA f : Nat} {s : am_S} {x x' e : Int32} (w : am_WF n mC mA s) (hA : mA ≤ 16) (hs : am_sx s a_locationVariable a_locationOuter a_locationIsClosure a_locationValue a_closureToken a_closureEnvironment) (he : am_okE s e) (ex : x = x') (hf : f < am_nf s) (er : am_lk s x' 17 e = nI f) (h : post (f_maxChoices, f_maxAlloc, f_held, f_stage, f_solutions, f_failures, f_lastKind, f_lastValue, f_lastChoices, f_lastChoiceCount, f_lastAllocCount, f_steering, f_steeringLength, f_pathLeft, f_failed, f_choicesMade, f_allocsMade, 0, f_position, am_xe s e, am_xk (am_fK s f), am_xv s (am_fK s f) (am_fV s f), f_depth, a_kinds, a_args, a_ends, a_locationVariable, a_locationOuter, a_locationIsClosure, a_locationValue, a_closureToken, a_closureEnvironment, a_frameToken, a_frameEnvironment, a_frameHasFirst, a_frameFirstIsClosure, a_frameFirstValue)) : wpX_readVariable post (f_maxChoices, f_maxAlloc, f_held, f_stage, f_solutions, f_failures, f_lastKind, f_lastValue, f_lastChoices, f_lastChoiceCount, f_lastAllocCount, f_steering, f_steeringLength, f_pathLeft, f_failed, f_choicesMade, f_allocsMade, f_visiting, f_position, am_xe s e, f_resultIsClosure, f_resultValue, f_depth, a_kinds, a_args, a_ends, a_locationVariable, a_locationOuter, a_locationIsClosure, a_locationValue, a_closureToken, a_closureEnvironment, a_frameToken, a_frameEnvironment, a_frameHasFirst, a_frameFirstIsClosure, a_frameFirstValue) x := by
  subst ex
  have hb := am_WF_f w hA hf
  have hxl : am_xl s f < 16 := by
    have h1 := (w.2.2.1 f hf).2.2.1
    have h2 := w.2.1
    omega
  have hd : (nI (am_xl s f)).toNatClampNeg = am_xl s f := nI_clamp (by omega)
  obtain ⟨_, _, s3, s4⟩ := hs.1 f hf
  have v : vp_in (nI (am_xl s f)) 16 := vp_in_nI hxl (by decide)
  have e3 : a_locationIsClosure (nI (am_xl s f)).toNatClampNeg = am_xk (am_fK s f) := by rw [hd, s3]
  have e4 : a_locationValue (nI (am_xl s f)).toNatClampNeg = am_xv s (am_fK s f) (am_fV s f) := by rw [hd, s4]
  unfold wpX_readVariable
  refine am_xfind w hA hs he er ?_
  rw [am_xe_f s (by omega)]
  exact br_f (am_nm1 (by omega)) ⟨v, nm_r e3 ⟨(am_boolk _).1, (am_boolk _).2, v, nm_r e4 h⟩⟩
theorem am_xrvF {post : St2 → Prop} {n mC mA : Nat} {s : am_S} {x x' e : Int32} (w : am_WF n mC mA s) (hA : mA ≤ 16) (hs : am_sx s a_locationVariable a_locationOuter a_locationIsClosure a_locationValue a_closureToken a_closureEnvironment) (he : am_okE s e) (ex : x = x') (er : am_lk s x' 17 e = -1) (h : post (f_maxChoices, f_maxAlloc, f_held, f_stage, f_solutions, f_failures, f_lastKind, f_lastValue, f_lastChoices, f_lastChoiceCount, f_lastAllocCount, f_steering, f_steeringLength, f_pathLeft, 1, f_choicesMade, f_allocsMade, f_visiting, f_position, am_xe s e, f_resultIsClosure, f_resultValue, f_depth, a_kinds, a_args, a_ends, a_locationVariable, a_locationOuter, a_locationIsClosure, a_locationValue, a_closureToken, a_closureEnvironment, a_frameToken, a_frameEnvironment, a_frameHasFirst, a_frameFirstIsClosure, a_frameFirstValue)) : wpX_readVariable post (f_maxChoices, f_maxAlloc, f_held, f_stage, f_solutions, f_failures, f_lastKind, f_lastValue, f_lastChoices, f_lastChoiceCount, f_lastAllocCount, f_steering, f_steeringLength, f_pathLeft, f_failed, f_choicesMade, f_allocsMade, f_visiting, f_position, am_xe s e, f_resultIsClosure, f_resultValue, f_depth, a_kinds, a_args, a_ends, a_locationVariable, a_locationOuter, a_locationIsClosure, a_locationValue, a_closureToken, a_closureEnvironment, a_frameToken, a_frameEnvironment, a_frameHasFirst, a_frameFirstIsClosure, a_frameFirstValue) x := by
  subst ex
  unfold wpX_readVariable
  refine am_xfind w hA hs he er ?_
  rw [am_xe_m]
  exact br_t rfl h
theorem am_xasT {post : St2 → Prop} {n mC mA f : Nat} {s : am_S} {x e c : Int32} (w : am_WF n mC mA s) (hA : mA ≤ 16) (hs : am_sx s a_locationVariable a_locationOuter a_locationIsClosure a_locationValue a_closureToken a_closureEnvironment) (he : am_okE s e) (hf : f < am_nf s) (er : am_lk s x 17 e = nI f) (ec : vp_nar .boolean c = c) (h : post (f_maxChoices, f_maxAlloc, f_held, f_stage, f_solutions, f_failures, f_lastKind, f_lastValue, f_lastChoices, f_lastChoiceCount, f_lastAllocCount, f_steering, f_steeringLength, f_pathLeft, f_failed, f_choicesMade, f_allocsMade, f_visiting, f_position, am_xe s e, c, f_resultValue, f_depth, a_kinds, a_args, a_ends, a_locationVariable, a_locationOuter, upd a_locationIsClosure (am_xl s f) c, upd a_locationValue (am_xl s f) f_resultValue, a_closureToken, a_closureEnvironment, a_frameToken, a_frameEnvironment, a_frameHasFirst, a_frameFirstIsClosure, a_frameFirstValue)) : wpX_assign post (f_maxChoices, f_maxAlloc, f_held, f_stage, f_solutions, f_failures, f_lastKind, f_lastValue, f_lastChoices, f_lastChoiceCount, f_lastAllocCount, f_steering, f_steeringLength, f_pathLeft, f_failed, f_choicesMade, f_allocsMade, f_visiting, f_position, am_xe s e, c, f_resultValue, f_depth, a_kinds, a_args, a_ends, a_locationVariable, a_locationOuter, a_locationIsClosure, a_locationValue, a_closureToken, a_closureEnvironment, a_frameToken, a_frameEnvironment, a_frameHasFirst, a_frameFirstIsClosure, a_frameFirstValue) x := by
  have hb := am_WF_f w hA hf
  have hxl : am_xl s f < 16 := by
    have h1 := (w.2.2.1 f hf).2.2.1
    have h2 := w.2.1
    omega
  have hd : (nI (am_xl s f)).toNatClampNeg = am_xl s f := nI_clamp (by omega)
  have v : vp_in (nI (am_xl s f)) 16 := vp_in_nI hxl (by decide)
  unfold wpX_assign
  refine am_xfind w hA hs he er ?_
  rw [am_xe_f s (by omega)]
  exact br_f (am_nm1 (by omega)) ⟨v, nm_r (by rw [hd, ec]) ⟨v, nm_r (by rw [hd]) h⟩⟩
theorem am_xasF {post : St2 → Prop} {n mC mA : Nat} {s : am_S} {x e : Int32} (w : am_WF n mC mA s) (hA : mA ≤ 16) (hs : am_sx s a_locationVariable a_locationOuter a_locationIsClosure a_locationValue a_closureToken a_closureEnvironment) (he : am_okE s e) (er : am_lk s x 17 e = -1) (h : post (f_maxChoices, f_maxAlloc, f_held, f_stage, f_solutions, f_failures, f_lastKind, f_lastValue, f_lastChoices, f_lastChoiceCount, f_lastAllocCount, f_steering, f_steeringLength, f_pathLeft, 1, f_choicesMade, f_allocsMade, f_visiting, f_position, am_xe s e, f_resultIsClosure, f_resultValue, f_depth, a_kinds, a_args, a_ends, a_locationVariable, a_locationOuter, a_locationIsClosure, a_locationValue, a_closureToken, a_closureEnvironment, a_frameToken, a_frameEnvironment, a_frameHasFirst, a_frameFirstIsClosure, a_frameFirstValue)) : wpX_assign post (f_maxChoices, f_maxAlloc, f_held, f_stage, f_solutions, f_failures, f_lastKind, f_lastValue, f_lastChoices, f_lastChoiceCount, f_lastAllocCount, f_steering, f_steeringLength, f_pathLeft, f_failed, f_choicesMade, f_allocsMade, f_visiting, f_position, am_xe s e, f_resultIsClosure, f_resultValue, f_depth, a_kinds, a_args, a_ends, a_locationVariable, a_locationOuter, a_locationIsClosure, a_locationValue, a_closureToken, a_closureEnvironment, a_frameToken, a_frameEnvironment, a_frameHasFirst, a_frameFirstIsClosure, a_frameFirstValue) x := by
  unfold wpX_assign
  refine am_xfind w hA hs he er ?_
  rw [am_xe_m]
  exact br_t rfl h
theorem am_xmcT {post : St2 → Prop} {a mA p : Nat} (h1 : a < mA) (h2 : mA ≤ 16) (h : post (f_maxChoices, nI mA, f_held, f_stage, f_solutions, f_failures, f_lastKind, f_lastValue, f_lastChoices, f_lastChoiceCount, f_lastAllocCount, f_steering, f_steeringLength, f_pathLeft, f_failed, f_choicesMade, nI (a + 1), 0, f_position, f_environment, 1, nI a, f_depth, a_kinds, a_args, a_ends, a_locationVariable, a_locationOuter, a_locationIsClosure, a_locationValue, upd a_closureToken a (nI p), upd a_closureEnvironment a f_environment, a_frameToken, a_frameEnvironment, a_frameHasFirst, a_frameFirstIsClosure, a_frameFirstValue)) : wpX_makeClosure post (f_maxChoices, nI mA, f_held, f_stage, f_solutions, f_failures, f_lastKind, f_lastValue, f_lastChoices, f_lastChoiceCount, f_lastAllocCount, f_steering, f_steeringLength, f_pathLeft, f_failed, f_choicesMade, nI a, f_visiting, f_position, f_environment, f_resultIsClosure, f_resultValue, f_depth, a_kinds, a_args, a_ends, a_locationVariable, a_locationOuter, a_locationIsClosure, a_locationValue, a_closureToken, a_closureEnvironment, a_frameToken, a_frameEnvironment, a_frameHasFirst, a_frameFirstIsClosure, a_frameFirstValue) (nI p) := by
  have hc : (nI a).toNatClampNeg = a := nI_clamp (by omega)
  have v : vp_in (nI a) 16 := vp_in_nI (by omega) (by decide)
  exact br_t (nI_lt h1 (by omega)) ⟨v, nm_r (by rw [hc]) ⟨v, nm_r (by rw [hc]) (nm_r (nI_1 a) h)⟩⟩
theorem am_xmcF {post : St2 → Prop} {a mA : Nat} {x : Int32} (h1 : mA ≤ a) (h2 : a ≤ 16) (h : post (f_maxChoices, nI mA, f_held, f_stage, f_solutions, f_failures, f_lastKind, f_lastValue, f_lastChoices, f_lastChoiceCount, f_lastAllocCount, f_steering, f_steeringLength, f_pathLeft, 1, f_choicesMade, nI a, f_visiting, f_position, f_environment, f_resultIsClosure, f_resultValue, f_depth, a_kinds, a_args, a_ends, a_locationVariable, a_locationOuter, a_locationIsClosure, a_locationValue, a_closureToken, a_closureEnvironment, a_frameToken, a_frameEnvironment, a_frameHasFirst, a_frameFirstIsClosure, a_frameFirstValue)) : wpX_makeClosure post (f_maxChoices, nI mA, f_held, f_stage, f_solutions, f_failures, f_lastKind, f_lastValue, f_lastChoices, f_lastChoiceCount, f_lastAllocCount, f_steering, f_steeringLength, f_pathLeft, f_failed, f_choicesMade, nI a, f_visiting, f_position, f_environment, f_resultIsClosure, f_resultValue, f_depth, a_kinds, a_args, a_ends, a_locationVariable, a_locationOuter, a_locationIsClosure, a_locationValue, a_closureToken, a_closureEnvironment, a_frameToken, a_frameEnvironment, a_frameHasFirst, a_frameFirstIsClosure, a_frameFirstValue) x := br_f (nI_nlt h1 (by omega)) h
theorem am_xhf {post : St2 → Prop} {t : Nat} {x c : Int32} (ht : t < 544) (ec : vp_nar .boolean c = c) (h : post (f_maxChoices, f_maxAlloc, f_held, f_stage, f_solutions, f_failures, f_lastKind, f_lastValue, f_lastChoices, f_lastChoiceCount, f_lastAllocCount, f_steering, f_steeringLength, f_pathLeft, f_failed, f_choicesMade, f_allocsMade, 1, x, f_environment, c, f_resultValue, nI (t + 1), a_kinds, a_args, a_ends, a_locationVariable, a_locationOuter, a_locationIsClosure, a_locationValue, a_closureToken, a_closureEnvironment, a_frameToken, a_frameEnvironment, upd a_frameHasFirst t 1, upd a_frameFirstIsClosure t c, upd a_frameFirstValue t f_resultValue)) : wpX_holdFirst post (f_maxChoices, f_maxAlloc, f_held, f_stage, f_solutions, f_failures, f_lastKind, f_lastValue, f_lastChoices, f_lastChoiceCount, f_lastAllocCount, f_steering, f_steeringLength, f_pathLeft, f_failed, f_choicesMade, f_allocsMade, f_visiting, f_position, f_environment, c, f_resultValue, nI t, a_kinds, a_args, a_ends, a_locationVariable, a_locationOuter, a_locationIsClosure, a_locationValue, a_closureToken, a_closureEnvironment, a_frameToken, a_frameEnvironment, a_frameHasFirst, a_frameFirstIsClosure, a_frameFirstValue) x := by
  have hc : (nI t).toNatClampNeg = t := nI_clamp (by omega)
  have v : vp_in (nI t) 544 := vp_in_nI ht (by decide)
  exact ⟨v, nm_r (by rw [hc]) ⟨v, nm_r (by rw [hc, ec]) ⟨v, nm_r (by rw [hc]) (nm_r (nI_1 t) (am_xvn rfl h))⟩⟩⟩
theorem am_x48 {post : St2 → Prop} {b : Nat → Bool} {n p u L : Nat} {tk en : Nat → Int32} (hn : n ≤ 32) (hp : p < n) (hen : ∀ i, i < n → en i = nI (am_eN tk n i)) (hu : u < L) (hL : L ≤ 6) (h : post (f_maxChoices, f_maxAlloc, nI n, f_stage, f_solutions, f_failures, f_lastKind, f_lastValue, f_lastChoices, f_lastChoiceCount, f_lastAllocCount, nI (am_nm b L), nI L, f_pathLeft, f_failed, nI (u + 1), f_allocsMade, 1, nI (am_q8 n tk p (b u)), f_environment, f_resultIsClosure, f_resultValue, f_depth, a_kinds, a_args, en, a_locationVariable, a_locationOuter, a_locationIsClosure, a_locationValue, a_closureToken, a_closureEnvironment, a_frameToken, a_frameEnvironment, a_frameHasFirst, a_frameFirstIsClosure, a_frameFirstValue)) : wX_choose_48 post (nI p) f_maxChoices f_maxAlloc (nI n) f_stage f_solutions f_failures f_lastKind f_lastValue f_lastChoices f_lastChoiceCount f_lastAllocCount (nI (am_nm b L)) (nI L) f_pathLeft f_failed (nI u) f_allocsMade f_visiting f_position f_environment f_resultIsClosure f_resultValue f_depth a_kinds a_args en a_locationVariable a_locationOuter a_locationIsClosure a_locationValue a_closureToken a_closureEnvironment a_frameToken a_frameEnvironment a_frameHasFirst a_frameFirstIsClosure a_frameFirstValue := by
  refine nm_r (nI_1 u) (nm_r (am_bit hu hL) (am_xend hn hp hen (nI_1 p) ?_))
  unfold am_q8 at h
  cases hb : b u with
  | true =>
    rw [hb, if_pos rfl] at h
    exact br_f (by decide) (am_xvn rfl h)
  | false =>
    rw [hb, if_neg (by decide)] at h
    exact br_t rfl (am_xvn (nI_1 p) h)
theorem am_xchoose {post : St2 → Prop} {b : Nat → Bool} {n p u L0 mC : Nat} {tk en : Nat → Int32} (hn : n ≤ 32) (hp : p < n) (hen : ∀ i, i < n → en i = nI (am_eN tk n i)) (hu : u < mC) (hC : mC ≤ 6) (hL : L0 ≤ 6) (hz : ∀ j, L0 ≤ j → b j = false) (h : post (nI mC, f_maxAlloc, nI n, f_stage, f_solutions, f_failures, f_lastKind, f_lastValue, f_lastChoices, f_lastChoiceCount, f_lastAllocCount, nI (am_nm b (am_mx L0 (u + 1))), nI (am_mx L0 (u + 1)), f_pathLeft, f_failed, nI (u + 1), f_allocsMade, 1, nI (am_q8 n tk p (b u)), f_environment, f_resultIsClosure, f_resultValue, f_depth, a_kinds, a_args, en, a_locationVariable, a_locationOuter, a_locationIsClosure, a_locationValue, a_closureToken, a_closureEnvironment, a_frameToken, a_frameEnvironment, a_frameHasFirst, a_frameFirstIsClosure, a_frameFirstValue)) : wpX_choose post (nI mC, f_maxAlloc, nI n, f_stage, f_solutions, f_failures, f_lastKind, f_lastValue, f_lastChoices, f_lastChoiceCount, f_lastAllocCount, nI (am_nm b (am_mx L0 u)), nI (am_mx L0 u), f_pathLeft, f_failed, nI u, f_allocsMade, f_visiting, f_position, f_environment, f_resultIsClosure, f_resultValue, f_depth, a_kinds, a_args, en, a_locationVariable, a_locationOuter, a_locationIsClosure, a_locationValue, a_closureToken, a_closureEnvironment, a_frameToken, a_frameEnvironment, a_frameHasFirst, a_frameFirstIsClosure, a_frameFirstValue) (nI p) := by
  refine br_t (nI_lt hu (by omega)) ?_
  by_cases q : u < L0
  · have em : am_mx L0 u = L0 := by unfold am_mx; omega
    have em' : am_mx L0 (u + 1) = L0 := by unfold am_mx; omega
    rw [em'] at h
    rw [em]
    exact br_t (nI_lt q (by omega)) (am_x48 hn hp hen q hL h)
  · have em : am_mx L0 u = u := by unfold am_mx; omega
    have em' : am_mx L0 (u + 1) = u + 1 := by unfold am_mx; omega
    rw [em'] at h
    rw [em]
    have ez : am_nm b (u + 1) = 2 * am_nm b u := by
      rw [am_nm_s, hz u (by omega)]
      rfl
    have es : nI (am_nm b u) <<< ((1 : Int32) &&& 31) = nI (am_nm b (u + 1)) := by rw [am_shl1 _ (am_nm_le (by omega)), ez]
    exact br_f (nI_nlt (Nat.le_refl _) (by omega)) (nm_r es (nm_r (nI_1 u) (am_x48 hn hp hen (Nat.lt_succ_self u) (by omega) h)))
/-- behind a step -/
theorem am_x62v {post : St2 → Prop} {J : Int32 → Int32 → Int32 → Int32 → Int32 → Int32 → Int32 → Int32 → Int32 → Int32 → Int32 → Int32 → Int32 → Int32 → Int32 → Int32 → Int32 → Int32 → Int32 → Int32 → Int32 → Int32 → Int32 → Int32 → Int32 → (Nat → Int32) → (Nat → Int32) → (Nat → Int32) → (Nat → Int32) → (Nat → Int32) → (Nat → Int32) → (Nat → Int32) → (Nat → Int32) → (Nat → Int32) → (Nat → Int32) → (Nat → Int32) → (Nat → Int32) → (Nat → Int32) → (Nat → Int32) → Prop} {x2 x2' : Int32} (ex : x2 + 1 = x2') (h : J 0 x2' f_maxChoices f_maxAlloc f_held f_stage f_solutions f_failures f_lastKind f_lastValue f_lastChoices f_lastChoiceCount f_lastAllocCount f_steering f_steeringLength f_pathLeft 0 f_choicesMade f_allocsMade 1 f_position f_environment f_resultIsClosure f_resultValue f_depth a_kinds a_args a_ends a_locationVariable a_locationOuter a_locationIsClosure a_locationValue a_closureToken a_closureEnvironment a_frameToken a_frameEnvironment a_frameHasFirst a_frameFirstIsClosure a_frameFirstValue) : wX_runPath_62 post J x2 f_maxChoices f_maxAlloc f_held f_stage f_solutions f_failures f_lastKind f_lastValue f_lastChoices f_lastChoiceCount f_lastAllocCount f_steering f_steeringLength f_pathLeft 0 f_choicesMade f_allocsMade 1 f_position f_environment f_resultIsClosure f_resultValue f_depth a_kinds a_args a_ends a_locationVariable a_locationOuter a_locationIsClosure a_locationValue a_closureToken a_closureEnvironment a_frameToken a_frameEnvironment a_frameHasFirst a_frameFirstIsClosure a_frameFirstValue := br_t rfl (br_f (by decide) (nm_r ex h))
def am_en : List am_F → Int32
  | [] => 1
  | _ :: _ => 0
theorem am_x62r {post : St2 → Prop} {J : Int32 → Int32 → Int32 → Int32 → Int32 → Int32 → Int32 → Int32 → Int32 → Int32 → Int32 → Int32 → Int32 → Int32 → Int32 → Int32 → Int32 → Int32 → Int32 → Int32 → Int32 → Int32 → Int32 → Int32 → Int32 → (Nat → Int32) → (Nat → Int32) → (Nat → Int32) → (Nat → Int32) → (Nat → Int32) → (Nat → Int32) → (Nat → Int32) → (Nat → Int32) → (Nat → Int32) → (Nat → Int32) → (Nat → Int32) → (Nat → Int32) → (Nat → Int32) → (Nat → Int32) → Prop} {x2 x2' : Int32} (r : List am_F) (hr : r.length < 1000) (ex : x2 + 1 = x2') (h : J (am_en r) x2' f_maxChoices f_maxAlloc f_held f_stage f_solutions f_failures f_lastKind f_lastValue f_lastChoices f_lastChoiceCount f_lastAllocCount f_steering f_steeringLength f_pathLeft 0 f_choicesMade f_allocsMade 0 f_position f_environment f_resultIsClosure f_resultValue (nI r.length) a_kinds a_args a_ends a_locationVariable a_locationOuter a_locationIsClosure a_locationValue a_closureToken a_closureEnvironment a_frameToken a_frameEnvironment a_frameHasFirst a_frameFirstIsClosure a_frameFirstValue) : wX_runPath_62 post J x2 f_maxChoices f_maxAlloc f_held f_stage f_solutions f_failures f_lastKind f_lastValue f_lastChoices f_lastChoiceCount f_lastAllocCount f_steering f_steeringLength f_pathLeft 0 f_choicesMade f_allocsMade 0 f_position f_environment f_resultIsClosure f_resultValue (nI r.length) a_kinds a_args a_ends a_locationVariable a_locationOuter a_locationIsClosure a_locationValue a_closureToken a_closureEnvironment a_frameToken a_frameEnvironment a_frameHasFirst a_frameFirstIsClosure a_frameFirstValue := by
  cases r with
  | nil => exact br_t rfl (br_t rfl (br_t rfl (nm_r ex h)))
  | cons f r =>
    have hr' : r.length + 1 < 1000 := hr
    have hd : ¬ nI (r.length + 1) = 0 := nI_ne0 (by omega) (by omega)
    exact br_t rfl (br_t rfl (br_f hd (nm_r ex h)))
theorem am_x62F {post : St2 → Prop} {m : Nat} {x2 : Int32} (h : post (f_maxChoices, f_maxAlloc, f_held, f_stage, f_solutions, f_failures, f_lastKind, f_lastValue, f_lastChoices, f_lastChoiceCount, f_lastAllocCount, f_steering, f_steeringLength, f_pathLeft, 1, f_choicesMade, f_allocsMade, f_visiting, f_position, f_environment, f_resultIsClosure, f_resultValue, f_depth, a_kinds, a_args, a_ends, a_locationVariable, a_locationOuter, a_locationIsClosure, a_locationValue, a_closureToken, a_closureEnvironment, a_frameToken, a_frameEnvironment, a_frameHasFirst, a_frameFirstIsClosure, a_frameFirstValue)) : wX_runPath_62 post (wX_runPath_34 post (m + 1)) x2 f_maxChoices f_maxAlloc f_held f_stage f_solutions f_failures f_lastKind f_lastValue f_lastChoices f_lastChoiceCount f_lastAllocCount f_steering f_steeringLength f_pathLeft 1 f_choicesMade f_allocsMade f_visiting f_position f_environment f_resultIsClosure f_resultValue f_depth a_kinds a_args a_ends a_locationVariable a_locationOuter a_locationIsClosure a_locationValue a_closureToken a_closureEnvironment a_frameToken a_frameEnvironment a_frameHasFirst a_frameFirstIsClosure a_frameFirstValue := by
  refine br_f (by decide) (nm_e ?_)
  rw [wX_runPath_34]
  exact br_c (fun _ => h) (fun _ => br_f (by decide) h)
end
/-- the machine at the head of its loop, about to visit p -/
def am_LXv (post : St2 → Prop) (n : Nat) (tk ta en : Nat → Int32) (mC mA : Nat) (ph sols fails lK lV lH lL lA pl : Int32) (b : Nat → Bool) (L0 : Nat) (a p : Nat) (e : Int32) (r : List am_F) (s : am_S) : Prop :=
  ∀ (m : Nat) (rC rW : Int32) (jV jO jC jW kT kE fT fE fH fC fW : Nat → Int32), a + 128 * (16 - am_al s) ≤ m → m ≤ 1000000 → am_sx s jV jO jC jW kT kE → am_fx s fT fE fH fC fW r →
  wX_runPath_34 post (m + 1) 0 (nI (1000000 - m)) (nI mC) (nI mA) (nI n) ph sols fails lK lV lH lL lA (nI (am_nm b (am_mx L0 (am_us s)))) (nI (am_mx L0 (am_us s))) pl 0 (nI (am_us s)) (nI (am_al s)) 1 (nI p) (am_xe s e) rC rW (nI r.length) tk ta en jV jO jC jW kT kE fT fE fH fC fW
/-- .. and about to hand a value to its top frame -/
def am_LXr (post : St2 → Prop) (n : Nat) (tk ta en : Nat → Int32) (mC mA : Nat) (ph sols fails lK lV lH lL lA pl : Int32) (b : Nat → Bool) (L0 : Nat) (a : Nat) (k v : Int32) (r : List am_F) (s : am_S) : Prop :=
  ∀ (m : Nat) (po ev : Int32) (jV jO jC jW kT kE fT fE fH fC fW : Nat → Int32), a + 128 * (16 - am_al s) ≤ m → m ≤ 1000000 → am_sx s jV jO jC jW kT kE → am_fx s fT fE fH fC fW r →
  wX_runPath_34 post (m + 1) (am_en r) (nI (1000000 - m)) (nI mC) (nI mA) (nI n) ph sols fails lK lV lH lL lA (nI (am_nm b (am_mx L0 (am_us s)))) (nI (am_mx L0 (am_us s))) pl 0 (nI (am_us s)) (nI (am_al s)) 0 po ev (am_xk k) (am_xv s k v) (nI r.length) tk ta en jV jO jC jW kT kE fT fE fH fC fW
/-- a path that failed -/
def am_QX (post : St2 → Prop) (n : Nat) (tk ta en : Nat → Int32) (mC mA : Nat) (ph sols fails lK lV lH lL lA pl : Int32) (b : Nat → Bool) (L0 : Nat) (s : am_S) : Prop :=
  ∀ (f_allocsMade f_visiting f_position f_environment f_resultIsClosure f_resultValue f_depth : Int32) (jV jO jC jW kT kE fT fE fH fC fW : Nat → Int32), post (nI mC, nI mA, nI n, ph, sols, fails, lK, lV, lH, lL, lA, nI (am_nm b (am_mx L0 (am_us s))), nI (am_mx L0 (am_us s)), pl, 1, nI (am_us s), f_allocsMade, f_visiting, f_position, f_environment, f_resultIsClosure, f_resultValue, f_depth, tk, ta, en, jV, jO, jC, jW, kT, kE, fT, fE, fH, fC, fW)
def am_LX (post : St2 → Prop) (n : Nat) (tk ta en : Nat → Int32) (mC mA : Nat) (ph sols fails lK lV lH lL lA pl : Int32) (b : Nat → Bool) (L0 : Nat) (a : Nat) (stk : List am_F) (rk rv : Int32) (s : am_S) : Prop :=
  match stk with
  | [] => am_LXr post n tk ta en mC mA ph sols fails lK lV lH lL lA pl b L0 a rk rv [] s
  | (p, e, st, k, v) :: r => if st = 0 then am_LXv post n tk ta en mC mA ph sols fails lK lV lH lL lA pl b L0 a p e (am_er tk r) s else am_LXr post n tk ta en mC mA ph sols fails lK lV lH lL lA pl b L0 a rk rv (am_er tk ((p, e, st, k, v) :: r)) s
end
section
/-! the component's machine keeps the rules -/
theorem am_fx_open {s : am_S} {fT fE fH fC fW : Nat → Int32} {p : Nat} {e : Int32} {r : List am_F} (he : am_okE s e) (h : am_fx s fT fE fH fC fW r) : am_fx s (upd fT r.length (nI p)) (upd fE r.length (am_xe s e)) (upd fH r.length 0) fC fW ((p, e, 1, 0, 0) :: r) :=
  ⟨am_up_s, he, am_up_s, Or.inl ⟨rfl, am_up_s⟩, am_fx_eq r (fun i hi => ⟨am_up_n (Nat.ne_of_lt hi), am_up_n (Nat.ne_of_lt hi), am_up_n (Nat.ne_of_lt hi), rfl, rfl⟩) h⟩
theorem am_fx_hold {s : am_S} {fT fE fH fC fW : Nat → Int32} {p : Nat} {e k v : Int32} {r : List am_F} (hv : am_okV s k v) (h : am_fx s fT fE fH fC fW ((p, e, 1, 0, 0) :: r)) : am_fx s fT fE (upd fH r.length 1) (upd fC r.length (am_xk k)) (upd fW r.length (am_xv s k v)) ((p, e, 2, k, v) :: r) :=
  ⟨h.1, h.2.1, h.2.2.1, Or.inr ⟨rfl, am_up_s, hv, am_up_s, am_up_s⟩, am_fx_eq r (fun i hi => ⟨rfl, rfl, am_up_n (Nat.ne_of_lt hi), am_up_n (Nat.ne_of_lt hi), am_up_n (Nat.ne_of_lt hi)⟩) h.2.2.2.2⟩
theorem am_xe_nl (x e k v : Int32) {s : am_S} (hb : am_nf s ≤ 16) : am_xe (am_nl x e k v s) (nI (am_nf s)) = nI (am_al s) := by
  rw [am_xe_f _ (by omega)]
  exact congrArg nI am_un_s
theorem am_xv_nk (p : Nat) (e : Int32) {s : am_S} (hb : am_nc s ≤ 16) : am_xv (am_nk p e s) 2 (nI (am_nc s)) = nI (am_al s) := by
  rw [am_xv_2 _ (by omega)]
  exact congrArg nI am_un_s
section
variable {post : St2 → Prop} {n : Nat} {tk ta en : Nat → Int32} {mC mA : Nat} {ph sols fails lK lV lH lL lA pl : Int32} {b : Nat → Bool} {L0 : Nat} {a p : Nat} {e : Int32} {r : List am_F} {k v rk rv : Int32} {s : am_S}
theorem am_xr_monoV {a' : Nat} (ha : a ≤ a') (h : am_LXv post n tk ta en mC mA ph sols fails lK lV lH lL lA pl b L0 a p e r s) : am_LXv post n tk ta en mC mA ph sols fails lK lV lH lL lA pl b L0 a' p e r s :=
  fun m rC rW jV jO jC jW kT kE fT fE fH fC fW h1 h2 h3 h4 => h m rC rW jV jO jC jW kT kE fT fE fH fC fW (by omega) h2 h3 h4
theorem am_xr_monoR {a' : Nat} (ha : a ≤ a') (h : am_LXr post n tk ta en mC mA ph sols fails lK lV lH lL lA pl b L0 a rk rv r s) : am_LXr post n tk ta en mC mA ph sols fails lK lV lH lL lA pl b L0 a' rk rv r s :=
  fun m po ev jV jO jC jW kT kE fT fE fH fC fW h1 h2 h3 h4 => h m po ev jV jO jC jW kT kE fT fE fH fC fW (by omega) h2 h3 h4
theorem am_xr_out (hn : n ≤ 32) (hq : am_QX post n tk ta en mC mA ph sols fails lK lV lH lL lA pl b L0 s) : am_LXv post n tk ta en mC mA ph sols fails lK lV lH lL lA pl b L0 (a + 1) n e r s := by
  intro m rC rW jV jO jC jW kT kE fT fE fH fC fW h1 h2 h3 h4
  obtain ⟨m, rfl⟩ : ∃ m', m = m' + 1 := ⟨m - 1, by omega⟩
  have g1 : ¬ (1000000 : Int32) ≤ nI (1000000 - (m + 1)) := nI_ge (b := 1000000) (by omega) (by decide)
  have g2 : nI (1000000 - (m + 1)) + 1 = nI (1000000 - m) := by rw [nI_1]; exact congrArg nI (by omega)
  rw [wX_runPath_34]
  refine br_f g1 (br_t rfl (br_f (by decide) ?_))
  unfold wpX_visitToken
  exact am_xholdsF (Nat.le_refl n) hn (br_t rfl (am_x62F (hq _ _ _ _ _ _ _ _ _ _ _ _ _ _ _ _ _ _)))
theorem am_xr_num (hn : n ≤ 32) (hA : mA ≤ 16) (hen : ∀ i, i < n → en i = nI (am_eN tk n i)) (w : am_WF n mC mA s) (he : am_okE s e) (hp : p < n) (hl : r.length < 544) (hk : tk p = 0) (h : am_LXr post n tk ta en mC mA ph sols fails lK lV lH lL lA pl b L0 a 1 (ta p) r s) : am_LXv post n tk ta en mC mA ph sols fails lK lV lH lL lA pl b L0 (a + 1) p e r s := by
  intro m rC rW jV jO jC jW kT kE fT fE fH fC fW h1 h2 h3 h4
  obtain ⟨m, rfl⟩ : ∃ m', m = m' + 1 := ⟨m - 1, by omega⟩
  have g1 : ¬ (1000000 : Int32) ≤ nI (1000000 - (m + 1)) := nI_ge (b := 1000000) (by omega) (by decide)
  have g2 : nI (1000000 - (m + 1)) + 1 = nI (1000000 - m) := by rw [nI_1]; exact congrArg nI (by omega)
  have hc : (nI p).toNatClampNeg = p := nI_clamp (by omega)
  have v32 : vp_in (nI p) 32 := vp_in_nI (by omega) (by decide)
  have ek : tk (nI p).toNatClampNeg = tk p := by rw [hc]
  have ea : ta (nI p).toNatClampNeg = ta p := by rw [hc]
  have hh := h m (nI p) (am_xe s e) jV jO jC jW kT kE fT fE fH fC fW (by omega) (by omega) h3 h4
  rw [am_xk_1, am_xv_1] at hh
  rw [wX_runPath_34]
  refine br_f g1 (br_t rfl (br_f (by decide) ?_))
  unfold wpX_visitToken
  exact am_xholdsT hn hp (br_f (by decide) ⟨v32, nm_r ek (br_f (by rw [hk]; decide) (br_f (by rw [hk]; decide) (br_t hk (⟨v32, am_xgi ea (am_x62r r (by omega) g2 hh)⟩))))⟩)
theorem am_xr_var (hn : n ≤ 32) (hA : mA ≤ 16) (hen : ∀ i, i < n → en i = nI (am_eN tk n i)) (w : am_WF n mC mA s) (he : am_okE s e) (hp : p < n) (hl : r.length < 544) (hk : tk p = 1) {f : Nat} (hf : f < am_nf s) (hlk : am_lk s (ta p) 17 e = nI f) (h : am_LXr post n tk ta en mC mA ph sols fails lK lV lH lL lA pl b L0 a (am_fK s f) (am_fV s f) r s) : am_LXv post n tk ta en mC mA ph sols fails lK lV lH lL lA pl b L0 (a + 1) p e r s := by
  intro m rC rW jV jO jC jW kT kE fT fE fH fC fW h1 h2 h3 h4
  obtain ⟨m, rfl⟩ : ∃ m', m = m' + 1 := ⟨m - 1, by omega⟩
  have g1 : ¬ (1000000 : Int32) ≤ nI (1000000 - (m + 1)) := nI_ge (b := 1000000) (by omega) (by decide)
  have g2 : nI (1000000 - (m + 1)) + 1 = nI (1000000 - m) := by rw [nI_1]; exact congrArg nI (by omega)
  have hc : (nI p).toNatClampNeg = p := nI_clamp (by omega)
  have v32 : vp_in (nI p) 32 := vp_in_nI (by omega) (by decide)
  have ek : tk (nI p).toNatClampNeg = tk p := by rw [hc]
  have ea : ta (nI p).toNatClampNeg = ta p := by rw [hc]
  rw [wX_runPath_34]
  refine br_f g1 (br_t rfl (br_f (by decide) ?_))
  unfold wpX_visitToken
  exact am_xholdsT hn hp (br_f (by decide) ⟨v32, nm_r ek (br_f (by rw [hk]; decide) (br_f (by rw [hk]; decide) (br_f (by rw [hk]; decide) (br_t hk (⟨v32, am_xrvT w hA h3 he ea hf hlk (am_x62r r (by omega) g2 (h m (nI p) (am_xe s e) jV jO jC jW kT kE fT fE fH fC fW (by omega) (by omega) h3 h4))⟩)))))⟩)
theorem am_xr_varF (hn : n ≤ 32) (hA : mA ≤ 16) (hen : ∀ i, i < n → en i = nI (am_eN tk n i)) (w : am_WF n mC mA s) (he : am_okE s e) (hp : p < n) (hl : r.length < 544) (hk : tk p = 1) (hlk : am_lk s (ta p) 17 e = -1) (hq : am_QX post n tk ta en mC mA ph sols fails lK lV lH lL lA pl b L0 s) : am_LXv post n tk ta en mC mA ph sols fails lK lV lH lL lA pl b L0 (a + 1) p e r s := by
  intro m rC rW jV jO jC jW kT kE fT fE fH fC fW h1 h2 h3 h4
  obtain ⟨m, rfl⟩ : ∃ m', m = m' + 1 := ⟨m - 1, by omega⟩
  have g1 : ¬ (1000000 : Int32) ≤ nI (1000000 - (m + 1)) := nI_ge (b := 1000000) (by omega) (by decide)
  have g2 : nI (1000000 - (m + 1)) + 1 = nI (1000000 - m) := by rw [nI_1]; exact congrArg nI (by omega)
  have hc : (nI p).toNatClampNeg = p := nI_clamp (by omega)
  have v32 : vp_in (nI p) 32 := vp_in_nI (by omega) (by decide)
  have ek : tk (nI p).toNatClampNeg = tk p := by rw [hc]
  have ea : ta (nI p).toNatClampNeg = ta p := by rw [hc]
  rw [wX_runPath_34]
  refine br_f g1 (br_t rfl (br_f (by decide) ?_))
  unfold wpX_visitToken
  exact am_xholdsT hn hp (br_f (by decide) ⟨v32, nm_r ek (br_f (by rw [hk]; decide) (br_f (by rw [hk]; decide) (br_f (by rw [hk]; decide) (br_t hk (⟨v32, am_xrvF w hA h3 he ea hlk (am_x62F (hq _ _ _ _ _ _ _ _ _ _ _ _ _ _ _ _ _ _))⟩)))))⟩)
theorem am_xr_open2 (hn : n ≤ 32) (hA : mA ≤ 16) (hen : ∀ i, i < n → en i = nI (am_eN tk n i)) (w : am_WF n mC mA s) (he : am_okE s e) (hp : p < n) (hl : r.length < 544) (hk : tk p = 2) (h : am_LXv post n tk ta en mC mA ph sols fails lK lV lH lL lA pl b L0 a (p + 1) e ((p, e, 1, 0, 0) :: r) s) : am_LXv post n tk ta en mC mA ph sols fails lK lV lH lL lA pl b L0 (a + 1) p e r s := by
  intro m rC rW jV jO jC jW kT kE fT fE fH fC fW h1 h2 h3 h4
  obtain ⟨m, rfl⟩ : ∃ m', m = m' + 1 := ⟨m - 1, by omega⟩
  have g1 : ¬ (1000000 : Int32) ≤ nI (1000000 - (m + 1)) := nI_ge (b := 1000000) (by omega) (by decide)
  have g2 : nI (1000000 - (m + 1)) + 1 = nI (1000000 - m) := by rw [nI_1]; exact congrArg nI (by omega)
  have hc : (nI p).toNatClampNeg = p := nI_clamp (by omega)
  have v32 : vp_in (nI p) 32 := vp_in_nI (by omega) (by decide)
  have ek : tk (nI p).toNatClampNeg = tk p := by rw [hc]
  have ea : ta (nI p).toNatClampNeg = ta p := by rw [hc]
  rw [wX_runPath_34]
  refine br_f g1 (br_t rfl (br_f (by decide) ?_))
  unfold wpX_visitToken
  exact am_xholdsT hn hp (br_f (by decide) ⟨v32, nm_r ek (br_f (by rw [hk]; decide) (br_f (by rw [hk]; decide) (br_f (by rw [hk]; decide) (br_f (by rw [hk]; decide) (br_t hk (am_xopen hl (am_x62v g2 (h m rC rW jV jO jC jW kT kE (upd fT r.length (nI p)) (upd fE r.length (am_xe s e)) (upd fH r.length 0) fC fW (by omega) (by omega) h3 (am_fx_open he h4)))))))))⟩)
theorem am_xr_open3 (hn : n ≤ 32) (hA : mA ≤ 16) (hen : ∀ i, i < n → en i = nI (am_eN tk n i)) (w : am_WF n mC mA s) (he : am_okE s e) (hp : p < n) (hl : r.length < 544) (hk : tk p = 3) (h : am_LXv post n tk ta en mC mA ph sols fails lK lV lH lL lA pl b L0 a (p + 1) e ((p, e, 1, 0, 0) :: r) s) : am_LXv post n tk ta en mC mA ph sols fails lK lV lH lL lA pl b L0 (a + 1) p e r s := by
  intro m rC rW jV jO jC jW kT kE fT fE fH fC fW h1 h2 h3 h4
  obtain ⟨m, rfl⟩ : ∃ m', m = m' + 1 := ⟨m - 1, by omega⟩
  have g1 : ¬ (1000000 : Int32) ≤ nI (1000000 - (m + 1)) := nI_ge (b := 1000000) (by omega) (by decide)
  have g2 : nI (1000000 - (m + 1)) + 1 = nI (1000000 - m) := by rw [nI_1]; exact congrArg nI (by omega)
  have hc : (nI p).toNatClampNeg = p := nI_clamp (by omega)
  have v32 : vp_in (nI p) 32 := vp_in_nI (by omega) (by decide)
  have ek : tk (nI p).toNatClampNeg = tk p := by rw [hc]
  have ea : ta (nI p).toNatClampNeg = ta p := by rw [hc]
  rw [wX_runPath_34]
  refine br_f g1 (br_t rfl (br_f (by decide) ?_))
  unfold wpX_visitToken
  exact am_xholdsT hn hp (br_f (by decide) ⟨v32, nm_r ek (br_f (by rw [hk]; decide) (br_f (by rw [hk]; decide) (br_f (by rw [hk]; decide) (br_f (by rw [hk]; decide) (br_f (by rw [hk]; decide) (br_t hk (am_xopen hl (am_x62v g2 (h m rC rW jV jO jC jW kT kE (upd fT r.length (nI p)) (upd fE r.length (am_xe s e)) (upd fH r.length 0) fC fW (by omega) (by omega) h3 (am_fx_open he h4))))))))))⟩)
theorem am_xr_open4 (hn : n ≤ 32) (hA : mA ≤ 16) (hen : ∀ i, i < n → en i = nI (am_eN tk n i)) (w : am_WF n mC mA s) (he : am_okE s e) (hp : p < n) (hl : r.length < 544) (hk : tk p = 4) (h : am_LXv post n tk ta en mC mA ph sols fails lK lV lH lL lA pl b L0 a (p + 1) e ((p, e, 1, 0, 0) :: r) s) : am_LXv post n tk ta en mC mA ph sols fails lK lV lH lL lA pl b L0 (a + 1) p e r s := by
  intro m rC rW jV jO jC jW kT kE fT fE fH fC fW h1 h2 h3 h4
  obtain ⟨m, rfl⟩ : ∃ m', m = m' + 1 := ⟨m - 1, by omega⟩
  have g1 : ¬ (1000000 : Int32) ≤ nI (1000000 - (m + 1)) := nI_ge (b := 1000000) (by omega) (by decide)
  have g2 : nI (1000000 - (m + 1)) + 1 = nI (1000000 - m) := by rw [nI_1]; exact congrArg nI (by omega)
  have hc : (nI p).toNatClampNeg = p := nI_clamp (by omega)
  have v32 : vp_in (nI p) 32 := vp_in_nI (by omega) (by decide)
  have ek : tk (nI p).toNatClampNeg = tk p := by rw [hc]
  have ea : ta (nI p).toNatClampNeg = ta p := by rw [hc]
  rw [wX_runPath_34]
  refine br_f g1 (br_t rfl (br_f (by decide) ?_))
  unfold wpX_visitToken
  exact am_xholdsT hn hp (br_f (by decide) ⟨v32, nm_r ek (br_f (by rw [hk]; decide) (br_f (by rw [hk]; decide) (br_f (by rw [hk]; decide) (br_f (by rw [hk]; decide) (br_f (by rw [hk]; decide) (br_f (by rw [hk]; decide) (br_t hk (am_xopen hl (am_x62v g2 (h m rC rW jV jO jC jW kT kE (upd fT r.length (nI p)) (upd fE r.length (am_xe s e)) (upd fH r.length 0) fC fW (by omega) (by omega) h3 (am_fx_open he h4)))))))))))⟩)
theorem am_xr_open5 (hn : n ≤ 32) (hA : mA ≤ 16) (hen : ∀ i, i < n → en i = nI (am_eN tk n i)) (w : am_WF n mC mA s) (he : am_okE s e) (hp : p < n) (hl : r.length < 544) (hk : tk p = 5) (h : am_LXv post n tk ta en mC mA ph sols fails lK lV lH lL lA pl b L0 a (p + 1) e ((p, e, 1, 0, 0) :: r) s) : am_LXv post n tk ta en mC mA ph sols fails lK lV lH lL lA pl b L0 (a + 1) p e r s := by
  intro m rC rW jV jO jC jW kT kE fT fE fH fC fW h1 h2 h3 h4
  obtain ⟨m, rfl⟩ : ∃ m', m = m' + 1 := ⟨m - 1, by omega⟩
  have g1 : ¬ (1000000 : Int32) ≤ nI (1000000 - (m + 1)) := nI_ge (b := 1000000) (by omega) (by decide)
  have g2 : nI (1000000 - (m + 1)) + 1 = nI (1000000 - m) := by rw [nI_1]; exact congrArg nI (by omega)
  have hc : (nI p).toNatClampNeg = p := nI_clamp (by omega)
  have v32 : vp_in (nI p) 32 := vp_in_nI (by omega) (by decide)
  have ek : tk (nI p).toNatClampNeg = tk p := by rw [hc]
  have ea : ta (nI p).toNatClampNeg = ta p := by rw [hc]
  rw [wX_runPath_34]
  refine br_f g1 (br_t rfl (br_f (by decide) ?_))
  unfold wpX_visitToken
  exact am_xholdsT hn hp (br_f (by decide) ⟨v32, nm_r ek (br_f (by rw [hk]; decide) (br_f (by rw [hk]; decide) (br_f (by rw [hk]; decide) (br_f (by rw [hk]; decide) (br_f (by rw [hk]; decide) (br_f (by rw [hk]; decide) (br_f (by rw [hk]; decide) (br_t hk (am_xopen hl (am_x62v g2 (h m rC rW jV jO jC jW kT kE (upd fT r.length (nI p)) (upd fE r.length (am_xe s e)) (upd fH r.length 0) fC fW (by omega) (by omega) h3 (am_fx_open he h4))))))))))))⟩)
theorem am_xr_open6 (hn : n ≤ 32) (hA : mA ≤ 16) (hen : ∀ i, i < n → en i = nI (am_eN tk n i)) (w : am_WF n mC mA s) (he : am_okE s e) (hp : p < n) (hl : r.length < 544) (hk : tk p = 6) (h : am_LXv post n tk ta en mC mA ph sols fails lK lV lH lL lA pl b L0 a (p + 1) e ((p, e, 1, 0, 0) :: r) s) : am_LXv post n tk ta en mC mA ph sols fails lK lV lH lL lA pl b L0 (a + 1) p e r s := by
  intro m rC rW jV jO jC jW kT kE fT fE fH fC fW h1 h2 h3 h4
  obtain ⟨m, rfl⟩ : ∃ m', m = m' + 1 := ⟨m - 1, by omega⟩
  have g1 : ¬ (1000000 : Int32) ≤ nI (1000000 - (m + 1)) := nI_ge (b := 1000000) (by omega) (by decide)
  have g2 : nI (1000000 - (m + 1)) + 1 = nI (1000000 - m) := by rw [nI_1]; exact congrArg nI (by omega)
  have hc : (nI p).toNatClampNeg = p := nI_clamp (by omega)
  have v32 : vp_in (nI p) 32 := vp_in_nI (by omega) (by decide)
  have ek : tk (nI p).toNatClampNeg = tk p := by rw [hc]
  have ea : ta (nI p).toNatClampNeg = ta p := by rw [hc]
  rw [wX_runPath_34]
  refine br_f g1 (br_t rfl (br_f (by decide) ?_))
  unfold wpX_visitToken
  exact am_xholdsT hn hp (br_f (by decide) ⟨v32, nm_r ek (br_f (by rw [hk]; decide) (br_f (by rw [hk]; decide) (br_f (by rw [hk]; decide) (br_f (by rw [hk]; decide) (br_f (by rw [hk]; decide) (br_f (by rw [hk]; decide) (br_f (by rw [hk]; decide) (br_f (by rw [hk]; decide) (br_t hk (am_xopen hl (am_x62v g2 (h m rC rW jV jO jC jW kT kE (upd fT r.length (nI p)) (upd fE r.length (am_xe s e)) (upd fH r.length 0) fC fW (by omega) (by omega) h3 (am_fx_open he h4)))))))))))))⟩)
theorem am_xr_open7 (hn : n ≤ 32) (hA : mA ≤ 16) (hen : ∀ i, i < n → en i = nI (am_eN tk n i)) (w : am_WF n mC mA s) (he : am_okE s e) (hp : p < n) (hl : r.length < 544) (hk : tk p = 7) (h : am_LXv post n tk ta en mC mA ph sols fails lK lV lH lL lA pl b L0 a (p + 1) e ((p, e, 1, 0, 0) :: r) s) : am_LXv post n tk ta en mC mA ph sols fails lK lV lH lL lA pl b L0 (a + 1) p e r s := by
  intro m rC rW jV jO jC jW kT kE fT fE fH fC fW h1 h2 h3 h4
  obtain ⟨m, rfl⟩ : ∃ m', m = m' + 1 := ⟨m - 1, by omega⟩
  have g1 : ¬ (1000000 : Int32) ≤ nI (1000000 - (m + 1)) := nI_ge (b := 1000000) (by omega) (by decide)
  have g2 : nI (1000000 - (m + 1)) + 1 = nI (1000000 - m) := by rw [nI_1]; exact congrArg nI (by omega)
  have hc : (nI p).toNatClampNeg = p := nI_clamp (by omega)
  have v32 : vp_in (nI p) 32 := vp_in_nI (by omega) (by decide)
  have ek : tk (nI p).toNatClampNeg = tk p := by rw [hc]
  have ea : ta (nI p).toNatClampNeg = ta p := by rw [hc]
  rw [wX_runPath_34]
  refine br_f g1 (br_t rfl (br_f (by decide) ?_))
  unfold wpX_visitToken
  exact am_xholdsT hn hp (br_f (by decide) ⟨v32, nm_r ek (br_f (by rw [hk]; decide) (br_f (by rw [hk]; decide) (br_f (by rw [hk]; decide) (br_f (by rw [hk]; decide) (br_f (by rw [hk]; decide) (br_f (by rw [hk]; decide) (br_f (by rw [hk]; decide) (br_f (by rw [hk]; decide) (br_f (by rw [hk]; decide) (br_t hk (am_xopen hl (am_x62v g2 (h m rC rW jV jO jC jW kT kE (upd fT r.length (nI p)) (upd fE r.length (am_xe s e)) (upd fH r.length 0) fC fW (by omega) (by omega) h3 (am_fx_open he h4))))))))))))))⟩)
theorem am_xr_open10 (hn : n ≤ 32) (hA : mA ≤ 16) (hen : ∀ i, i < n → en i = nI (am_eN tk n i)) (w : am_WF n mC mA s) (he : am_okE s e) (hp : p < n) (hl : r.length < 544) (hk : tk p = 10) (h : am_LXv post n tk ta en mC mA ph sols fails lK lV lH lL lA pl b L0 a (p + 1) e ((p, e, 1, 0, 0) :: r) s) : am_LXv post n tk ta en mC mA ph sols fails lK lV lH lL lA pl b L0 (a + 1) p e r s := by
  intro m rC rW jV jO jC jW kT kE fT fE fH fC fW h1 h2 h3 h4
  obtain ⟨m, rfl⟩ : ∃ m', m = m' + 1 := ⟨m - 1, by omega⟩
  have g1 : ¬ (1000000 : Int32) ≤ nI (1000000 - (m + 1)) := nI_ge (b := 1000000) (by omega) (by decide)
  have g2 : nI (1000000 - (m + 1)) + 1 = nI (1000000 - m) := by rw [nI_1]; exact congrArg nI (by omega)
  have hc : (nI p).toNatClampNeg = p := nI_clamp (by omega)
  have v32 : vp_in (nI p) 32 := vp_in_nI (by omega) (by decide)
  have ek : tk (nI p).toNatClampNeg = tk p := by rw [hc]
  have ea : ta (nI p).toNatClampNeg = ta p := by rw [hc]
  rw [wX_runPath_34]
  refine br_f g1 (br_t rfl (br_f (by decide) ?_))
  unfold wpX_visitToken
  exact am_xholdsT hn hp (br_f (by decide) ⟨v32, nm_r ek (br_f (by rw [hk]; decide) (br_f (by rw [hk]; decide) (br_f (by rw [hk]; decide) (br_f (by rw [hk]; decide) (br_f (by rw [hk]; decide) (br_f (by rw [hk]; decide) (br_f (by rw [hk]; decide) (br_f (by rw [hk]; decide) (br_f (by rw [hk]; decide) (br_f (by rw [hk]; decide) (br_f (by rw [hk]; decide) (br_f (by rw [hk]; decide) (br_t hk (am_xopen hl (am_x62v g2 (h m rC rW jV jO jC jW kT kE (upd fT r.length (nI p)) (upd fE r.length (am_xe s e)) (upd fH r.length 0) fC fW (by omega) (by omega) h3 (am_fx_open he h4)))))))))))))))))⟩)
theorem am_xr_open11 (hn : n ≤ 32) (hA : mA ≤ 16) (hen : ∀ i, i < n → en i = nI (am_eN tk n i)) (w : am_WF n mC mA s) (he : am_okE s e) (hp : p < n) (hl : r.length < 544) (hk : tk p = 11) (h : am_LXv post n tk ta en mC mA ph sols fails lK lV lH lL lA pl b L0 a (p + 1) e ((p, e, 1, 0, 0) :: r) s) : am_LXv post n tk ta en mC mA ph sols fails lK lV lH lL lA pl b L0 (a + 1) p e r s := by
  intro m rC rW jV jO jC jW kT kE fT fE fH fC fW h1 h2 h3 h4
  obtain ⟨m, rfl⟩ : ∃ m', m = m' + 1 := ⟨m - 1, by omega⟩
  have g1 : ¬ (1000000 : Int32) ≤ nI (1000000 - (m + 1)) := nI_ge (b := 1000000) (by omega) (by decide)
  have g2 : nI (1000000 - (m + 1)) + 1 = nI (1000000 - m) := by rw [nI_1]; exact congrArg nI (by omega)
  have hc : (nI p).toNatClampNeg = p := nI_clamp (by omega)
  have v32 : vp_in (nI p) 32 := vp_in_nI (by omega) (by decide)
  have ek : tk (nI p).toNatClampNeg = tk p := by rw [hc]
  have ea : ta (nI p).toNatClampNeg = ta p := by rw [hc]
  rw [wX_runPath_34]
  refine br_f g1 (br_t rfl (br_f (by decide) ?_))
  unfold wpX_visitToken
  exact am_xholdsT hn hp (br_f (by decide) ⟨v32, nm_r ek (br_f (by rw [hk]; decide) (br_f (by rw [hk]; decide) (br_f (by rw [hk]; decide) (br_f (by rw [hk]; decide) (br_f (by rw [hk]; decide) (br_f (by rw [hk]; decide) (br_f (by rw [hk]; decide) (br_f (by rw [hk]; decide) (br_f (by rw [hk]; decide) (br_f (by rw [hk]; decide) (br_f (by rw [hk]; decide) (br_f (by rw [hk]; decide) (br_f (by rw [hk]; decide) (br_t hk (am_xopen hl (am_x62v g2 (h m rC rW jV jO jC jW kT kE (upd fT r.length (nI p)) (upd fE r.length (am_xe s e)) (upd fH r.length 0) fC fW (by omega) (by omega) h3 (am_fx_open he h4))))))))))))))))))⟩)
theorem am_xr_open13 (hn : n ≤ 32) (hA : mA ≤ 16) (hen : ∀ i, i < n → en i = nI (am_eN tk n i)) (w : am_WF n mC mA s) (he : am_okE s e) (hp : p < n) (hl : r.length < 544) (hk : tk p = 13) (h : am_LXv post n tk ta en mC mA ph sols fails lK lV lH lL lA pl b L0 a (p + 1) e ((p, e, 1, 0, 0) :: r) s) : am_LXv post n tk ta en mC mA ph sols fails lK lV lH lL lA pl b L0 (a + 1) p e r s := by
  intro m rC rW jV jO jC jW kT kE fT fE fH fC fW h1 h2 h3 h4
  obtain ⟨m, rfl⟩ : ∃ m', m = m' + 1 := ⟨m - 1, by omega⟩
  have g1 : ¬ (1000000 : Int32) ≤ nI (1000000 - (m + 1)) := nI_ge (b := 1000000) (by omega) (by decide)
  have g2 : nI (1000000 - (m + 1)) + 1 = nI (1000000 - m) := by rw [nI_1]; exact congrArg nI (by omega)
  have hc : (nI p).toNatClampNeg = p := nI_clamp (by omega)
  have v32 : vp_in (nI p) 32 := vp_in_nI (by omega) (by decide)
  have ek : tk (nI p).toNatClampNeg = tk p := by rw [hc]
  have ea : ta (nI p).toNatClampNeg = ta p := by rw [hc]
  rw [wX_runPath_34]
  refine br_f g1 (br_t rfl (br_f (by decide) ?_))
  unfold wpX_visitToken
  exact am_xholdsT hn hp (br_f (by decide) ⟨v32, nm_r ek (br_f (by rw [hk]; decide) (br_t (by rw [hk]; decide) (am_xopen hl (am_x62v g2 (h m rC rW jV jO jC jW kT kE (upd fT r.length (nI p)) (upd fE r.length (am_xe s e)) (upd fH r.length 0) fC fW (by omega) (by omega) h3 (am_fx_open he h4))))))⟩)
theorem am_xr_open14 (hn : n ≤ 32) (hA : mA ≤ 16) (hen : ∀ i, i < n → en i = nI (am_eN tk n i)) (w : am_WF n mC mA s) (he : am_okE s e) (hp : p < n) (hl : r.length < 544) (hk : tk p = 14) (h : am_LXv post n tk ta en mC mA ph sols fails lK lV lH lL lA pl b L0 a (p + 1) e ((p, e, 1, 0, 0) :: r) s) : am_LXv post n tk ta en mC mA ph sols fails lK lV lH lL lA pl b L0 (a + 1) p e r s := by
  intro m rC rW jV jO jC jW kT kE fT fE fH fC fW h1 h2 h3 h4
  obtain ⟨m, rfl⟩ : ∃ m', m = m' + 1 := ⟨m - 1, by omega⟩
  have g1 : ¬ (1000000 : Int32) ≤ nI (1000000 - (m + 1)) := nI_ge (b := 1000000) (by omega) (by decide)
  have g2 : nI (1000000 - (m + 1)) + 1 = nI (1000000 - m) := by rw [nI_1]; exact congrArg nI (by omega)
  have hc : (nI p).toNatClampNeg = p := nI_clamp (by omega)
  have v32 : vp_in (nI p) 32 := vp_in_nI (by omega) (by decide)
  have ek : tk (nI p).toNatClampNeg = tk p := by rw [hc]
  have ea : ta (nI p).toNatClampNeg = ta p := by rw [hc]
  rw [wX_runPath_34]
  refine br_f g1 (br_t rfl (br_f (by decide) ?_))
  unfold wpX_visitToken
  exact am_xholdsT hn hp (br_f (by decide) ⟨v32, nm_r ek (br_f (by rw [hk]; decide) (br_t (by rw [hk]; decide) (am_xopen hl (am_x62v g2 (h m rC rW jV jO jC jW kT kE (upd fT r.length (nI p)) (upd fE r.length (am_xe s e)) (upd fH r.length 0) fC fW (by omega) (by omega) h3 (am_fx_open he h4))))))⟩)
theorem am_xr_open15 (hn : n ≤ 32) (hA : mA ≤ 16) (hen : ∀ i, i < n → en i = nI (am_eN tk n i)) (w : am_WF n mC mA s) (he : am_okE s e) (hp : p < n) (hl : r.length < 544) (hk : tk p = 15) (h : am_LXv post n tk ta en mC mA ph sols fails lK lV lH lL lA pl b L0 a (p + 1) e ((p, e, 1, 0, 0) :: r) s) : am_LXv post n tk ta en mC mA ph sols fails lK lV lH lL lA pl b L0 (a + 1) p e r s := by
  intro m rC rW jV jO jC jW kT kE fT fE fH fC fW h1 h2 h3 h4
  obtain ⟨m, rfl⟩ : ∃ m', m = m' + 1 := ⟨m - 1, by omega⟩
  have g1 : ¬ (1000000 : Int32) ≤ nI (1000000 - (m + 1)) := nI_ge (b := 1000000) (by omega) (by decide)
  have g2 : nI (1000000 - (m + 1)) + 1 = nI (1000000 - m) := by rw [nI_1]; exact congrArg nI (by omega)
  have hc : (nI p).toNatClampNeg = p := nI_clamp (by omega)
  have v32 : vp_in (nI p) 32 := vp_in_nI (by omega) (by decide)
  have ek : tk (nI p).toNatClampNeg = tk p := by rw [hc]
  have ea : ta (nI p).toNatClampNeg = ta p := by rw [hc]
  rw [wX_runPath_34]
  refine br_f g1 (br_t rfl (br_f (by decide) ?_))
  unfold wpX_visitToken
  exact am_xholdsT hn hp (br_f (by decide) ⟨v32, nm_r ek (br_f (by rw [hk]; decide) (br_t (by rw [hk]; decide) (am_xopen hl (am_x62v g2 (h m rC rW jV jO jC jW kT kE (upd fT r.length (nI p)) (upd fE r.length (am_xe s e)) (upd fH r.length 0) fC fW (by omega) (by omega) h3 (am_fx_open he h4))))))⟩)
theorem am_xr_open (hn : n ≤ 32) (hA : mA ≤ 16) (hen : ∀ i, i < n → en i = nI (am_eN tk n i)) (w : am_WF n mC mA s) (he : am_okE s e) (hp : p < n) (hl : r.length < 544) (hk : am_psh (tk p)) (h : am_LXv post n tk ta en mC mA ph sols fails lK lV lH lL lA pl b L0 a (p + 1) e ((p, e, 1, 0, 0) :: r) s) : am_LXv post n tk ta en mC mA ph sols fails lK lV lH lL lA pl b L0 (a + 1) p e r s := by
  rcases hk with q | q | q | q | q | q | q | q | q | q | q
  · exact am_xr_open7 hn hA hen w he hp hl q h
  · exact am_xr_open10 hn hA hen w he hp hl q h
  · exact am_xr_open11 hn hA hen w he hp hl q h
  · exact am_xr_open13 hn hA hen w he hp hl q h
  · exact am_xr_open14 hn hA hen w he hp hl q h
  · exact am_xr_open15 hn hA hen w he hp hl q h
  · exact am_xr_open2 hn hA hen w he hp hl q h
  · exact am_xr_open3 hn hA hen w he hp hl q h
  · exact am_xr_open4 hn hA hen w he hp hl q h
  · exact am_xr_open5 hn hA hen w he hp hl q h
  · exact am_xr_open6 hn hA hen w he hp hl q h
theorem am_xr_amb (hn : n ≤ 32) (hA : mA ≤ 16) (hen : ∀ i, i < n → en i = nI (am_eN tk n i)) (w : am_WF n mC mA s) (he : am_okE s e) (hp : p < n) (hl : r.length < 544) (hC : mC ≤ 6) (hL : L0 ≤ 6) (hz : ∀ j, L0 ≤ j → b j = false) (hk : tk p = 8) (hu : am_us s < mC) (h : am_LXv post n tk ta en mC mA ph sols fails lK lV lH lL lA pl b L0 a (am_q8 n tk p (b (am_us s))) e r (am_tick s)) : am_LXv post n tk ta en mC mA ph sols fails lK lV lH lL lA pl b L0 (a + 1) p e r s := by
  intro m rC rW jV jO jC jW kT kE fT fE fH fC fW h1 h2 h3 h4
  obtain ⟨m, rfl⟩ : ∃ m', m = m' + 1 := ⟨m - 1, by omega⟩
  have g1 : ¬ (1000000 : Int32) ≤ nI (1000000 - (m + 1)) := nI_ge (b := 1000000) (by omega) (by decide)
  have g2 : nI (1000000 - (m + 1)) + 1 = nI (1000000 - m) := by rw [nI_1]; exact congrArg nI (by omega)
  have hc : (nI p).toNatClampNeg = p := nI_clamp (by omega)
  have v32 : vp_in (nI p) 32 := vp_in_nI (by omega) (by decide)
  have ek : tk (nI p).toNatClampNeg = tk p := by rw [hc]
  have ea : ta (nI p).toNatClampNeg = ta p := by rw [hc]
  have at1 := am_al_tick s
  have b12 := am_nf16 w hA
  rw [wX_runPath_34]
  refine br_f g1 (br_t rfl (br_f (by decide) ?_))
  unfold wpX_visitToken
  exact am_xholdsT hn hp (br_f (by decide) ⟨v32, nm_r ek (br_f (by rw [hk]; decide) (br_f (by rw [hk]; decide) (br_f (by rw [hk]; decide) (br_f (by rw [hk]; decide) (br_f (by rw [hk]; decide) (br_f (by rw [hk]; decide) (br_f (by rw [hk]; decide) (br_f (by rw [hk]; decide) (br_f (by rw [hk]; decide) (br_f (by rw [hk]; decide) (br_t hk (am_xchoose hn hp hen hu hC hL hz (am_x62v g2 (h m rC rW jV jO jC jW kT kE fT fE fH fC fW (by omega) (by omega) h3 (am_fx_x (am_ext_tick s) b12.1 b12.2.1 r h4)))))))))))))))⟩)
theorem am_xr_ambF (hn : n ≤ 32) (hA : mA ≤ 16) (hen : ∀ i, i < n → en i = nI (am_eN tk n i)) (w : am_WF n mC mA s) (he : am_okE s e) (hp : p < n) (hl : r.length < 544) (hC : mC ≤ 6) (hk : tk p = 8) (hu : mC ≤ am_us s) (hq : am_QX post n tk ta en mC mA ph sols fails lK lV lH lL lA pl b L0 s) : am_LXv post n tk ta en mC mA ph sols fails lK lV lH lL lA pl b L0 (a + 1) p e r s := by
  intro m rC rW jV jO jC jW kT kE fT fE fH fC fW h1 h2 h3 h4
  obtain ⟨m, rfl⟩ : ∃ m', m = m' + 1 := ⟨m - 1, by omega⟩
  have g1 : ¬ (1000000 : Int32) ≤ nI (1000000 - (m + 1)) := nI_ge (b := 1000000) (by omega) (by decide)
  have g2 : nI (1000000 - (m + 1)) + 1 = nI (1000000 - m) := by rw [nI_1]; exact congrArg nI (by omega)
  have hc : (nI p).toNatClampNeg = p := nI_clamp (by omega)
  have v32 : vp_in (nI p) 32 := vp_in_nI (by omega) (by decide)
  have ek : tk (nI p).toNatClampNeg = tk p := by rw [hc]
  have ea : ta (nI p).toNatClampNeg = ta p := by rw [hc]
  have hu2 := w.1
  rw [wX_runPath_34]
  refine br_f g1 (br_t rfl (br_f (by decide) ?_))
  unfold wpX_visitToken
  exact am_xholdsT hn hp (br_f (by decide) ⟨v32, nm_r ek (br_f (by rw [hk]; decide) (br_f (by rw [hk]; decide) (br_f (by rw [hk]; decide) (br_f (by rw [hk]; decide) (br_f (by rw [hk]; decide) (br_f (by rw [hk]; decide) (br_f (by rw [hk]; decide) (br_f (by rw [hk]; decide) (br_f (by rw [hk]; decide) (br_f (by rw [hk]; decide) (br_t hk (br_f (nI_nlt hu (by omega)) (am_x62F (hq _ _ _ _ _ _ _ _ _ _ _ _ _ _ _ _ _ _))))))))))))))⟩)
theorem am_xr_fail (hn : n ≤ 32) (hA : mA ≤ 16) (hen : ∀ i, i < n → en i = nI (am_eN tk n i)) (w : am_WF n mC mA s) (he : am_okE s e) (hp : p < n) (hl : r.length < 544) (hk : tk p = 9) (hq : am_QX post n tk ta en mC mA ph sols fails lK lV lH lL lA pl b L0 s) : am_LXv post n tk ta en mC mA ph sols fails lK lV lH lL lA pl b L0 (a + 1) p e r s := by
  intro m rC rW jV jO jC jW kT kE fT fE fH fC fW h1 h2 h3 h4
  obtain ⟨m, rfl⟩ : ∃ m', m = m' + 1 := ⟨m - 1, by omega⟩
  have g1 : ¬ (1000000 : Int32) ≤ nI (1000000 - (m + 1)) := nI_ge (b := 1000000) (by omega) (by decide)
  have g2 : nI (1000000 - (m + 1)) + 1 = nI (1000000 - m) := by rw [nI_1]; exact congrArg nI (by omega)
  have hc : (nI p).toNatClampNeg = p := nI_clamp (by omega)
  have v32 : vp_in (nI p) 32 := vp_in_nI (by omega) (by decide)
  have ek : tk (nI p).toNatClampNeg = tk p := by rw [hc]
  have ea : ta (nI p).toNatClampNeg = ta p := by rw [hc]
  rw [wX_runPath_34]
  refine br_f g1 (br_t rfl (br_f (by decide) ?_))
  unfold wpX_visitToken
  exact am_xholdsT hn hp (br_f (by decide) ⟨v32, nm_r ek (br_f (by rw [hk]; decide) (br_f (by rw [hk]; decide) (br_f (by rw [hk]; decide) (br_f (by rw [hk]; decide) (br_f (by rw [hk]; decide) (br_f (by rw [hk]; decide) (br_f (by rw [hk]; decide) (br_f (by rw [hk]; decide) (br_f (by rw [hk]; decide) (br_f (by rw [hk]; decide) (br_f (by rw [hk]; decide) (br_t hk (am_x62F (hq _ _ _ _ _ _ _ _ _ _ _ _ _ _ _ _ _ _))))))))))))))⟩)
theorem am_xr_lam (hn : n ≤ 32) (hA : mA ≤ 16) (hen : ∀ i, i < n → en i = nI (am_eN tk n i)) (w : am_WF n mC mA s) (he : am_okE s e) (hp : p < n) (hl : r.length < 544) (hk : tk p = 12) (ha : am_al s < mA) (h : am_LXr post n tk ta en mC mA ph sols fails lK lV lH lL lA pl b L0 a 2 (nI (am_nc s)) r (am_nk p e s)) : am_LXv post n tk ta en mC mA ph sols fails lK lV lH lL lA pl b L0 (a + 1) p e r s := by
  intro m rC rW jV jO jC jW kT kE fT fE fH fC fW h1 h2 h3 h4
  obtain ⟨m, rfl⟩ : ∃ m', m = m' + 1 := ⟨m - 1, by omega⟩
  have g1 : ¬ (1000000 : Int32) ≤ nI (1000000 - (m + 1)) := nI_ge (b := 1000000) (by omega) (by decide)
  have g2 : nI (1000000 - (m + 1)) + 1 = nI (1000000 - m) := by rw [nI_1]; exact congrArg nI (by omega)
  have hc : (nI p).toNatClampNeg = p := nI_clamp (by omega)
  have v32 : vp_in (nI p) 32 := vp_in_nI (by omega) (by decide)
  have ek : tk (nI p).toNatClampNeg = tk p := by rw [hc]
  have ea : ta (nI p).toNatClampNeg = ta p := by rw [hc]
  have an := am_al_nk p e s
  have b12 := am_nf16 w hA
  have hh := h m (nI p) (am_xe s e) jV jO jC jW (upd kT (am_al s) (nI p)) (upd kE (am_al s) (am_xe s e)) fT fE fH fC fW (by omega) (by omega) (am_sx_nk w hA he h3) (am_fx_x (am_ext_nk p e s) b12.1 b12.2.1 r h4)
  rw [am_xk_2, am_xv_nk p e b12.2.1] at hh
  rw [wX_runPath_34]
  refine br_f g1 (br_t rfl (br_f (by decide) ?_))
  unfold wpX_visitToken
  exact am_xholdsT hn hp (br_f (by decide) ⟨v32, nm_r ek (br_f (by rw [hk]; decide) (br_f (by rw [hk]; decide) (br_f (by rw [hk]; decide) (br_f (by rw [hk]; decide) (br_f (by rw [hk]; decide) (br_f (by rw [hk]; decide) (br_f (by rw [hk]; decide) (br_f (by rw [hk]; decide) (br_f (by rw [hk]; decide) (br_f (by rw [hk]; decide) (br_f (by rw [hk]; decide) (br_f (by rw [hk]; decide) (br_f (by rw [hk]; decide) (br_f (by rw [hk]; decide) (br_t hk (am_xmcT ha hA (am_x62r r (by omega) g2 hh)))))))))))))))))⟩)
theorem am_xr_lamF (hn : n ≤ 32) (hA : mA ≤ 16) (hen : ∀ i, i < n → en i = nI (am_eN tk n i)) (w : am_WF n mC mA s) (he : am_okE s e) (hp : p < n) (hl : r.length < 544) (hk : tk p = 12) (ha : mA ≤ am_al s) (hq : am_QX post n tk ta en mC mA ph sols fails lK lV lH lL lA pl b L0 s) : am_LXv post n tk ta en mC mA ph sols fails lK lV lH lL lA pl b L0 (a + 1) p e r s := by
  intro m rC rW jV jO jC jW kT kE fT fE fH fC fW h1 h2 h3 h4
  obtain ⟨m, rfl⟩ : ∃ m', m = m' + 1 := ⟨m - 1, by omega⟩
  have g1 : ¬ (1000000 : Int32) ≤ nI (1000000 - (m + 1)) := nI_ge (b := 1000000) (by omega) (by decide)
  have g2 : nI (1000000 - (m + 1)) + 1 = nI (1000000 - m) := by rw [nI_1]; exact congrArg nI (by omega)
  have hc : (nI p).toNatClampNeg = p := nI_clamp (by omega)
  have v32 : vp_in (nI p) 32 := vp_in_nI (by omega) (by decide)
  have ek : tk (nI p).toNatClampNeg = tk p := by rw [hc]
  have ea : ta (nI p).toNatClampNeg = ta p := by rw [hc]
  rw [wX_runPath_34]
  refine br_f g1 (br_t rfl (br_f (by decide) ?_))
  unfold wpX_visitToken
  exact am_xholdsT hn hp (br_f (by decide) ⟨v32, nm_r ek (br_f (by rw [hk]; decide) (br_f (by rw [hk]; decide) (br_f (by rw [hk]; decide) (br_f (by rw [hk]; decide) (br_f (by rw [hk]; decide) (br_f (by rw [hk]; decide) (br_f (by rw [hk]; decide) (br_f (by rw [hk]; decide) (br_f (by rw [hk]; decide) (br_f (by rw [hk]; decide) (br_f (by rw [hk]; decide) (br_f (by rw [hk]; decide) (br_f (by rw [hk]; decide) (br_f (by rw [hk]; decide) (br_t hk (am_xmcF ha (am_nf16 w hA).2.2 (am_x62F (hq _ _ _ _ _ _ _ _ _ _ _ _ _ _ _ _ _ _))))))))))))))))))⟩)
theorem am_xr_hold2 (hn : n ≤ 32) (hA : mA ≤ 16) (hen : ∀ i, i < n → en i = nI (am_eN tk n i)) (w : am_WF n mC mA s) (he : am_okE s e) (hp : p < n) (hl : r.length < 544) (hv : am_okV s rk rv) (hk : tk p = 2) (h : am_LXv post n tk ta en mC mA ph sols fails lK lV lH lL lA pl b L0 a (am_eN tk n (p + 1)) e ((p, e, 2, rk, rv) :: r) s) : am_LXr post n tk ta en mC mA ph sols fails lK lV lH lL lA pl b L0 (a + 1) rk rv ((p, e, 1, 0, 0) :: r) s := by
  intro m po ev jV jO jC jW kT kE fT fE fH fC fW h1 h2 h3 h4
  obtain ⟨m, rfl⟩ : ∃ m', m = m' + 1 := ⟨m - 1, by omega⟩
  have g1 : ¬ (1000000 : Int32) ≤ nI (1000000 - (m + 1)) := nI_ge (b := 1000000) (by omega) (by decide)
  have g2 : nI (1000000 - (m + 1)) + 1 = nI (1000000 - m) := by rw [nI_1]; exact congrArg nI (by omega)
  have hf0 := h4
  obtain ⟨q1, q2, q3, q4, q5⟩ := h4
  have hc : (nI r.length).toNatClampNeg = r.length := nI_clamp (by omega)
  have v544 : vp_in (nI r.length) 544 := vp_in_nI hl (by decide)
  have et : fT (nI r.length).toNatClampNeg = nI p := by rw [hc]; exact q1
  have ee : fE (nI r.length).toNatClampNeg = am_xe s e := by rw [hc]; exact q3
  have d0 : (0 : Int32) < nI (r.length + 1) := nI_lt (a := 0) (by omega) (by omega)
  have hh0 : fH (nI r.length).toNatClampNeg = 0 := by
    rw [hc]
    rcases q4 with ⟨_, z⟩ | ⟨z, _⟩
    · exact z
    · exact absurd z (by decide)
  rw [wX_runPath_34]
  refine br_f g1 (br_t rfl (br_t rfl ?_))
  exact br_t d0 (nm_r (nI_pred r.length) ⟨v544, nm_r et (am_xtk hn hp (am_xta hn hp (am_xend hn hp hen (nI_1 p) ⟨v544, nm_r ee (br_t (by rw [hk]; decide) (⟨v544, br_t hh0 (am_xhf hl (am_nark rk) (am_x62v g2 (h m (am_xk rk) (am_xv s rk rv) jV jO jC jW kT kE fT fE (upd fH r.length 1) (upd fC r.length (am_xk rk)) (upd fW r.length (am_xv s rk rv)) (by omega) (by omega) h3 (am_fx_hold hv hf0))))⟩))⟩)))⟩)
theorem am_xr_hold3 (hn : n ≤ 32) (hA : mA ≤ 16) (hen : ∀ i, i < n → en i = nI (am_eN tk n i)) (w : am_WF n mC mA s) (he : am_okE s e) (hp : p < n) (hl : r.length < 544) (hv : am_okV s rk rv) (hk : tk p = 3) (h : am_LXv post n tk ta en mC mA ph sols fails lK lV lH lL lA pl b L0 a (am_eN tk n (p + 1)) e ((p, e, 2, rk, rv) :: r) s) : am_LXr post n tk ta en mC mA ph sols fails lK lV lH lL lA pl b L0 (a + 1) rk rv ((p, e, 1, 0, 0) :: r) s := by
  intro m po ev jV jO jC jW kT kE fT fE fH fC fW h1 h2 h3 h4
  obtain ⟨m, rfl⟩ : ∃ m', m = m' + 1 := ⟨m - 1, by omega⟩
  have g1 : ¬ (1000000 : Int32) ≤ nI (1000000 - (m + 1)) := nI_ge (b := 1000000) (by omega) (by decide)
  have g2 : nI (1000000 - (m + 1)) + 1 = nI (1000000 - m) := by rw [nI_1]; exact congrArg nI (by omega)
  have hf0 := h4
  obtain ⟨q1, q2, q3, q4, q5⟩ := h4
  have hc : (nI r.length).toNatClampNeg = r.length := nI_clamp (by omega)
  have v544 : vp_in (nI r.length) 544 := vp_in_nI hl (by decide)
  have et : fT (nI r.length).toNatClampNeg = nI p := by rw [hc]; exact q1
  have ee : fE (nI r.length).toNatClampNeg = am_xe s e := by rw [hc]; exact q3
  have d0 : (0 : Int32) < nI (r.length + 1) := nI_lt (a := 0) (by omega) (by omega)
  have hh0 : fH (nI r.length).toNatClampNeg = 0 := by
    rw [hc]
    rcases q4 with ⟨_, z⟩ | ⟨z, _⟩
    · exact z
    · exact absurd z (by decide)
  rw [wX_runPath_34]
  refine br_f g1 (br_t rfl (br_t rfl ?_))
  exact br_t d0 (nm_r (nI_pred r.length) ⟨v544, nm_r et (am_xtk hn hp (am_xta hn hp (am_xend hn hp hen (nI_1 p) ⟨v544, nm_r ee (br_t (by rw [hk]; decide) (⟨v544, br_t hh0 (am_xhf hl (am_nark rk) (am_x62v g2 (h m (am_xk rk) (am_xv s rk rv) jV jO jC jW kT kE fT fE (upd fH r.length 1) (upd fC r.length (am_xk rk)) (upd fW r.length (am_xv s rk rv)) (by omega) (by omega) h3 (am_fx_hold hv hf0))))⟩))⟩)))⟩)
theorem am_xr_hold4 (hn : n ≤ 32) (hA : mA ≤ 16) (hen : ∀ i, i < n → en i = nI (am_eN tk n i)) (w : am_WF n mC mA s) (he : am_okE s e) (hp : p < n) (hl : r.length < 544) (hv : am_okV s rk rv) (hk : tk p = 4) (h : am_LXv post n tk ta en mC mA ph sols fails lK lV lH lL lA pl b L0 a (am_eN tk n (p + 1)) e ((p, e, 2, rk, rv) :: r) s) : am_LXr post n tk ta en mC mA ph sols fails lK lV lH lL lA pl b L0 (a + 1) rk rv ((p, e, 1, 0, 0) :: r) s := by
  intro m po ev jV jO jC jW kT kE fT fE fH fC fW h1 h2 h3 h4
  obtain ⟨m, rfl⟩ : ∃ m', m = m' + 1 := ⟨m - 1, by omega⟩
  have g1 : ¬ (1000000 : Int32) ≤ nI (1000000 - (m + 1)) := nI_ge (b := 1000000) (by omega) (by decide)
  have g2 : nI (1000000 - (m + 1)) + 1 = nI (1000000 - m) := by rw [nI_1]; exact congrArg nI (by omega)
  have hf0 := h4
  obtain ⟨q1, q2, q3, q4, q5⟩ := h4
  have hc : (nI r.length).toNatClampNeg = r.length := nI_clamp (by omega)
  have v544 : vp_in (nI r.length) 544 := vp_in_nI hl (by decide)
  have et : fT (nI r.length).toNatClampNeg = nI p := by rw [hc]; exact q1
  have ee : fE (nI r.length).toNatClampNeg = am_xe s e := by rw [hc]; exact q3
  have d0 : (0 : Int32) < nI (r.length + 1) := nI_lt (a := 0) (by omega) (by omega)
  have hh0 : fH (nI r.length).toNatClampNeg = 0 := by
    rw [hc]
    rcases q4 with ⟨_, z⟩ | ⟨z, _⟩
    · exact z
    · exact absurd z (by decide)
  rw [wX_runPath_34]
  refine br_f g1 (br_t rfl (br_t rfl ?_))
  exact br_t d0 (nm_r (nI_pred r.length) ⟨v544, nm_r et (am_xtk hn hp (am_xta hn hp (am_xend hn hp hen (nI_1 p) ⟨v544, nm_r ee (br_t (by rw [hk]; decide) (⟨v544, br_t hh0 (am_xhf hl (am_nark rk) (am_x62v g2 (h m (am_xk rk) (am_xv s rk rv) jV jO jC jW kT kE fT fE (upd fH r.length 1) (upd fC r.length (am_xk rk)) (upd fW r.length (am_xv s rk rv)) (by omega) (by omega) h3 (am_fx_hold hv hf0))))⟩))⟩)))⟩)
theorem am_xr_hold5 (hn : n ≤ 32) (hA : mA ≤ 16) (hen : ∀ i, i < n → en i = nI (am_eN tk n i)) (w : am_WF n mC mA s) (he : am_okE s e) (hp : p < n) (hl : r.length < 544) (hv : am_okV s rk rv) (hk : tk p = 5) (h : am_LXv post n tk ta en mC mA ph sols fails lK lV lH lL lA pl b L0 a (am_eN tk n (p + 1)) e ((p, e, 2, rk, rv) :: r) s) : am_LXr post n tk ta en mC mA ph sols fails lK lV lH lL lA pl b L0 (a + 1) rk rv ((p, e, 1, 0, 0) :: r) s := by
  intro m po ev jV jO jC jW kT kE fT fE fH fC fW h1 h2 h3 h4
  obtain ⟨m, rfl⟩ : ∃ m', m = m' + 1 := ⟨m - 1, by omega⟩
  have g1 : ¬ (1000000 : Int32) ≤ nI (1000000 - (m + 1)) := nI_ge (b := 1000000) (by omega) (by decide)
  have g2 : nI (1000000 - (m + 1)) + 1 = nI (1000000 - m) := by rw [nI_1]; exact congrArg nI (by omega)
  have hf0 := h4
  obtain ⟨q1, q2, q3, q4, q5⟩ := h4
  have hc : (nI r.length).toNatClampNeg = r.length := nI_clamp (by omega)
  have v544 : vp_in (nI r.length) 544 := vp_in_nI hl (by decide)
  have et : fT (nI r.length).toNatClampNeg = nI p := by rw [hc]; exact q1
  have ee : fE (nI r.length).toNatClampNeg = am_xe s e := by rw [hc]; exact q3
  have d0 : (0 : Int32) < nI (r.length + 1) := nI_lt (a := 0) (by omega) (by omega)
  have hh0 : fH (nI r.length).toNatClampNeg = 0 := by
    rw [hc]
    rcases q4 with ⟨_, z⟩ | ⟨z, _⟩
    · exact z
    · exact absurd z (by decide)
  rw [wX_runPath_34]
  refine br_f g1 (br_t rfl (br_t rfl ?_))
  exact br_t d0 (nm_r (nI_pred r.length) ⟨v544, nm_r et (am_xtk hn hp (am_xta hn hp (am_xend hn hp hen (nI_1 p) ⟨v544, nm_r ee (br_t (by rw [hk]; decide) (⟨v544, br_t hh0 (am_xhf hl (am_nark rk) (am_x62v g2 (h m (am_xk rk) (am_xv s rk rv) jV jO jC jW kT kE fT fE (upd fH r.length 1) (upd fC r.length (am_xk rk)) (upd fW r.length (am_xv s rk rv)) (by omega) (by omega) h3 (am_fx_hold hv hf0))))⟩))⟩)))⟩)
theorem am_xr_hold6 (hn : n ≤ 32) (hA : mA ≤ 16) (hen : ∀ i, i < n → en i = nI (am_eN tk n i)) (w : am_WF n mC mA s) (he : am_okE s e) (hp : p < n) (hl : r.length < 544) (hv : am_okV s rk rv) (hk : tk p = 6) (h : am_LXv post n tk ta en mC mA ph sols fails lK lV lH lL lA pl b L0 a (am_eN tk n (p + 1)) e ((p, e, 2, rk, rv) :: r) s) : am_LXr post n tk ta en mC mA ph sols fails lK lV lH lL lA pl b L0 (a + 1) rk rv ((p, e, 1, 0, 0) :: r) s := by
  intro m po ev jV jO jC jW kT kE fT fE fH fC fW h1 h2 h3 h4
  obtain ⟨m, rfl⟩ : ∃ m', m = m' + 1 := ⟨m - 1, by omega⟩
  have g1 : ¬ (1000000 : Int32) ≤ nI (1000000 - (m + 1)) := nI_ge (b := 1000000) (by omega) (by decide)
  have g2 : nI (1000000 - (m + 1)) + 1 = nI (1000000 - m) := by rw [nI_1]; exact congrArg nI (by omega)
  have hf0 := h4
  obtain ⟨q1, q2, q3, q4, q5⟩ := h4
  have hc : (nI r.length).toNatClampNeg = r.length := nI_clamp (by omega)
  have v544 : vp_in (nI r.length) 544 := vp_in_nI hl (by decide)
  have et : fT (nI r.length).toNatClampNeg = nI p := by rw [hc]; exact q1
  have ee : fE (nI r.length).toNatClampNeg = am_xe s e := by rw [hc]; exact q3
  have d0 : (0 : Int32) < nI (r.length + 1) := nI_lt (a := 0) (by omega) (by omega)
  have hh0 : fH (nI r.length).toNatClampNeg = 0 := by
    rw [hc]
    rcases q4 with ⟨_, z⟩ | ⟨z, _⟩
    · exact z
    · exact absurd z (by decide)
  rw [wX_runPath_34]
  refine br_f g1 (br_t rfl (br_t rfl ?_))
  exact br_t d0 (nm_r (nI_pred r.length) ⟨v544, nm_r et (am_xtk hn hp (am_xta hn hp (am_xend hn hp hen (nI_1 p) ⟨v544, nm_r ee (br_t (by rw [hk]; decide) (⟨v544, br_t hh0 (am_xhf hl (am_nark rk) (am_x62v g2 (h m (am_xk rk) (am_xv s rk rv) jV jO jC jW kT kE fT fE (upd fH r.length 1) (upd fC r.length (am_xk rk)) (upd fW r.length (am_xv s rk rv)) (by omega) (by omega) h3 (am_fx_hold hv hf0))))⟩))⟩)))⟩)
theorem am_xr_hold13 (hn : n ≤ 32) (hA : mA ≤ 16) (hen : ∀ i, i < n → en i = nI (am_eN tk n i)) (w : am_WF n mC mA s) (he : am_okE s e) (hp : p < n) (hl : r.length < 544) (hv : am_okV s rk rv) (hk : tk p = 13) (h : am_LXv post n tk ta en mC mA ph sols fails lK lV lH lL lA pl b L0 a (am_eN tk n (p + 1)) e ((p, e, 2, rk, rv) :: r) s) : am_LXr post n tk ta en mC mA ph sols fails lK lV lH lL lA pl b L0 (a + 1) rk rv ((p, e, 1, 0, 0) :: r) s := by
  intro m po ev jV jO jC jW kT kE fT fE fH fC fW h1 h2 h3 h4
  obtain ⟨m, rfl⟩ : ∃ m', m = m' + 1 := ⟨m - 1, by omega⟩
  have g1 : ¬ (1000000 : Int32) ≤ nI (1000000 - (m + 1)) := nI_ge (b := 1000000) (by omega) (by decide)
  have g2 : nI (1000000 - (m + 1)) + 1 = nI (1000000 - m) := by rw [nI_1]; exact congrArg nI (by omega)
  have hf0 := h4
  obtain ⟨q1, q2, q3, q4, q5⟩ := h4
  have hc : (nI r.length).toNatClampNeg = r.length := nI_clamp (by omega)
  have v544 : vp_in (nI r.length) 544 := vp_in_nI hl (by decide)
  have et : fT (nI r.length).toNatClampNeg = nI p := by rw [hc]; exact q1
  have ee : fE (nI r.length).toNatClampNeg = am_xe s e := by rw [hc]; exact q3
  have d0 : (0 : Int32) < nI (r.length + 1) := nI_lt (a := 0) (by omega) (by omega)
  have hh0 : fH (nI r.length).toNatClampNeg = 0 := by
    rw [hc]
    rcases q4 with ⟨_, z⟩ | ⟨z, _⟩
    · exact z
    · exact absurd z (by decide)
  rw [wX_runPath_34]
  refine br_f g1 (br_t rfl (br_t rfl ?_))
  exact br_t d0 (nm_r (nI_pred r.length) ⟨v544, nm_r et (am_xtk hn hp (am_xta hn hp (am_xend hn hp hen (nI_1 p) ⟨v544, nm_r ee (br_f (by rw [hk]; decide) (br_f (by rw [hk]; decide) (br_f (by rw [hk]; decide) (br_f (by rw [hk]; decide) (br_f (by rw [hk]; decide) (br_f (by rw [hk]; decide) (br_f (by rw [hk]; decide) (br_f (by rw [hk]; decide) (br_t hk (⟨v544, br_t hh0 (am_xhf hl (am_nark rk) (am_x62v g2 (h m (am_xk rk) (am_xv s rk rv) jV jO jC jW kT kE fT fE (upd fH r.length 1) (upd fC r.length (am_xk rk)) (upd fW r.length (am_xv s rk rv)) (by omega) (by omega) h3 (am_fx_hold hv hf0))))⟩))))))))))⟩)))⟩)
theorem am_xr_calc2 (hn : n ≤ 32) (hA : mA ≤ 16) (hen : ∀ i, i < n → en i = nI (am_eN tk n i)) (w : am_WF n mC mA s) (he : am_okE s e) (hp : p < n) (hl : r.length < 544) (hk : tk p = 2) (h : am_LXr post n tk ta en mC mA ph sols fails lK lV lH lL lA pl b L0 a 1 (am_op (tk p) v rv) r s) : am_LXr post n tk ta en mC mA ph sols fails lK lV lH lL lA pl b L0 (a + 1) 1 rv ((p, e, 2, 1, v) :: r) s := by
  intro m po ev jV jO jC jW kT kE fT fE fH fC fW h1 h2 h3 h4
  obtain ⟨m, rfl⟩ : ∃ m', m = m' + 1 := ⟨m - 1, by omega⟩
  have g1 : ¬ (1000000 : Int32) ≤ nI (1000000 - (m + 1)) := nI_ge (b := 1000000) (by omega) (by decide)
  have g2 : nI (1000000 - (m + 1)) + 1 = nI (1000000 - m) := by rw [nI_1]; exact congrArg nI (by omega)
  have hf0 := h4
  obtain ⟨q1, q2, q3, q4, q5⟩ := h4
  have hc : (nI r.length).toNatClampNeg = r.length := nI_clamp (by omega)
  have v544 : vp_in (nI r.length) 544 := vp_in_nI hl (by decide)
  have et : fT (nI r.length).toNatClampNeg = nI p := by rw [hc]; exact q1
  have ee : fE (nI r.length).toNatClampNeg = am_xe s e := by rw [hc]; exact q3
  have d0 : (0 : Int32) < nI (r.length + 1) := nI_lt (a := 0) (by omega) (by omega)
  obtain ⟨z1, z2, z3, z4⟩ : fH r.length = 1 ∧ am_okV s 1 v ∧ fC r.length = am_xk 1 ∧ fW r.length = am_xv s 1 v := by
    rcases q4 with ⟨z, _⟩ | ⟨_, z⟩
    · exact absurd z (by decide)
    · exact z
  have hh1 : ¬ fH (nI r.length).toNatClampNeg = 0 := by rw [hc, z1]; decide
  have ec : fC (nI r.length).toNatClampNeg = am_xk 1 := by rw [hc]; exact z3
  have ew : fW (nI r.length).toNatClampNeg = am_xv s 1 v := by rw [hc]; exact z4
  rw [am_xk_1] at ec
  rw [am_xv_1] at ew
  have hh := h m po (am_xe s e) jV jO jC jW kT kE fT fE fH fC fW (by omega) (by omega) h3 q5
  rw [am_xk_1, am_xv_1] at hh
  have hb : am_bin (tk p) := by rw [hk]; unfold am_bin; decide
  rw [am_xk_1, am_xv_1]
  rw [wX_runPath_34]
  refine br_f g1 (br_t rfl (br_t rfl ?_))
  exact br_t d0 (nm_r (nI_pred r.length) ⟨v544, nm_r et (am_xtk hn hp (am_xta hn hp (am_xend hn hp hen (nI_1 p) ⟨v544, nm_r ee (br_t (by rw [hk]; decide) (⟨v544, br_f hh1 (br_f (by rw [hk]; decide) ⟨v544, br_t ec (br_t rfl ⟨v544, am_xcomb hb ew (am_xgi rfl (am_x62r r (by omega) g2 hh))⟩)⟩)⟩))⟩)))⟩)
theorem am_xr_calcF2 (hn : n ≤ 32) (hA : mA ≤ 16) (hen : ∀ i, i < n → en i = nI (am_eN tk n i)) (w : am_WF n mC mA s) (he : am_okE s e) (hp : p < n) (hl : r.length < 544) (hv : am_okV s rk rv) (hk : tk p = 2) (hno : ¬ (k = 1 ∧ rk = 1)) (hq : am_QX post n tk ta en mC mA ph sols fails lK lV lH lL lA pl b L0 s) : am_LXr post n tk ta en mC mA ph sols fails lK lV lH lL lA pl b L0 (a + 1) rk rv ((p, e, 2, k, v) :: r) s := by
  intro m po ev jV jO jC jW kT kE fT fE fH fC fW h1 h2 h3 h4
  obtain ⟨m, rfl⟩ : ∃ m', m = m' + 1 := ⟨m - 1, by omega⟩
  have g1 : ¬ (1000000 : Int32) ≤ nI (1000000 - (m + 1)) := nI_ge (b := 1000000) (by omega) (by decide)
  have g2 : nI (1000000 - (m + 1)) + 1 = nI (1000000 - m) := by rw [nI_1]; exact congrArg nI (by omega)
  have hf0 := h4
  obtain ⟨q1, q2, q3, q4, q5⟩ := h4
  have hc : (nI r.length).toNatClampNeg = r.length := nI_clamp (by omega)
  have v544 : vp_in (nI r.length) 544 := vp_in_nI hl (by decide)
  have et : fT (nI r.length).toNatClampNeg = nI p := by rw [hc]; exact q1
  have ee : fE (nI r.length).toNatClampNeg = am_xe s e := by rw [hc]; exact q3
  have d0 : (0 : Int32) < nI (r.length + 1) := nI_lt (a := 0) (by omega) (by omega)
  obtain ⟨z1, z2, z3, z4⟩ : fH r.length = 1 ∧ am_okV s k v ∧ fC r.length = am_xk k ∧ fW r.length = am_xv s k v := by
    rcases q4 with ⟨z, _⟩ | ⟨_, z⟩
    · exact absurd z (by decide)
    · exact z
  have hh1 : ¬ fH (nI r.length).toNatClampNeg = 0 := by rw [hc, z1]; decide
  have ec : fC (nI r.length).toNatClampNeg = am_xk k := by rw [hc]; exact z3
  have ew : fW (nI r.length).toNatClampNeg = am_xv s k v := by rw [hc]; exact z4
  rcases z2 with y | ⟨y, _⟩
  · rcases hv with y2 | ⟨y2, _⟩
    · exact absurd ⟨y, y2⟩ hno
    · rw [y, am_xk_1] at ec
      rw [y2, am_xk_2]
      rw [wX_runPath_34]
      refine br_f g1 (br_t rfl (br_t rfl ?_))
      exact br_t d0 (nm_r (nI_pred r.length) ⟨v544, nm_r et (am_xtk hn hp (am_xta hn hp (am_xend hn hp hen (nI_1 p) ⟨v544, nm_r ee (br_t (by rw [hk]; decide) (⟨v544, br_f hh1 (br_f (by rw [hk]; decide) ⟨v544, br_t ec (br_f (by decide) (am_x62F (hq _ _ _ _ _ _ _ _ _ _ _ _ _ _ _ _ _ _)))⟩)⟩))⟩)))⟩)
  · have nc : ¬ fC (nI r.length).toNatClampNeg = 0 := by rw [ec, y, am_xk_2]; decide
    rw [wX_runPath_34]
    refine br_f g1 (br_t rfl (br_t rfl ?_))
    exact br_t d0 (nm_r (nI_pred r.length) ⟨v544, nm_r et (am_xtk hn hp (am_xta hn hp (am_xend hn hp hen (nI_1 p) ⟨v544, nm_r ee (br_t (by rw [hk]; decide) (⟨v544, br_f hh1 (br_f (by rw [hk]; decide) ⟨v544, br_f nc (am_x62F (hq _ _ _ _ _ _ _ _ _ _ _ _ _ _ _ _ _ _))⟩)⟩))⟩)))⟩)
theorem am_xr_calc3 (hn : n ≤ 32) (hA : mA ≤ 16) (hen : ∀ i, i < n → en i = nI (am_eN tk n i)) (w : am_WF n mC mA s) (he : am_okE s e) (hp : p < n) (hl : r.length < 544) (hk : tk p = 3) (h : am_LXr post n tk ta en mC mA ph sols fails lK lV lH lL lA pl b L0 a 1 (am_op (tk p) v rv) r s) : am_LXr post n tk ta en mC mA ph sols fails lK lV lH lL lA pl b L0 (a + 1) 1 rv ((p, e, 2, 1, v) :: r) s := by
  intro m po ev jV jO jC jW kT kE fT fE fH fC fW h1 h2 h3 h4
  obtain ⟨m, rfl⟩ : ∃ m', m = m' + 1 := ⟨m - 1, by omega⟩
  have g1 : ¬ (1000000 : Int32) ≤ nI (1000000 - (m + 1)) := nI_ge (b := 1000000) (by omega) (by decide)
  have g2 : nI (1000000 - (m + 1)) + 1 = nI (1000000 - m) := by rw [nI_1]; exact congrArg nI (by omega)
  have hf0 := h4
  obtain ⟨q1, q2, q3, q4, q5⟩ := h4
  have hc : (nI r.length).toNatClampNeg = r.length := nI_clamp (by omega)
  have v544 : vp_in (nI r.length) 544 := vp_in_nI hl (by decide)
  have et : fT (nI r.length).toNatClampNeg = nI p := by rw [hc]; exact q1
  have ee : fE (nI r.length).toNatClampNeg = am_xe s e := by rw [hc]; exact q3
  have d0 : (0 : Int32) < nI (r.length + 1) := nI_lt (a := 0) (by omega) (by omega)
  obtain ⟨z1, z2, z3, z4⟩ : fH r.length = 1 ∧ am_okV s 1 v ∧ fC r.length = am_xk 1 ∧ fW r.length = am_xv s 1 v := by
    rcases q4 with ⟨z, _⟩ | ⟨_, z⟩
    · exact absurd z (by decide)
    · exact z
  have hh1 : ¬ fH (nI r.length).toNatClampNeg = 0 := by rw [hc, z1]; decide
  have ec : fC (nI r.length).toNatClampNeg = am_xk 1 := by rw [hc]; exact z3
  have ew : fW (nI r.length).toNatClampNeg = am_xv s 1 v := by rw [hc]; exact z4
  rw [am_xk_1] at ec
  rw [am_xv_1] at ew
  have hh := h m po (am_xe s e) jV jO jC jW kT kE fT fE fH fC fW (by omega) (by omega) h3 q5
  rw [am_xk_1, am_xv_1] at hh
  have hb : am_bin (tk p) := by rw [hk]; unfold am_bin; decide
  rw [am_xk_1, am_xv_1]
  rw [wX_runPath_34]
  refine br_f g1 (br_t rfl (br_t rfl ?_))
  exact br_t d0 (nm_r (nI_pred r.length) ⟨v544, nm_r et (am_xtk hn hp (am_xta hn hp (am_xend hn hp hen (nI_1 p) ⟨v544, nm_r ee (br_t (by rw [hk]; decide) (⟨v544, br_f hh1 (br_f (by rw [hk]; decide) ⟨v544, br_t ec (br_t rfl ⟨v544, am_xcomb hb ew (am_xgi rfl (am_x62r r (by omega) g2 hh))⟩)⟩)⟩))⟩)))⟩)
theorem am_xr_calcF3 (hn : n ≤ 32) (hA : mA ≤ 16) (hen : ∀ i, i < n → en i = nI (am_eN tk n i)) (w : am_WF n mC mA s) (he : am_okE s e) (hp : p < n) (hl : r.length < 544) (hv : am_okV s rk rv) (hk : tk p = 3) (hno : ¬ (k = 1 ∧ rk = 1)) (hq : am_QX post n tk ta en mC mA ph sols fails lK lV lH lL lA pl b L0 s) : am_LXr post n tk ta en mC mA ph sols fails lK lV lH lL lA pl b L0 (a + 1) rk rv ((p, e, 2, k, v) :: r) s := by
  intro m po ev jV jO jC jW kT kE fT fE fH fC fW h1 h2 h3 h4
  obtain ⟨m, rfl⟩ : ∃ m', m = m' + 1 := ⟨m - 1, by omega⟩
  have g1 : ¬ (1000000 : Int32) ≤ nI (1000000 - (m + 1)) := nI_ge (b := 1000000) (by omega) (by decide)
  have g2 : nI (1000000 - (m + 1)) + 1 = nI (1000000 - m) := by rw [nI_1]; exact congrArg nI (by omega)
  have hf0 := h4
  obtain ⟨q1, q2, q3, q4, q5⟩ := h4
  have hc : (nI r.length).toNatClampNeg = r.length := nI_clamp (by omega)
  have v544 : vp_in (nI r.length) 544 := vp_in_nI hl (by decide)
  have et : fT (nI r.length).toNatClampNeg = nI p := by rw [hc]; exact q1
  have ee : fE (nI r.length).toNatClampNeg = am_xe s e := by rw [hc]; exact q3
  have d0 : (0 : Int32) < nI (r.length + 1) := nI_lt (a := 0) (by omega) (by omega)
  obtain ⟨z1, z2, z3, z4⟩ : fH r.length = 1 ∧ am_okV s k v ∧ fC r.length = am_xk k ∧ fW r.length = am_xv s k v := by
    rcases q4 with ⟨z, _⟩ | ⟨_, z⟩
    · exact absurd z (by decide)
    · exact z
  have hh1 : ¬ fH (nI r.length).toNatClampNeg = 0 := by rw [hc, z1]; decide
  have ec : fC (nI r.length).toNatClampNeg = am_xk k := by rw [hc]; exact z3
  have ew : fW (nI r.length).toNatClampNeg = am_xv s k v := by rw [hc]; exact z4
  rcases z2 with y | ⟨y, _⟩
  · rcases hv with y2 | ⟨y2, _⟩
    · exact absurd ⟨y, y2⟩ hno
    · rw [y, am_xk_1] at ec
      rw [y2, am_xk_2]
      rw [wX_runPath_34]
      refine br_f g1 (br_t rfl (br_t rfl ?_))
      exact br_t d0 (nm_r (nI_pred r.length) ⟨v544, nm_r et (am_xtk hn hp (am_xta hn hp (am_xend hn hp hen (nI_1 p) ⟨v544, nm_r ee (br_t (by rw [hk]; decide) (⟨v544, br_f hh1 (br_f (by rw [hk]; decide) ⟨v544, br_t ec (br_f (by decide) (am_x62F (hq _ _ _ _ _ _ _ _ _ _ _ _ _ _ _ _ _ _)))⟩)⟩))⟩)))⟩)
  · have nc : ¬ fC (nI r.length).toNatClampNeg = 0 := by rw [ec, y, am_xk_2]; decide
    rw [wX_runPath_34]
    refine br_f g1 (br_t rfl (br_t rfl ?_))
    exact br_t d0 (nm_r (nI_pred r.length) ⟨v544, nm_r et (am_xtk hn hp (am_xta hn hp (am_xend hn hp hen (nI_1 p) ⟨v544, nm_r ee (br_t (by rw [hk]; decide) (⟨v544, br_f hh1 (br_f (by rw [hk]; decide) ⟨v544, br_f nc (am_x62F (hq _ _ _ _ _ _ _ _ _ _ _ _ _ _ _ _ _ _))⟩)⟩))⟩)))⟩)
theorem am_xr_calc4 (hn : n ≤ 32) (hA : mA ≤ 16) (hen : ∀ i, i < n → en i = nI (am_eN tk n i)) (w : am_WF n mC mA s) (he : am_okE s e) (hp : p < n) (hl : r.length < 544) (hk : tk p = 4) (h : am_LXr post n tk ta en mC mA ph sols fails lK lV lH lL lA pl b L0 a 1 (am_op (tk p) v rv) r s) : am_LXr post n tk ta en mC mA ph sols fails lK lV lH lL lA pl b L0 (a + 1) 1 rv ((p, e, 2, 1, v) :: r) s := by
  intro m po ev jV jO jC jW kT kE fT fE fH fC fW h1 h2 h3 h4
  obtain ⟨m, rfl⟩ : ∃ m', m = m' + 1 := ⟨m - 1, by omega⟩
  have g1 : ¬ (1000000 : Int32) ≤ nI (1000000 - (m + 1)) := nI_ge (b := 1000000) (by omega) (by decide)
  have g2 : nI (1000000 - (m + 1)) + 1 = nI (1000000 - m) := by rw [nI_1]; exact congrArg nI (by omega)
  have hf0 := h4
  obtain ⟨q1, q2, q3, q4, q5⟩ := h4
  have hc : (nI r.length).toNatClampNeg = r.length := nI_clamp (by omega)
  have v544 : vp_in (nI r.length) 544 := vp_in_nI hl (by decide)
  have et : fT (nI r.length).toNatClampNeg = nI p := by rw [hc]; exact q1
  have ee : fE (nI r.length).toNatClampNeg = am_xe s e := by rw [hc]; exact q3
  have d0 : (0 : Int32) < nI (r.length + 1) := nI_lt (a := 0) (by omega) (by omega)
  obtain ⟨z1, z2, z3, z4⟩ : fH r.length = 1 ∧ am_okV s 1 v ∧ fC r.length = am_xk 1 ∧ fW r.length = am_xv s 1 v := by
    rcases q4 with ⟨z, _⟩ | ⟨_, z⟩
    · exact absurd z (by decide)
    · exact z
  have hh1 : ¬ fH (nI r.length).toNatClampNeg = 0 := by rw [hc, z1]; decide
  have ec : fC (nI r.length).toNatClampNeg = am_xk 1 := by rw [hc]; exact z3
  have ew : fW (nI r.length).toNatClampNeg = am_xv s 1 v := by rw [hc]; exact z4
  rw [am_xk_1] at ec
  rw [am_xv_1] at ew
  have hh := h m po (am_xe s e) jV jO jC jW kT kE fT fE fH fC fW (by omega) (by omega) h3 q5
  rw [am_xk_1, am_xv_1] at hh
  have hb : am_bin (tk p) := by rw [hk]; unfold am_bin; decide
  rw [am_xk_1, am_xv_1]
  rw [wX_runPath_34]
  refine br_f g1 (br_t rfl (br_t rfl ?_))
  exact br_t d0 (nm_r (nI_pred r.length) ⟨v544, nm_r et (am_xtk hn hp (am_xta hn hp (am_xend hn hp hen (nI_1 p) ⟨v544, nm_r ee (br_t (by rw [hk]; decide) (⟨v544, br_f hh1 (br_f (by rw [hk]; decide) ⟨v544, br_t ec (br_t rfl ⟨v544, am_xcomb hb ew (am_xgi rfl (am_x62r r (by omega) g2 hh))⟩)⟩)⟩))⟩)))⟩)
theorem am_xr_calcF4 (hn : n ≤ 32) (hA : mA ≤ 16) (hen : ∀ i, i < n → en i = nI (am_eN tk n i)) (w : am_WF n mC mA s) (he : am_okE s e) (hp : p < n) (hl : r.length < 544) (hv : am_okV s rk rv) (hk : tk p = 4) (hno : ¬ (k = 1 ∧ rk = 1)) (hq : am_QX post n tk ta en mC mA ph sols fails lK lV lH lL lA pl b L0 s) : am_LXr post n tk ta en mC mA ph sols fails lK lV lH lL lA pl b L0 (a + 1) rk rv ((p, e, 2, k, v) :: r) s := by
  intro m po ev jV jO jC jW kT kE fT fE fH fC fW h1 h2 h3 h4
  obtain ⟨m, rfl⟩ : ∃ m', m = m' + 1 := ⟨m - 1, by omega⟩
  have g1 : ¬ (1000000 : Int32) ≤ nI (1000000 - (m + 1)) := nI_ge (b := 1000000) (by omega) (by decide)
  have g2 : nI (1000000 - (m + 1)) + 1 = nI (1000000 - m) := by rw [nI_1]; exact congrArg nI (by omega)
  have hf0 := h4
  obtain ⟨q1, q2, q3, q4, q5⟩ := h4
  have hc : (nI r.length).toNatClampNeg = r.length := nI_clamp (by omega)
  have v544 : vp_in (nI r.length) 544 := vp_in_nI hl (by decide)
  have et : fT (nI r.length).toNatClampNeg = nI p := by rw [hc]; exact q1
  have ee : fE (nI r.length).toNatClampNeg = am_xe s e := by rw [hc]; exact q3
  have d0 : (0 : Int32) < nI (r.length + 1) := nI_lt (a := 0) (by omega) (by omega)
  obtain ⟨z1, z2, z3, z4⟩ : fH r.length = 1 ∧ am_okV s k v ∧ fC r.length = am_xk k ∧ fW r.length = am_xv s k v := by
    rcases q4 with ⟨z, _⟩ | ⟨_, z⟩
    · exact absurd z (by decide)
    · exact z
  have hh1 : ¬ fH (nI r.length).toNatClampNeg = 0 := by rw [hc, z1]; decide
  have ec : fC (nI r.length).toNatClampNeg = am_xk k := by rw [hc]; exact z3
  have ew : fW (nI r.length).toNatClampNeg = am_xv s k v := by rw [hc]; exact z4
  rcases z2 with y | ⟨y, _⟩
  · rcases hv with y2 | ⟨y2, _⟩
    · exact absurd ⟨y, y2⟩ hno
    · rw [y, am_xk_1] at ec
      rw [y2, am_xk_2]
      rw [wX_runPath_34]
      refine br_f g1 (br_t rfl (br_t rfl ?_))
      exact br_t d0 (nm_r (nI_pred r.length) ⟨v544, nm_r et (am_xtk hn hp (am_xta hn hp (am_xend hn hp hen (nI_1 p) ⟨v544, nm_r ee (br_t (by rw [hk]; decide) (⟨v544, br_f hh1 (br_f (by rw [hk]; decide) ⟨v544, br_t ec (br_f (by decide) (am_x62F (hq _ _ _ _ _ _ _ _ _ _ _ _ _ _ _ _ _ _)))⟩)⟩))⟩)))⟩)
  · have nc : ¬ fC (nI r.length).toNatClampNeg = 0 := by rw [ec, y, am_xk_2]; decide
    rw [wX_runPath_34]
    refine br_f g1 (br_t rfl (br_t rfl ?_))
    exact br_t d0 (nm_r (nI_pred r.length) ⟨v544, nm_r et (am_xtk hn hp (am_xta hn hp (am_xend hn hp hen (nI_1 p) ⟨v544, nm_r ee (br_t (by rw [hk]; decide) (⟨v544, br_f hh1 (br_f (by rw [hk]; decide) ⟨v544, br_f nc (am_x62F (hq _ _ _ _ _ _ _ _ _ _ _ _ _ _ _ _ _ _))⟩)⟩))⟩)))⟩)
theorem am_xr_calc5 (hn : n ≤ 32) (hA : mA ≤ 16) (hen : ∀ i, i < n → en i = nI (am_eN tk n i)) (w : am_WF n mC mA s) (he : am_okE s e) (hp : p < n) (hl : r.length < 544) (hk : tk p = 5) (h : am_LXr post n tk ta en mC mA ph sols fails lK lV lH lL lA pl b L0 a 1 (am_op (tk p) v rv) r s) : am_LXr post n tk ta en mC mA ph sols fails lK lV lH lL lA pl b L0 (a + 1) 1 rv ((p, e, 2, 1, v) :: r) s := by
  intro m po ev jV jO jC jW kT kE fT fE fH fC fW h1 h2 h3 h4
  obtain ⟨m, rfl⟩ : ∃ m', m = m' + 1 := ⟨m - 1, by omega⟩
  have g1 : ¬ (1000000 : Int32) ≤ nI (1000000 - (m + 1)) := nI_ge (b := 1000000) (by omega) (by decide)
  have g2 : nI (1000000 - (m + 1)) + 1 = nI (1000000 - m) := by rw [nI_1]; exact congrArg nI (by omega)
  have hf0 := h4
  obtain ⟨q1, q2, q3, q4, q5⟩ := h4
  have hc : (nI r.length).toNatClampNeg = r.length := nI_clamp (by omega)
  have v544 : vp_in (nI r.length) 544 := vp_in_nI hl (by decide)
  have et : fT (nI r.length).toNatClampNeg = nI p := by rw [hc]; exact q1
  have ee : fE (nI r.length).toNatClampNeg = am_xe s e := by rw [hc]; exact q3
  have d0 : (0 : Int32) < nI (r.length + 1) := nI_lt (a := 0) (by omega) (by omega)
  obtain ⟨z1, z2, z3, z4⟩ : fH r.length = 1 ∧ am_okV s 1 v ∧ fC r.length = am_xk 1 ∧ fW r.length = am_xv s 1 v := by
    rcases q4 with ⟨z, _⟩ | ⟨_, z⟩
    · exact absurd z (by decide)
    · exact z
  have hh1 : ¬ fH (nI r.length).toNatClampNeg = 0 := by rw [hc, z1]; decide
  have ec : fC (nI r.length).toNatClampNeg = am_xk 1 := by rw [hc]; exact z3
  have ew : fW (nI r.length).toNatClampNeg = am_xv s 1 v := by rw [hc]; exact z4
  rw [am_xk_1] at ec
  rw [am_xv_1] at ew
  have hh := h m po (am_xe s e) jV jO jC jW kT kE fT fE fH fC fW (by omega) (by omega) h3 q5
  rw [am_xk_1, am_xv_1] at hh
  have hb : am_bin (tk p) := by rw [hk]; unfold am_bin; decide
  rw [am_xk_1, am_xv_1]
  rw [wX_runPath_34]
  refine br_f g1 (br_t rfl (br_t rfl ?_))
  exact br_t d0 (nm_r (nI_pred r.length) ⟨v544, nm_r et (am_xtk hn hp (am_xta hn hp (am_xend hn hp hen (nI_1 p) ⟨v544, nm_r ee (br_t (by rw [hk]; decide) (⟨v544, br_f hh1 (br_f (by rw [hk]; decide) ⟨v544, br_t ec (br_t rfl ⟨v544, am_xcomb hb ew (am_xgi rfl (am_x62r r (by omega) g2 hh))⟩)⟩)⟩))⟩)))⟩)
theorem am_xr_calcF5 (hn : n ≤ 32) (hA : mA ≤ 16) (hen : ∀ i, i < n → en i = nI (am_eN tk n i)) (w : am_WF n mC mA s) (he : am_okE s e) (hp : p < n) (hl : r.length < 544) (hv : am_okV s rk rv) (hk : tk p = 5) (hno : ¬ (k = 1 ∧ rk = 1)) (hq : am_QX post n tk ta en mC mA ph sols fails lK lV lH lL lA pl b L0 s) : am_LXr post n tk ta en mC mA ph sols fails lK lV lH lL lA pl b L0 (a + 1) rk rv ((p, e, 2, k, v) :: r) s := by
  intro m po ev jV jO jC jW kT kE fT fE fH fC fW h1 h2 h3 h4
  obtain ⟨m, rfl⟩ : ∃ m', m = m' + 1 := ⟨m - 1, by omega⟩
  have g1 : ¬ (1000000 : Int32) ≤ nI (1000000 - (m + 1)) := nI_ge (b := 1000000) (by omega) (by decide)
  have g2 : nI (1000000 - (m + 1)) + 1 = nI (1000000 - m) := by rw [nI_1]; exact congrArg nI (by omega)
  have hf0 := h4
  obtain ⟨q1, q2, q3, q4, q5⟩ := h4
  have hc : (nI r.length).toNatClampNeg = r.length := nI_clamp (by omega)
  have v544 : vp_in (nI r.length) 544 := vp_in_nI hl (by decide)
  have et : fT (nI r.length).toNatClampNeg = nI p := by rw [hc]; exact q1
  have ee : fE (nI r.length).toNatClampNeg = am_xe s e := by rw [hc]; exact q3
  have d0 : (0 : Int32) < nI (r.length + 1) := nI_lt (a := 0) (by omega) (by omega)
  obtain ⟨z1, z2, z3, z4⟩ : fH r.length = 1 ∧ am_okV s k v ∧ fC r.length = am_xk k ∧ fW r.length = am_xv s k v := by
    rcases q4 with ⟨z, _⟩ | ⟨_, z⟩
    · exact absurd z (by decide)
    · exact z
  have hh1 : ¬ fH (nI r.length).toNatClampNeg = 0 := by rw [hc, z1]; decide
  have ec : fC (nI r.length).toNatClampNeg = am_xk k := by rw [hc]; exact z3
  have ew : fW (nI r.length).toNatClampNeg = am_xv s k v := by rw [hc]; exact z4
  rcases z2 with y | ⟨y, _⟩
  · rcases hv with y2 | ⟨y2, _⟩
    · exact absurd ⟨y, y2⟩ hno
    · rw [y, am_xk_1] at ec
      rw [y2, am_xk_2]
      rw [wX_runPath_34]
      refine br_f g1 (br_t rfl (br_t rfl ?_))
      exact br_t d0 (nm_r (nI_pred r.length) ⟨v544, nm_r et (am_xtk hn hp (am_xta hn hp (am_xend hn hp hen (nI_1 p) ⟨v544, nm_r ee (br_t (by rw [hk]; decide) (⟨v544, br_f hh1 (br_f (by rw [hk]; decide) ⟨v544, br_t ec (br_f (by decide) (am_x62F (hq _ _ _ _ _ _ _ _ _ _ _ _ _ _ _ _ _ _)))⟩)⟩))⟩)))⟩)
  · have nc : ¬ fC (nI r.length).toNatClampNeg = 0 := by rw [ec, y, am_xk_2]; decide
    rw [wX_runPath_34]
    refine br_f g1 (br_t rfl (br_t rfl ?_))
    exact br_t d0 (nm_r (nI_pred r.length) ⟨v544, nm_r et (am_xtk hn hp (am_xta hn hp (am_xend hn hp hen (nI_1 p) ⟨v544, nm_r ee (br_t (by rw [hk]; decide) (⟨v544, br_f hh1 (br_f (by rw [hk]; decide) ⟨v544, br_f nc (am_x62F (hq _ _ _ _ _ _ _ _ _ _ _ _ _ _ _ _ _ _))⟩)⟩))⟩)))⟩)
theorem am_xr_calc6 (hn : n ≤ 32) (hA : mA ≤ 16) (hen : ∀ i, i < n → en i = nI (am_eN tk n i)) (w : am_WF n mC mA s) (he : am_okE s e) (hp : p < n) (hl : r.length < 544) (hk : tk p = 6) (h : am_LXr post n tk ta en mC mA ph sols fails lK lV lH lL lA pl b L0 a 1 (am_op (tk p) v rv) r s) : am_LXr post n tk ta en mC mA ph sols fails lK lV lH lL lA pl b L0 (a + 1) 1 rv ((p, e, 2, 1, v) :: r) s := by
  intro m po ev jV jO jC jW kT kE fT fE fH fC fW h1 h2 h3 h4
  obtain ⟨m, rfl⟩ : ∃ m', m = m' + 1 := ⟨m - 1, by omega⟩
  have g1 : ¬ (1000000 : Int32) ≤ nI (1000000 - (m + 1)) := nI_ge (b := 1000000) (by omega) (by decide)
  have g2 : nI (1000000 - (m + 1)) + 1 = nI (1000000 - m) := by rw [nI_1]; exact congrArg nI (by omega)
  have hf0 := h4
  obtain ⟨q1, q2, q3, q4, q5⟩ := h4
  have hc : (nI r.length).toNatClampNeg = r.length := nI_clamp (by omega)
  have v544 : vp_in (nI r.length) 544 := vp_in_nI hl (by decide)
  have et : fT (nI r.length).toNatClampNeg = nI p := by rw [hc]; exact q1
  have ee : fE (nI r.length).toNatClampNeg = am_xe s e := by rw [hc]; exact q3
  have d0 : (0 : Int32) < nI (r.length + 1) := nI_lt (a := 0) (by omega) (by omega)
  obtain ⟨z1, z2, z3, z4⟩ : fH r.length = 1 ∧ am_okV s 1 v ∧ fC r.length = am_xk 1 ∧ fW r.length = am_xv s 1 v := by
    rcases q4 with ⟨z, _⟩ | ⟨_, z⟩
    · exact absurd z (by decide)
    · exact z
  have hh1 : ¬ fH (nI r.length).toNatClampNeg = 0 := by rw [hc, z1]; decide
  have ec : fC (nI r.length).toNatClampNeg = am_xk 1 := by rw [hc]; exact z3
  have ew : fW (nI r.length).toNatClampNeg = am_xv s 1 v := by rw [hc]; exact z4
  rw [am_xk_1] at ec
  rw [am_xv_1] at ew
  have hh := h m po (am_xe s e) jV jO jC jW kT kE fT fE fH fC fW (by omega) (by omega) h3 q5
  rw [am_xk_1, am_xv_1] at hh
  have hb : am_bin (tk p) := by rw [hk]; unfold am_bin; decide
  rw [am_xk_1, am_xv_1]
  rw [wX_runPath_34]
  refine br_f g1 (br_t rfl (br_t rfl ?_))
  exact br_t d0 (nm_r (nI_pred r.length) ⟨v544, nm_r et (am_xtk hn hp (am_xta hn hp (am_xend hn hp hen (nI_1 p) ⟨v544, nm_r ee (br_t (by rw [hk]; decide) (⟨v544, br_f hh1 (br_f (by rw [hk]; decide) ⟨v544, br_t ec (br_t rfl ⟨v544, am_xcomb hb ew (am_xgi rfl (am_x62r r (by omega) g2 hh))⟩)⟩)⟩))⟩)))⟩)
theorem am_xr_calcF6 (hn : n ≤ 32) (hA : mA ≤ 16) (hen : ∀ i, i < n → en i = nI (am_eN tk n i)) (w : am_WF n mC mA s) (he : am_okE s e) (hp : p < n) (hl : r.length < 544) (hv : am_okV s rk rv) (hk : tk p = 6) (hno : ¬ (k = 1 ∧ rk = 1)) (hq : am_QX post n tk ta en mC mA ph sols fails lK lV lH lL lA pl b L0 s) : am_LXr post n tk ta en mC mA ph sols fails lK lV lH lL lA pl b L0 (a + 1) rk rv ((p, e, 2, k, v) :: r) s := by
  intro m po ev jV jO jC jW kT kE fT fE fH fC fW h1 h2 h3 h4
  obtain ⟨m, rfl⟩ : ∃ m', m = m' + 1 := ⟨m - 1, by omega⟩
  have g1 : ¬ (1000000 : Int32) ≤ nI (1000000 - (m + 1)) := nI_ge (b := 1000000) (by omega) (by decide)
  have g2 : nI (1000000 - (m + 1)) + 1 = nI (1000000 - m) := by rw [nI_1]; exact congrArg nI (by omega)
  have hf0 := h4
  obtain ⟨q1, q2, q3, q4, q5⟩ := h4
  have hc : (nI r.length).toNatClampNeg = r.length := nI_clamp (by omega)
  have v544 : vp_in (nI r.length) 544 := vp_in_nI hl (by decide)
  have et : fT (nI r.length).toNatClampNeg = nI p := by rw [hc]; exact q1
  have ee : fE (nI r.length).toNatClampNeg = am_xe s e := by rw [hc]; exact q3
  have d0 : (0 : Int32) < nI (r.length + 1) := nI_lt (a := 0) (by omega) (by omega)
  obtain ⟨z1, z2, z3, z4⟩ : fH r.length = 1 ∧ am_okV s k v ∧ fC r.length = am_xk k ∧ fW r.length = am_xv s k v := by
    rcases q4 with ⟨z, _⟩ | ⟨_, z⟩
    · exact absurd z (by decide)
    · exact z
  have hh1 : ¬ fH (nI r.length).toNatClampNeg = 0 := by rw [hc, z1]; decide
  have ec : fC (nI r.length).toNatClampNeg = am_xk k := by rw [hc]; exact z3
  have ew : fW (nI r.length).toNatClampNeg = am_xv s k v := by rw [hc]; exact z4
  rcases z2 with y | ⟨y, _⟩
  · rcases hv with y2 | ⟨y2, _⟩
    · exact absurd ⟨y, y2⟩ hno
    · rw [y, am_xk_1] at ec
      rw [y2, am_xk_2]
      rw [wX_runPath_34]
      refine br_f g1 (br_t rfl (br_t rfl ?_))
      exact br_t d0 (nm_r (nI_pred r.length) ⟨v544, nm_r et (am_xtk hn hp (am_xta hn hp (am_xend hn hp hen (nI_1 p) ⟨v544, nm_r ee (br_t (by rw [hk]; decide) (⟨v544, br_f hh1 (br_f (by rw [hk]; decide) ⟨v544, br_t ec (br_f (by decide) (am_x62F (hq _ _ _ _ _ _ _ _ _ _ _ _ _ _ _ _ _ _)))⟩)⟩))⟩)))⟩)
  · have nc : ¬ fC (nI r.length).toNatClampNeg = 0 := by rw [ec, y, am_xk_2]; decide
    rw [wX_runPath_34]
    refine br_f g1 (br_t rfl (br_t rfl ?_))
    exact br_t d0 (nm_r (nI_pred r.length) ⟨v544, nm_r et (am_xtk hn hp (am_xta hn hp (am_xend hn hp hen (nI_1 p) ⟨v544, nm_r ee (br_t (by rw [hk]; decide) (⟨v544, br_f hh1 (br_f (by rw [hk]; decide) ⟨v544, br_f nc (am_x62F (hq _ _ _ _ _ _ _ _ _ _ _ _ _ _ _ _ _ _))⟩)⟩))⟩)))⟩)
theorem am_xr_if (hn : n ≤ 32) (hA : mA ≤ 16) (hen : ∀ i, i < n → en i = nI (am_eN tk n i)) (w : am_WF n mC mA s) (he : am_okE s e) (hp : p < n) (hl : r.length < 544) (hk : tk p = 7) (h : am_LXv post n tk ta en mC mA ph sols fails lK lV lH lL lA pl b L0 a (am_q7 n tk p rv) e r s) : am_LXr post n tk ta en mC mA ph sols fails lK lV lH lL lA pl b L0 (a + 1) 1 rv ((p, e, 1, 0, 0) :: r) s := by
  intro m po ev jV jO jC jW kT kE fT fE fH fC fW h1 h2 h3 h4
  obtain ⟨m, rfl⟩ : ∃ m', m = m' + 1 := ⟨m - 1, by omega⟩
  have g1 : ¬ (1000000 : Int32) ≤ nI (1000000 - (m + 1)) := nI_ge (b := 1000000) (by omega) (by decide)
  have g2 : nI (1000000 - (m + 1)) + 1 = nI (1000000 - m) := by rw [nI_1]; exact congrArg nI (by omega)
  have hf0 := h4
  obtain ⟨q1, q2, q3, q4, q5⟩ := h4
  have hc : (nI r.length).toNatClampNeg = r.length := nI_clamp (by omega)
  have v544 : vp_in (nI r.length) 544 := vp_in_nI hl (by decide)
  have et : fT (nI r.length).toNatClampNeg = nI p := by rw [hc]; exact q1
  have ee : fE (nI r.length).toNatClampNeg = am_xe s e := by rw [hc]; exact q3
  have d0 : (0 : Int32) < nI (r.length + 1) := nI_lt (a := 0) (by omega) (by omega)
  rw [am_xk_1, am_xv_1]
  have hh := h m 0 rv jV jO jC jW kT kE fT fE fH fC fW (by omega) (by omega) h3 q5
  unfold am_q7 at hh
  rw [wX_runPath_34]
  refine br_f g1 (br_t rfl (br_t rfl ?_))
  exact br_t d0 (nm_r (nI_pred r.length) ⟨v544, nm_r et (am_xtk hn hp (am_xta hn hp (am_xend hn hp hen (nI_1 p) ⟨v544, nm_r ee (br_f (by rw [hk]; decide) (br_f (by rw [hk]; decide) (br_t hk (br_t rfl (am_xend hn (am_eN_le hp) hen rfl (br_c (fun q => by rw [if_pos q] at hh; exact am_xvn rfl (am_x62v g2 hh)) (fun q => by rw [if_neg q] at hh; exact am_xvn rfl (am_x62v g2 hh))))))))⟩)))⟩)
theorem am_xr_ifF (hn : n ≤ 32) (hA : mA ≤ 16) (hen : ∀ i, i < n → en i = nI (am_eN tk n i)) (w : am_WF n mC mA s) (he : am_okE s e) (hp : p < n) (hl : r.length < 544) (hv : am_okV s rk rv) (hk : tk p = 7) (hno : ¬ rk = 1) (hq : am_QX post n tk ta en mC mA ph sols fails lK lV lH lL lA pl b L0 s) : am_LXr post n tk ta en mC mA ph sols fails lK lV lH lL lA pl b L0 (a + 1) rk rv ((p, e, 1, 0, 0) :: r) s := by
  intro m po ev jV jO jC jW kT kE fT fE fH fC fW h1 h2 h3 h4
  obtain ⟨m, rfl⟩ : ∃ m', m = m' + 1 := ⟨m - 1, by omega⟩
  have g1 : ¬ (1000000 : Int32) ≤ nI (1000000 - (m + 1)) := nI_ge (b := 1000000) (by omega) (by decide)
  have g2 : nI (1000000 - (m + 1)) + 1 = nI (1000000 - m) := by rw [nI_1]; exact congrArg nI (by omega)
  have hf0 := h4
  obtain ⟨q1, q2, q3, q4, q5⟩ := h4
  have hc : (nI r.length).toNatClampNeg = r.length := nI_clamp (by omega)
  have v544 : vp_in (nI r.length) 544 := vp_in_nI hl (by decide)
  have et : fT (nI r.length).toNatClampNeg = nI p := by rw [hc]; exact q1
  have ee : fE (nI r.length).toNatClampNeg = am_xe s e := by rw [hc]; exact q3
  have d0 : (0 : Int32) < nI (r.length + 1) := nI_lt (a := 0) (by omega) (by omega)
  have y : rk = 2 := by
    rcases hv with y | ⟨y, _⟩
    · exact absurd y hno
    · exact y
  have nk : ¬ am_xk rk = 0 := by rw [y, am_xk_2]; decide
  rw [wX_runPath_34]
  refine br_f g1 (br_t rfl (br_t rfl ?_))
  exact br_t d0 (nm_r (nI_pred r.length) ⟨v544, nm_r et (am_xtk hn hp (am_xta hn hp (am_xend hn hp hen (nI_1 p) ⟨v544, nm_r ee (br_f (by rw [hk]; decide) (br_f (by rw [hk]; decide) (br_t hk (br_f nk (am_x62F (hq _ _ _ _ _ _ _ _ _ _ _ _ _ _ _ _ _ _))))))⟩)))⟩)
theorem am_xr_req (hn : n ≤ 32) (hA : mA ≤ 16) (hen : ∀ i, i < n → en i = nI (am_eN tk n i)) (w : am_WF n mC mA s) (he : am_okE s e) (hp : p < n) (hl : r.length < 544) (hk : tk p = 10) (hv : ¬ rv = 0) (h : am_LXv post n tk ta en mC mA ph sols fails lK lV lH lL lA pl b L0 a (am_eN tk n (p + 1)) e r s) : am_LXr post n tk ta en mC mA ph sols fails lK lV lH lL lA pl b L0 (a + 1) 1 rv ((p, e, 1, 0, 0) :: r) s := by
  intro m po ev jV jO jC jW kT kE fT fE fH fC fW h1 h2 h3 h4
  obtain ⟨m, rfl⟩ : ∃ m', m = m' + 1 := ⟨m - 1, by omega⟩
  have g1 : ¬ (1000000 : Int32) ≤ nI (1000000 - (m + 1)) := nI_ge (b := 1000000) (by omega) (by decide)
  have g2 : nI (1000000 - (m + 1)) + 1 = nI (1000000 - m) := by rw [nI_1]; exact congrArg nI (by omega)
  have hf0 := h4
  obtain ⟨q1, q2, q3, q4, q5⟩ := h4
  have hc : (nI r.length).toNatClampNeg = r.length := nI_clamp (by omega)
  have v544 : vp_in (nI r.length) 544 := vp_in_nI hl (by decide)
  have et : fT (nI r.length).toNatClampNeg = nI p := by rw [hc]; exact q1
  have ee : fE (nI r.length).toNatClampNeg = am_xe s e := by rw [hc]; exact q3
  have d0 : (0 : Int32) < nI (r.length + 1) := nI_lt (a := 0) (by omega) (by omega)
  rw [am_xk_1, am_xv_1]
  rw [wX_runPath_34]
  refine br_f g1 (br_t rfl (br_t rfl ?_))
  exact br_t d0 (nm_r (nI_pred r.length) ⟨v544, nm_r et (am_xtk hn hp (am_xta hn hp (am_xend hn hp hen (nI_1 p) ⟨v544, nm_r ee (br_f (by rw [hk]; decide) (br_f (by rw [hk]; decide) (br_f (by rw [hk]; decide) (br_f (by rw [hk]; decide) (br_f (by rw [hk]; decide) (br_t hk (br_t rfl (br_f hv (am_xvn rfl (am_x62v g2 (h m 0 rv jV jO jC jW kT kE fT fE fH fC fW (by omega) (by omega) h3 q5)))))))))))⟩)))⟩)
theorem am_xr_reqF (hn : n ≤ 32) (hA : mA ≤ 16) (hen : ∀ i, i < n → en i = nI (am_eN tk n i)) (w : am_WF n mC mA s) (he : am_okE s e) (hp : p < n) (hl : r.length < 544) (hv : am_okV s rk rv) (hk : tk p = 10) (hno : ¬ (rk = 1 ∧ ¬ rv = 0)) (hq : am_QX post n tk ta en mC mA ph sols fails lK lV lH lL lA pl b L0 s) : am_LXr post n tk ta en mC mA ph sols fails lK lV lH lL lA pl b L0 (a + 1) rk rv ((p, e, 1, 0, 0) :: r) s := by
  intro m po ev jV jO jC jW kT kE fT fE fH fC fW h1 h2 h3 h4
  obtain ⟨m, rfl⟩ : ∃ m', m = m' + 1 := ⟨m - 1, by omega⟩
  have g1 : ¬ (1000000 : Int32) ≤ nI (1000000 - (m + 1)) := nI_ge (b := 1000000) (by omega) (by decide)
  have g2 : nI (1000000 - (m + 1)) + 1 = nI (1000000 - m) := by rw [nI_1]; exact congrArg nI (by omega)
  have hf0 := h4
  obtain ⟨q1, q2, q3, q4, q5⟩ := h4
  have hc : (nI r.length).toNatClampNeg = r.length := nI_clamp (by omega)
  have v544 : vp_in (nI r.length) 544 := vp_in_nI hl (by decide)
  have et : fT (nI r.length).toNatClampNeg = nI p := by rw [hc]; exact q1
  have ee : fE (nI r.length).toNatClampNeg = am_xe s e := by rw [hc]; exact q3
  have d0 : (0 : Int32) < nI (r.length + 1) := nI_lt (a := 0) (by omega) (by omega)
  have nk : am_xk rk = 0 → am_xv s rk rv = 0 := by
    intro z
    rcases hv with y | ⟨y, _⟩
    · rw [y, am_xv_1]
      exact Classical.byContradiction (fun u => hno ⟨y, u⟩)
    · rw [y, am_xk_2] at z
      exact absurd z (by decide)
  rw [wX_runPath_34]
  refine br_f g1 (br_t rfl (br_t rfl ?_))
  exact br_t d0 (nm_r (nI_pred r.length) ⟨v544, nm_r et (am_xtk hn hp (am_xta hn hp (am_xend hn hp hen (nI_1 p) ⟨v544, nm_r ee (br_f (by rw [hk]; decide) (br_f (by rw [hk]; decide) (br_f (by rw [hk]; decide) (br_f (by rw [hk]; decide) (br_f (by rw [hk]; decide) (br_t hk (br_c (fun z => br_t (nk z) (am_x62F (hq _ _ _ _ _ _ _ _ _ _ _ _ _ _ _ _ _ _))) (fun _ => am_x62F (hq _ _ _ _ _ _ _ _ _ _ _ _ _ _ _ _ _ _)))))))))⟩)))⟩)
theorem am_xr_let (hn : n ≤ 32) (hA : mA ≤ 16) (hen : ∀ i, i < n → en i = nI (am_eN tk n i)) (w : am_WF n mC mA s) (he : am_okE s e) (hp : p < n) (hl : r.length < 544) (hv : am_okV s rk rv) (hk : tk p = 11) (ha : am_al s < mA) (h : am_LXv post n tk ta en mC mA ph sols fails lK lV lH lL lA pl b L0 a (am_eN tk n (p + 1)) (nI (am_nf s)) r (am_nl (ta p) e rk rv s)) : am_LXr post n tk ta en mC mA ph sols fails lK lV lH lL lA pl b L0 (a + 1) rk rv ((p, e, 1, 0, 0) :: r) s := by
  intro m po ev jV jO jC jW kT kE fT fE fH fC fW h1 h2 h3 h4
  obtain ⟨m, rfl⟩ : ∃ m', m = m' + 1 := ⟨m - 1, by omega⟩
  have g1 : ¬ (1000000 : Int32) ≤ nI (1000000 - (m + 1)) := nI_ge (b := 1000000) (by omega) (by decide)
  have g2 : nI (1000000 - (m + 1)) + 1 = nI (1000000 - m) := by rw [nI_1]; exact congrArg nI (by omega)
  have hf0 := h4
  obtain ⟨q1, q2, q3, q4, q5⟩ := h4
  have hc : (nI r.length).toNatClampNeg = r.length := nI_clamp (by omega)
  have v544 : vp_in (nI r.length) 544 := vp_in_nI hl (by decide)
  have et : fT (nI r.length).toNatClampNeg = nI p := by rw [hc]; exact q1
  have ee : fE (nI r.length).toNatClampNeg = am_xe s e := by rw [hc]; exact q3
  have d0 : (0 : Int32) < nI (r.length + 1) := nI_lt (a := 0) (by omega) (by omega)
  have an := am_al_nl (ta p) e rk rv s
  have b12 := am_nf16 w hA
  have hh := h m (am_xk rk) (am_xv s rk rv) (upd jV (am_al s) (ta p)) (upd jO (am_al s) (am_xe s e)) (upd jC (am_al s) (am_xk rk)) (upd jW (am_al s) (am_xv s rk rv)) kT kE fT fE fH fC fW (by omega) (by omega) (am_sx_nl w hA he hv h3) (am_fx_x (am_ext_nl (ta p) e rk rv s) b12.1 b12.2.1 r q5)
  rw [am_al_nl, am_xe_nl _ _ _ _ b12.1] at hh
  rw [wX_runPath_34]
  refine br_f g1 (br_t rfl (br_t rfl ?_))
  exact br_t d0 (nm_r (nI_pred r.length) ⟨v544, nm_r et (am_xtk hn hp (am_xta hn hp (am_xend hn hp hen (nI_1 p) ⟨v544, nm_r ee (br_f (by rw [hk]; decide) (br_f (by rw [hk]; decide) (br_f (by rw [hk]; decide) (br_f (by rw [hk]; decide) (br_f (by rw [hk]; decide) (br_f (by rw [hk]; decide) (br_t hk (am_xbindT ha hA (am_nark rk) rfl rfl (am_xvn rfl (am_x62v g2 hh))))))))))⟩)))⟩)
theorem am_xr_letF (hn : n ≤ 32) (hA : mA ≤ 16) (hen : ∀ i, i < n → en i = nI (am_eN tk n i)) (w : am_WF n mC mA s) (he : am_okE s e) (hp : p < n) (hl : r.length < 544) (hk : tk p = 11) (ha : mA ≤ am_al s) (hq : am_QX post n tk ta en mC mA ph sols fails lK lV lH lL lA pl b L0 s) : am_LXr post n tk ta en mC mA ph sols fails lK lV lH lL lA pl b L0 (a + 1) rk rv ((p, e, 1, 0, 0) :: r) s := by
  intro m po ev jV jO jC jW kT kE fT fE fH fC fW h1 h2 h3 h4
  obtain ⟨m, rfl⟩ : ∃ m', m = m' + 1 := ⟨m - 1, by omega⟩
  have g1 : ¬ (1000000 : Int32) ≤ nI (1000000 - (m + 1)) := nI_ge (b := 1000000) (by omega) (by decide)
  have g2 : nI (1000000 - (m + 1)) + 1 = nI (1000000 - m) := by rw [nI_1]; exact congrArg nI (by omega)
  have hf0 := h4
  obtain ⟨q1, q2, q3, q4, q5⟩ := h4
  have hc : (nI r.length).toNatClampNeg = r.length := nI_clamp (by omega)
  have v544 : vp_in (nI r.length) 544 := vp_in_nI hl (by decide)
  have et : fT (nI r.length).toNatClampNeg = nI p := by rw [hc]; exact q1
  have ee : fE (nI r.length).toNatClampNeg = am_xe s e := by rw [hc]; exact q3
  have d0 : (0 : Int32) < nI (r.length + 1) := nI_lt (a := 0) (by omega) (by omega)
  rw [wX_runPath_34]
  refine br_f g1 (br_t rfl (br_t rfl ?_))
  exact br_t d0 (nm_r (nI_pred r.length) ⟨v544, nm_r et (am_xtk hn hp (am_xta hn hp (am_xend hn hp hen (nI_1 p) ⟨v544, nm_r ee (br_f (by rw [hk]; decide) (br_f (by rw [hk]; decide) (br_f (by rw [hk]; decide) (br_f (by rw [hk]; decide) (br_f (by rw [hk]; decide) (br_f (by rw [hk]; decide) (br_t hk (am_xbindF ha (am_nf16 w hA).2.2 (am_xvn rfl (am_x62F (hq _ _ _ _ _ _ _ _ _ _ _ _ _ _ _ _ _ _)))))))))))⟩)))⟩)
theorem am_xr_set (hn : n ≤ 32) (hA : mA ≤ 16) (hen : ∀ i, i < n → en i = nI (am_eN tk n i)) (w : am_WF n mC mA s) (he : am_okE s e) (hp : p < n) (hl : r.length < 544) (hk : tk p = 14) {f : Nat} (hf : f < am_nf s) (hlk : am_lk s (ta p) 17 e = nI f) (h : am_LXr post n tk ta en mC mA ph sols fails lK lV lH lL lA pl b L0 a rk rv r (am_sl f rk rv s)) : am_LXr post n tk ta en mC mA ph sols fails lK lV lH lL lA pl b L0 (a + 1) rk rv ((p, e, 1, 0, 0) :: r) s := by
  intro m po ev jV jO jC jW kT kE fT fE fH fC fW h1 h2 h3 h4
  obtain ⟨m, rfl⟩ : ∃ m', m = m' + 1 := ⟨m - 1, by omega⟩
  have g1 : ¬ (1000000 : Int32) ≤ nI (1000000 - (m + 1)) := nI_ge (b := 1000000) (by omega) (by decide)
  have g2 : nI (1000000 - (m + 1)) + 1 = nI (1000000 - m) := by rw [nI_1]; exact congrArg nI (by omega)
  have hf0 := h4
  obtain ⟨q1, q2, q3, q4, q5⟩ := h4
  have hc : (nI r.length).toNatClampNeg = r.length := nI_clamp (by omega)
  have v544 : vp_in (nI r.length) 544 := vp_in_nI hl (by decide)
  have et : fT (nI r.length).toNatClampNeg = nI p := by rw [hc]; exact q1
  have ee : fE (nI r.length).toNatClampNeg = am_xe s e := by rw [hc]; exact q3
  have d0 : (0 : Int32) < nI (r.length + 1) := nI_lt (a := 0) (by omega) (by omega)
  have asl : am_al (am_sl f rk rv s) = am_al s := rfl
  have b12 := am_nf16 w hA
  have hh := h m po (am_xe s e) jV jO (upd jC (am_xl s f) (am_xk rk)) (upd jW (am_xl s f) (am_xv s rk rv)) kT kE fT fE fH fC fW (by omega) (by omega) (am_sx_sl w hf h3) (am_fx_x (am_ext_sl f rk rv s) b12.1 b12.2.1 r q5)
  rw [wX_runPath_34]
  refine br_f g1 (br_t rfl (br_t rfl ?_))
  exact br_t d0 (nm_r (nI_pred r.length) ⟨v544, nm_r et (am_xtk hn hp (am_xta hn hp (am_xend hn hp hen (nI_1 p) ⟨v544, nm_r ee (br_f (by rw [hk]; decide) (br_f (by rw [hk]; decide) (br_f (by rw [hk]; decide) (br_f (by rw [hk]; decide) (br_f (by rw [hk]; decide) (br_f (by rw [hk]; decide) (br_f (by rw [hk]; decide) (br_f (by rw [hk]; decide) (br_f (by rw [hk]; decide) (br_t hk (am_xasT w hA h3 he hf hlk (am_nark rk) (am_x62r r (by omega) g2 hh))))))))))))⟩)))⟩)
theorem am_xr_setF (hn : n ≤ 32) (hA : mA ≤ 16) (hen : ∀ i, i < n → en i = nI (am_eN tk n i)) (w : am_WF n mC mA s) (he : am_okE s e) (hp : p < n) (hl : r.length < 544) (hk : tk p = 14) (hlk : am_lk s (ta p) 17 e = -1) (hq : am_QX post n tk ta en mC mA ph sols fails lK lV lH lL lA pl b L0 s) : am_LXr post n tk ta en mC mA ph sols fails lK lV lH lL lA pl b L0 (a + 1) rk rv ((p, e, 1, 0, 0) :: r) s := by
  intro m po ev jV jO jC jW kT kE fT fE fH fC fW h1 h2 h3 h4
  obtain ⟨m, rfl⟩ : ∃ m', m = m' + 1 := ⟨m - 1, by omega⟩
  have g1 : ¬ (1000000 : Int32) ≤ nI (1000000 - (m + 1)) := nI_ge (b := 1000000) (by omega) (by decide)
  have g2 : nI (1000000 - (m + 1)) + 1 = nI (1000000 - m) := by rw [nI_1]; exact congrArg nI (by omega)
  have hf0 := h4
  obtain ⟨q1, q2, q3, q4, q5⟩ := h4
  have hc : (nI r.length).toNatClampNeg = r.length := nI_clamp (by omega)
  have v544 : vp_in (nI r.length) 544 := vp_in_nI hl (by decide)
  have et : fT (nI r.length).toNatClampNeg = nI p := by rw [hc]; exact q1
  have ee : fE (nI r.length).toNatClampNeg = am_xe s e := by rw [hc]; exact q3
  have d0 : (0 : Int32) < nI (r.length + 1) := nI_lt (a := 0) (by omega) (by omega)
  rw [wX_runPath_34]
  refine br_f g1 (br_t rfl (br_t rfl ?_))
  exact br_t d0 (nm_r (nI_pred r.length) ⟨v544, nm_r et (am_xtk hn hp (am_xta hn hp (am_xend hn hp hen (nI_1 p) ⟨v544, nm_r ee (br_f (by rw [hk]; decide) (br_f (by rw [hk]; decide) (br_f (by rw [hk]; decide) (br_f (by rw [hk]; decide) (br_f (by rw [hk]; decide) (br_f (by rw [hk]; decide) (br_f (by rw [hk]; decide) (br_f (by rw [hk]; decide) (br_f (by rw [hk]; decide) (br_t hk (am_xasF w hA h3 he hlk (am_x62F (hq _ _ _ _ _ _ _ _ _ _ _ _ _ _ _ _ _ _)))))))))))))⟩)))⟩)
theorem am_xr_seq (hn : n ≤ 32) (hA : mA ≤ 16) (hen : ∀ i, i < n → en i = nI (am_eN tk n i)) (w : am_WF n mC mA s) (he : am_okE s e) (hp : p < n) (hl : r.length < 544) (hk : tk p = 15) (h : am_LXv post n tk ta en mC mA ph sols fails lK lV lH lL lA pl b L0 a (am_eN tk n (p + 1)) e r s) : am_LXr post n tk ta en mC mA ph sols fails lK lV lH lL lA pl b L0 (a + 1) rk rv ((p, e, 1, 0, 0) :: r) s := by
  intro m po ev jV jO jC jW kT kE fT fE fH fC fW h1 h2 h3 h4
  obtain ⟨m, rfl⟩ : ∃ m', m = m' + 1 := ⟨m - 1, by omega⟩
  have g1 : ¬ (1000000 : Int32) ≤ nI (1000000 - (m + 1)) := nI_ge (b := 1000000) (by omega) (by decide)
  have g2 : nI (1000000 - (m + 1)) + 1 = nI (1000000 - m) := by rw [nI_1]; exact congrArg nI (by omega)
  have hf0 := h4
  obtain ⟨q1, q2, q3, q4, q5⟩ := h4
  have hc : (nI r.length).toNatClampNeg = r.length := nI_clamp (by omega)
  have v544 : vp_in (nI r.length) 544 := vp_in_nI hl (by decide)
  have et : fT (nI r.length).toNatClampNeg = nI p := by rw [hc]; exact q1
  have ee : fE (nI r.length).toNatClampNeg = am_xe s e := by rw [hc]; exact q3
  have d0 : (0 : Int32) < nI (r.length + 1) := nI_lt (a := 0) (by omega) (by omega)
  rw [wX_runPath_34]
  refine br_f g1 (br_t rfl (br_t rfl ?_))
  exact br_t d0 (nm_r (nI_pred r.length) ⟨v544, nm_r et (am_xtk hn hp (am_xta hn hp (am_xend hn hp hen (nI_1 p) ⟨v544, nm_r ee (br_f (by rw [hk]; decide) (br_f (by rw [hk]; decide) (br_f (by rw [hk]; decide) (br_f (by rw [hk]; decide) (br_f (by rw [hk]; decide) (br_f (by rw [hk]; decide) (br_f (by rw [hk]; decide) (br_f (by rw [hk]; decide) (br_f (by rw [hk]; decide) (br_f (by rw [hk]; decide) (br_t hk (am_xvn rfl (am_x62v g2 (h m (am_xk rk) (am_xv s rk rv) jV jO jC jW kT kE fT fE fH fC fW (by omega) (by omega) h3 q5))))))))))))))⟩)))⟩)
theorem am_xr_app (hn : n ≤ 32) (hA : mA ≤ 16) (hen : ∀ i, i < n → en i = nI (am_eN tk n i)) (w : am_WF n mC mA s) (he : am_okE s e) (hp : p < n) (hl : r.length < 544) (hv : am_okV s rk rv) (hk : tk p = 13) {c lq : Nat} (hcc : c < am_nc s) (ha : am_al s < mA) (hlq : lq < n) (elq : am_cPos s c = nI lq) (h : am_LXv post n tk ta en mC mA ph sols fails lK lV lH lL lA pl b L0 (a + 127) (lq + 1) (nI (am_nf s)) r (am_nl (ta lq) (am_cEnv s c) rk rv s)) : am_LXr post n tk ta en mC mA ph sols fails lK lV lH lL lA pl b L0 a rk rv ((p, e, 2, 2, nI c) :: r) s := by
  intro m po ev jV jO jC jW kT kE fT fE fH fC fW h1 h2 h3 h4
  obtain ⟨m, rfl⟩ : ∃ m', m = m' + 1 := ⟨m - 1, by omega⟩
  have g1 : ¬ (1000000 : Int32) ≤ nI (1000000 - (m + 1)) := nI_ge (b := 1000000) (by omega) (by decide)
  have g2 : nI (1000000 - (m + 1)) + 1 = nI (1000000 - m) := by rw [nI_1]; exact congrArg nI (by omega)
  have hf0 := h4
  obtain ⟨q1, q2, q3, q4, q5⟩ := h4
  have hc : (nI r.length).toNatClampNeg = r.length := nI_clamp (by omega)
  have v544 : vp_in (nI r.length) 544 := vp_in_nI hl (by decide)
  have et : fT (nI r.length).toNatClampNeg = nI p := by rw [hc]; exact q1
  have ee : fE (nI r.length).toNatClampNeg = am_xe s e := by rw [hc]; exact q3
  have d0 : (0 : Int32) < nI (r.length + 1) := nI_lt (a := 0) (by omega) (by omega)
  obtain ⟨z1, z2, z3, z4⟩ : fH r.length = 1 ∧ am_okV s 2 (nI c) ∧ fC r.length = am_xk 2 ∧ fW r.length = am_xv s 2 (nI c) := by
    rcases q4 with ⟨z, _⟩ | ⟨_, z⟩
    · exact absurd z (by decide)
    · exact z
  have hh1 : ¬ fH (nI r.length).toNatClampNeg = 0 := by rw [hc, z1]; decide
  have ec : fC (nI r.length).toNatClampNeg = am_xk 2 := by rw [hc]; exact z3
  have ew : fW (nI r.length).toNatClampNeg = am_xv s 2 (nI c) := by rw [hc]; exact z4
  have hcb := am_WF_c w hA hcc
  have b12 := am_nf16 w hA
  have wc := w.2.2.2 c hcc
  have hx : am_xc s c < 16 := by
    have h5 := wc.2.2
    have h6 := w.2.1
    omega
  rw [am_xv_2 s (by omega)] at ew
  rw [am_xk_2] at ec
  have nc : ¬ fC (nI r.length).toNatClampNeg = 0 := by rw [ec]; decide
  have vx : vp_in (nI (am_xc s c)) 16 := vp_in_nI hx (by decide)
  have x0 : ¬ nI (am_xc s c) < 0 := nI_pos (by omega)
  have x16 : nI (am_xc s c) < 16 := nI_lt (b := 16) hx (by decide)
  have hd : (nI (am_xc s c)).toNatClampNeg = am_xc s c := nI_clamp (by omega)
  obtain ⟨lp, hlp, elp⟩ := wc.1
  have e5 : kT (nI (am_xc s c)).toNatClampNeg = nI lp := by rw [hd, (h3.2 c hcc).1]; exact elp
  have e6 : kE (nI (am_xc s c)).toNatClampNeg = am_xe s (am_cEnv s c) := by rw [hd]; exact (h3.2 c hcc).2
  have ell : lp = lq := (nI_eq (by omega) (by omega)).mp (elp.symm.trans elq)
  subst ell
  have an := am_al_nl (ta lp) (am_cEnv s c) rk rv s
  have hh := h m (am_xk rk) (am_xv s rk rv) (upd jV (am_al s) (ta lp)) (upd jO (am_al s) (am_xe s (am_cEnv s c))) (upd jC (am_al s) (am_xk rk)) (upd jW (am_al s) (am_xv s rk rv)) kT kE fT fE fH fC fW (by omega) (by omega) (am_sx_nl w hA wc.2.1 hv h3) (am_fx_x (am_ext_nl (ta lp) (am_cEnv s c) rk rv s) b12.1 b12.2.1 r q5)
  rw [am_al_nl, am_xe_nl _ _ _ _ b12.1] at hh
  rw [wX_runPath_34]
  refine br_f g1 (br_t rfl (br_t rfl ?_))
  exact br_t d0 (nm_r (nI_pred r.length) ⟨v544, nm_r et (am_xtk hn hp (am_xta hn hp (am_xend hn hp hen (nI_1 p) ⟨v544, nm_r ee (br_f (by rw [hk]; decide) (br_f (by rw [hk]; decide) (br_f (by rw [hk]; decide) (br_f (by rw [hk]; decide) (br_f (by rw [hk]; decide) (br_f (by rw [hk]; decide) (br_f (by rw [hk]; decide) (br_f (by rw [hk]; decide) (br_t hk (⟨v544, br_f hh1 (br_t hk ⟨v544, nm_r ew ⟨v544, br_f nc (br_f x0 (br_t x16 ⟨vx, nm_r e5 (am_xta hn hlp ⟨vx, am_xbindT ha hA (am_nark rk) rfl e6 (am_xvn (nI_1 lp) (am_x62v g2 hh))⟩)⟩))⟩⟩)⟩))))))))))⟩)))⟩)
theorem am_xr_appF2 (hn : n ≤ 32) (hA : mA ≤ 16) (hen : ∀ i, i < n → en i = nI (am_eN tk n i)) (w : am_WF n mC mA s) (he : am_okE s e) (hp : p < n) (hl : r.length < 544) (hk : tk p = 13) {c : Nat} (hcc : c < am_nc s) (ha : mA ≤ am_al s) (hq : am_QX post n tk ta en mC mA ph sols fails lK lV lH lL lA pl b L0 s) : am_LXr post n tk ta en mC mA ph sols fails lK lV lH lL lA pl b L0 (a + 1) rk rv ((p, e, 2, 2, nI c) :: r) s := by
  intro m po ev jV jO jC jW kT kE fT fE fH fC fW h1 h2 h3 h4
  obtain ⟨m, rfl⟩ : ∃ m', m = m' + 1 := ⟨m - 1, by omega⟩
  have g1 : ¬ (1000000 : Int32) ≤ nI (1000000 - (m + 1)) := nI_ge (b := 1000000) (by omega) (by decide)
  have g2 : nI (1000000 - (m + 1)) + 1 = nI (1000000 - m) := by rw [nI_1]; exact congrArg nI (by omega)
  have hf0 := h4
  obtain ⟨q1, q2, q3, q4, q5⟩ := h4
  have hc : (nI r.length).toNatClampNeg = r.length := nI_clamp (by omega)
  have v544 : vp_in (nI r.length) 544 := vp_in_nI hl (by decide)
  have et : fT (nI r.length).toNatClampNeg = nI p := by rw [hc]; exact q1
  have ee : fE (nI r.length).toNatClampNeg = am_xe s e := by rw [hc]; exact q3
  have d0 : (0 : Int32) < nI (r.length + 1) := nI_lt (a := 0) (by omega) (by omega)
  obtain ⟨z1, z2, z3, z4⟩ : fH r.length = 1 ∧ am_okV s 2 (nI c) ∧ fC r.length = am_xk 2 ∧ fW r.length = am_xv s 2 (nI c) := by
    rcases q4 with ⟨z, _⟩ | ⟨_, z⟩
    · exact absurd z (by decide)
    · exact z
  have hh1 : ¬ fH (nI r.length).toNatClampNeg = 0 := by rw [hc, z1]; decide
  have ec : fC (nI r.length).toNatClampNeg = am_xk 2 := by rw [hc]; exact z3
  have ew : fW (nI r.length).toNatClampNeg = am_xv s 2 (nI c) := by rw [hc]; exact z4
  have hcb := am_WF_c w hA hcc
  have b12 := am_nf16 w hA
  have wc := w.2.2.2 c hcc
  have hx : am_xc s c < 16 := by
    have h5 := wc.2.2
    have h6 := w.2.1
    omega
  rw [am_xv_2 s (by omega)] at ew
  rw [am_xk_2] at ec
  have nc : ¬ fC (nI r.length).toNatClampNeg = 0 := by rw [ec]; decide
  have vx : vp_in (nI (am_xc s c)) 16 := vp_in_nI hx (by decide)
  have x0 : ¬ nI (am_xc s c) < 0 := nI_pos (by omega)
  have x16 : nI (am_xc s c) < 16 := nI_lt (b := 16) hx (by decide)
  have hd : (nI (am_xc s c)).toNatClampNeg = am_xc s c := nI_clamp (by omega)
  obtain ⟨lp, hlp, elp⟩ := wc.1
  have e5 : kT (nI (am_xc s c)).toNatClampNeg = nI lp := by rw [hd, (h3.2 c hcc).1]; exact elp
  have e6 : kE (nI (am_xc s c)).toNatClampNeg = am_xe s (am_cEnv s c) := by rw [hd]; exact (h3.2 c hcc).2
  rw [wX_runPath_34]
  refine br_f g1 (br_t rfl (br_t rfl ?_))
  exact br_t d0 (nm_r (nI_pred r.length) ⟨v544, nm_r et (am_xtk hn hp (am_xta hn hp (am_xend hn hp hen (nI_1 p) ⟨v544, nm_r ee (br_f (by rw [hk]; decide) (br_f (by rw [hk]; decide) (br_f (by rw [hk]; decide) (br_f (by rw [hk]; decide) (br_f (by rw [hk]; decide) (br_f (by rw [hk]; decide) (br_f (by rw [hk]; decide) (br_f (by rw [hk]; decide) (br_t hk (⟨v544, br_f hh1 (br_t hk ⟨v544, nm_r ew ⟨v544, br_f nc (br_f x0 (br_t x16 ⟨vx, nm_r e5 (am_xta hn hlp ⟨vx, am_xbindF ha b12.2.2 (am_xvn rfl (am_x62F (hq _ _ _ _ _ _ _ _ _ _ _ _ _ _ _ _ _ _)))⟩)⟩))⟩⟩)⟩))))))))))⟩)))⟩)
theorem am_xr_appF1 (hn : n ≤ 32) (hA : mA ≤ 16) (hen : ∀ i, i < n → en i = nI (am_eN tk n i)) (w : am_WF n mC mA s) (he : am_okE s e) (hp : p < n) (hl : r.length < 544) (hk : tk p = 13) (hno : ¬ k = 2) (hq : am_QX post n tk ta en mC mA ph sols fails lK lV lH lL lA pl b L0 s) : am_LXr post n tk ta en mC mA ph sols fails lK lV lH lL lA pl b L0 (a + 1) rk rv ((p, e, 2, k, v) :: r) s := by
  intro m po ev jV jO jC jW kT kE fT fE fH fC fW h1 h2 h3 h4
  obtain ⟨m, rfl⟩ : ∃ m', m = m' + 1 := ⟨m - 1, by omega⟩
  have g1 : ¬ (1000000 : Int32) ≤ nI (1000000 - (m + 1)) := nI_ge (b := 1000000) (by omega) (by decide)
  have g2 : nI (1000000 - (m + 1)) + 1 = nI (1000000 - m) := by rw [nI_1]; exact congrArg nI (by omega)
  have hf0 := h4
  obtain ⟨q1, q2, q3, q4, q5⟩ := h4
  have hc : (nI r.length).toNatClampNeg = r.length := nI_clamp (by omega)
  have v544 : vp_in (nI r.length) 544 := vp_in_nI hl (by decide)
  have et : fT (nI r.length).toNatClampNeg = nI p := by rw [hc]; exact q1
  have ee : fE (nI r.length).toNatClampNeg = am_xe s e := by rw [hc]; exact q3
  have d0 : (0 : Int32) < nI (r.length + 1) := nI_lt (a := 0) (by omega) (by omega)
  obtain ⟨z1, z2, z3, z4⟩ : fH r.length = 1 ∧ am_okV s k v ∧ fC r.length = am_xk k ∧ fW r.length = am_xv s k v := by
    rcases q4 with ⟨z, _⟩ | ⟨_, z⟩
    · exact absurd z (by decide)
    · exact z
  have hh1 : ¬ fH (nI r.length).toNatClampNeg = 0 := by rw [hc, z1]; decide
  have ec : fC (nI r.length).toNatClampNeg = am_xk k := by rw [hc]; exact z3
  have ew : fW (nI r.length).toNatClampNeg = am_xv s k v := by rw [hc]; exact z4
  have ec0 : fC (nI r.length).toNatClampNeg = 0 := by rw [ec]; exact if_neg hno
  rw [wX_runPath_34]
  refine br_f g1 (br_t rfl (br_t rfl ?_))
  exact br_t d0 (nm_r (nI_pred r.length) ⟨v544, nm_r et (am_xtk hn hp (am_xta hn hp (am_xend hn hp hen (nI_1 p) ⟨v544, nm_r ee (br_f (by rw [hk]; decide) (br_f (by rw [hk]; decide) (br_f (by rw [hk]; decide) (br_f (by rw [hk]; decide) (br_f (by rw [hk]; decide) (br_f (by rw [hk]; decide) (br_f (by rw [hk]; decide) (br_f (by rw [hk]; decide) (br_t hk (⟨v544, br_f hh1 (br_t hk ⟨v544, nm_r ew ⟨v544, br_t ec0 (am_x62F (hq _ _ _ _ _ _ _ _ _ _ _ _ _ _ _ _ _ _))⟩⟩)⟩))))))))))⟩)))⟩)
theorem am_LX_v {kx vx : Int32} {stk : List am_F} (h : am_LXv post n tk ta en mC mA ph sols fails lK lV lH lL lA pl b L0 a p e (am_er tk stk) s) : am_LX post n tk ta en mC mA ph sols fails lK lV lH lL lA pl b L0 a ((p, e, 0, kx, vx) :: stk) rk rv s := by
  have h2 : (if (0 : Int32) = 0 then am_LXv post n tk ta en mC mA ph sols fails lK lV lH lL lA pl b L0 a p e (am_er tk stk) s else am_LXr post n tk ta en mC mA ph sols fails lK lV lH lL lA pl b L0 a rk rv (am_er tk ((p, e, 0, kx, vx) :: stk)) s) := by
    rw [if_pos rfl]
    exact h
  exact h2
theorem am_LX_v' {kx vx : Int32} {stk : List am_F} (h : am_LX post n tk ta en mC mA ph sols fails lK lV lH lL lA pl b L0 a ((p, e, 0, kx, vx) :: stk) rk rv s) : am_LXv post n tk ta en mC mA ph sols fails lK lV lH lL lA pl b L0 a p e (am_er tk stk) s := by
  have h2 : (if (0 : Int32) = 0 then am_LXv post n tk ta en mC mA ph sols fails lK lV lH lL lA pl b L0 a p e (am_er tk stk) s else am_LXr post n tk ta en mC mA ph sols fails lK lV lH lL lA pl b L0 a rk rv (am_er tk ((p, e, 0, kx, vx) :: stk)) s) := h
  rw [if_pos rfl] at h2
  exact h2
theorem am_LX_r {stk : List am_F} (hz : am_nz stk) (h : am_LXr post n tk ta en mC mA ph sols fails lK lV lH lL lA pl b L0 a rk rv (am_er tk stk) s) : am_LX post n tk ta en mC mA ph sols fails lK lV lH lL lA pl b L0 a stk rk rv s := by
  cases stk with
  | nil => exact h
  | cons f stk =>
    obtain ⟨p, e, st, k, v⟩ := f
    have h2 : (if st = 0 then am_LXv post n tk ta en mC mA ph sols fails lK lV lH lL lA pl b L0 a p e (am_er tk stk) s else am_LXr post n tk ta en mC mA ph sols fails lK lV lH lL lA pl b L0 a rk rv (am_er tk ((p, e, st, k, v) :: stk)) s) := by
      rw [if_neg hz.1]
      exact h
    exact h2
theorem am_LX_r' {stk : List am_F} (hz : am_nz stk) (h : am_LX post n tk ta en mC mA ph sols fails lK lV lH lL lA pl b L0 a stk rk rv s) : am_LXr post n tk ta en mC mA ph sols fails lK lV lH lL lA pl b L0 a rk rv (am_er tk stk) s := by
  cases stk with
  | nil => exact h
  | cons f stk =>
    obtain ⟨p, e, st, k, v⟩ := f
    have h2 : (if st = 0 then am_LXv post n tk ta en mC mA ph sols fails lK lV lH lL lA pl b L0 a p e (am_er tk stk) s else am_LXr post n tk ta en mC mA ph sols fails lK lV lH lL lA pl b L0 a rk rv (am_er tk ((p, e, st, k, v) :: stk)) s) := h
    rw [if_neg hz.1] at h2
    exact h2
theorem am_xI (hn : n ≤ 32) (hA : mA ≤ 16) (hC : mC ≤ 6) (hL : L0 ≤ 6) (hz : ∀ j, L0 ≤ j → b j = false) (hen : ∀ i, i < n → en i = nI (am_eN tk n i)) : am_I n tk ta mC mA b (am_LX post n tk ta en mC mA ph sols fails lK lV lH lL lA pl b L0) (am_QX post n tk ta en mC mA ph sols fails lK lV lH lL lA pl b L0) := by
  have lt : ∀ {stk : List am_F}, stk.length < 544 → (am_er tk stk).length < 544 := fun h => Nat.lt_of_le_of_lt (am_er_le tk _) h
  have ntp : ∀ {p : Nat}, am_psh (tk p) → ¬ am_tl (tk p) 1 := by
    intro p hk
    unfold am_tl
    rcases hk with q | q | q | q | q | q | q | q | q | q | q <;> rw [q] <;> decide
  refine ⟨?_, ?_, ?_, ?_, ?_, ?_, ?_, ?_, ?_, ?_, ?_, ?_, ?_, ?_, ?_, ?_, ?_, ?_, ?_, ?_, ?_, ?_, ?_, ?_, ?_, ?_⟩
  · intro a a' stk rk rv s ha h
    cases stk with
    | nil => exact am_xr_monoR ha h
    | cons f stk =>
      obtain ⟨p, e, st, k, v⟩ := f
      by_cases z : st = 0
      · subst z
        exact am_LX_v (am_xr_monoV ha (am_LX_v' h))
      · have h2 : (if st = 0 then am_LXv post n tk ta en mC mA ph sols fails lK lV lH lL lA pl b L0 a p e (am_er tk stk) s else am_LXr post n tk ta en mC mA ph sols fails lK lV lH lL lA pl b L0 a rk rv (am_er tk ((p, e, st, k, v) :: stk)) s) := h
        rw [if_neg z] at h2
        have h3 : (if st = 0 then am_LXv post n tk ta en mC mA ph sols fails lK lV lH lL lA pl b L0 a' p e (am_er tk stk) s else am_LXr post n tk ta en mC mA ph sols fails lK lV lH lL lA pl b L0 a' rk rv (am_er tk ((p, e, st, k, v) :: stk)) s) := by
          rw [if_neg z]
          exact am_xr_monoR ha h2
        exact h3
  · intro a e stk rk rv s _ _ hl hq; exact am_LX_v (am_xr_out hn hq)
  · intro a p e stk rk rv s H hk h; exact am_LX_v (am_xr_num hn hA hen H.1 H.2.1 H.2.2.1 (lt H.2.2.2.1) hk (am_LX_r' H.2.2.2.2 h))
  · intro a p e stk rk rv s f H hk hf hlk h; exact am_LX_v (am_xr_var hn hA hen H.1 H.2.1 H.2.2.1 (lt H.2.2.2.1) hk hf hlk (am_LX_r' H.2.2.2.2 h))
  · intro a p e stk rk rv s H hk hlk hq; exact am_LX_v (am_xr_varF hn hA hen H.1 H.2.1 H.2.2.1 (lt H.2.2.2.1) hk hlk hq)
  · intro a p e stk rk rv s H hk h
    have h2 := am_LX_v' h
    rw [am_er_f (ntp hk)] at h2
    exact am_LX_v (am_xr_open hn hA hen H.1 H.2.1 H.2.2.1 (lt H.2.2.2.1) hk h2)
  · intro a p e stk rk rv s H hk hu h
    have h2 := am_LX_v' h
    rw [am_er_t (show am_tl (tk p) 1 from Or.inr (Or.inl ⟨hk, rfl⟩))] at h2
    exact am_LX_v (am_xr_amb hn hA hen H.1 H.2.1 H.2.2.1 (lt H.2.2.2.1) hC hL hz hk hu h2)
  · intro a p e stk rk rv s H hk hu hq; exact am_LX_v (am_xr_ambF hn hA hen H.1 H.2.1 H.2.2.1 (lt H.2.2.2.1) hC hk hu hq)
  · intro a p e stk rk rv s H hk hq; exact am_LX_v (am_xr_fail hn hA hen H.1 H.2.1 H.2.2.1 (lt H.2.2.2.1) hk hq)
  · intro a p e stk rk rv s H hk ha h; exact am_LX_v (am_xr_lam hn hA hen H.1 H.2.1 H.2.2.1 (lt H.2.2.2.1) hk ha (am_LX_r' H.2.2.2.2 h))
  · intro a p e stk rk rv s H hk ha hq; exact am_LX_v (am_xr_lamF hn hA hen H.1 H.2.1 H.2.2.1 (lt H.2.2.2.1) hk ha hq)
  · intro a p e stk rk rv s H hv hk h
    have h2 := am_LX_v' h
    refine am_LX_r ⟨by decide, H.2.2.2.2⟩ ?_
    rcases hk with hk | hk | hk | hk | hk | hk
    · rw [am_er_f (show ¬ am_tl (tk p) 2 by unfold am_tl; rw [hk]; decide)] at h2
      rw [am_er_f (show ¬ am_tl (tk p) 1 by unfold am_tl; rw [hk]; decide)]
      exact am_xr_hold13 hn hA hen H.1 H.2.1 H.2.2.1 (lt H.2.2.2.1) hv hk h2
    · rw [am_er_f (show ¬ am_tl (tk p) 2 by unfold am_tl; rw [hk]; decide)] at h2
      rw [am_er_f (show ¬ am_tl (tk p) 1 by unfold am_tl; rw [hk]; decide)]
      exact am_xr_hold2 hn hA hen H.1 H.2.1 H.2.2.1 (lt H.2.2.2.1) hv hk h2
    · rw [am_er_f (show ¬ am_tl (tk p) 2 by unfold am_tl; rw [hk]; decide)] at h2
      rw [am_er_f (show ¬ am_tl (tk p) 1 by unfold am_tl; rw [hk]; decide)]
      exact am_xr_hold3 hn hA hen H.1 H.2.1 H.2.2.1 (lt H.2.2.2.1) hv hk h2
    · rw [am_er_f (show ¬ am_tl (tk p) 2 by unfold am_tl; rw [hk]; decide)] at h2
      rw [am_er_f (show ¬ am_tl (tk p) 1 by unfold am_tl; rw [hk]; decide)]
      exact am_xr_hold4 hn hA hen H.1 H.2.1 H.2.2.1 (lt H.2.2.2.1) hv hk h2
    · rw [am_er_f (show ¬ am_tl (tk p) 2 by unfold am_tl; rw [hk]; decide)] at h2
      rw [am_er_f (show ¬ am_tl (tk p) 1 by unfold am_tl; rw [hk]; decide)]
      exact am_xr_hold5 hn hA hen H.1 H.2.1 H.2.2.1 (lt H.2.2.2.1) hv hk h2
    · rw [am_er_f (show ¬ am_tl (tk p) 2 by unfold am_tl; rw [hk]; decide)] at h2
      rw [am_er_f (show ¬ am_tl (tk p) 1 by unfold am_tl; rw [hk]; decide)]
      exact am_xr_hold6 hn hA hen H.1 H.2.1 H.2.2.1 (lt H.2.2.2.1) hv hk h2
  · intro a p e stk v rv s H hk h
    have h2 := am_LX_r' H.2.2.2.2 h
    refine am_LX_r ⟨by decide, H.2.2.2.2⟩ ?_
    rcases hk with hk | hk | hk | hk | hk
    · rw [am_er_f (show ¬ am_tl (tk p) 2 by unfold am_tl; rw [hk]; decide)]
      exact am_xr_calc2 hn hA hen H.1 H.2.1 H.2.2.1 (lt H.2.2.2.1) hk h2
    · rw [am_er_f (show ¬ am_tl (tk p) 2 by unfold am_tl; rw [hk]; decide)]
      exact am_xr_calc3 hn hA hen H.1 H.2.1 H.2.2.1 (lt H.2.2.2.1) hk h2
    · rw [am_er_f (show ¬ am_tl (tk p) 2 by unfold am_tl; rw [hk]; decide)]
      exact am_xr_calc4 hn hA hen H.1 H.2.1 H.2.2.1 (lt H.2.2.2.1) hk h2
    · rw [am_er_f (show ¬ am_tl (tk p) 2 by unfold am_tl; rw [hk]; decide)]
      exact am_xr_calc5 hn hA hen H.1 H.2.1 H.2.2.1 (lt H.2.2.2.1) hk h2
    · rw [am_er_f (show ¬ am_tl (tk p) 2 by unfold am_tl; rw [hk]; decide)]
      exact am_xr_calc6 hn hA hen H.1 H.2.1 H.2.2.1 (lt H.2.2.2.1) hk h2
  · intro a p e stk k v rk rv s H hk _ hv hno hq
    refine am_LX_r ⟨by decide, H.2.2.2.2⟩ ?_
    rcases hk with hk | hk | hk | hk | hk
    · rw [am_er_f (show ¬ am_tl (tk p) 2 by unfold am_tl; rw [hk]; decide)]
      exact am_xr_calcF2 hn hA hen H.1 H.2.1 H.2.2.1 (lt H.2.2.2.1) hv hk hno hq
    · rw [am_er_f (show ¬ am_tl (tk p) 2 by unfold am_tl; rw [hk]; decide)]
      exact am_xr_calcF3 hn hA hen H.1 H.2.1 H.2.2.1 (lt H.2.2.2.1) hv hk hno hq
    · rw [am_er_f (show ¬ am_tl (tk p) 2 by unfold am_tl; rw [hk]; decide)]
      exact am_xr_calcF4 hn hA hen H.1 H.2.1 H.2.2.1 (lt H.2.2.2.1) hv hk hno hq
    · rw [am_er_f (show ¬ am_tl (tk p) 2 by unfold am_tl; rw [hk]; decide)]
      exact am_xr_calcF5 hn hA hen H.1 H.2.1 H.2.2.1 (lt H.2.2.2.1) hv hk hno hq
    · rw [am_er_f (show ¬ am_tl (tk p) 2 by unfold am_tl; rw [hk]; decide)]
      exact am_xr_calcF6 hn hA hen H.1 H.2.1 H.2.2.1 (lt H.2.2.2.1) hv hk hno hq
  · intro a p e stk rv s H hk h
    have h2 := am_LX_v' h
    rw [am_er_t (show am_tl (tk p) 2 from Or.inl ⟨hk, rfl⟩)] at h2
    refine am_LX_r ⟨by decide, H.2.2.2.2⟩ ?_
    rw [am_er_f (show ¬ am_tl (tk p) 1 by unfold am_tl; rw [hk]; decide)]
    exact am_xr_if hn hA hen H.1 H.2.1 H.2.2.1 (lt H.2.2.2.1) hk h2
  · intro a p e stk rk rv s H hk hv hno hq
    refine am_LX_r ⟨by decide, H.2.2.2.2⟩ ?_
    rw [am_er_f (show ¬ am_tl (tk p) 1 by unfold am_tl; rw [hk]; decide)]
    exact am_xr_ifF hn hA hen H.1 H.2.1 H.2.2.1 (lt H.2.2.2.1) hv hk hno hq
  · intro a p e stk rv s H hk hv h
    have h2 := am_LX_v' h
    rw [am_er_t (show am_tl (tk p) 2 from Or.inr (Or.inr (Or.inl ⟨hk, rfl⟩)))] at h2
    refine am_LX_r ⟨by decide, H.2.2.2.2⟩ ?_
    rw [am_er_f (show ¬ am_tl (tk p) 1 by unfold am_tl; rw [hk]; decide)]
    exact am_xr_req hn hA hen H.1 H.2.1 H.2.2.1 (lt H.2.2.2.1) hk hv h2
  · intro a p e stk rk rv s H hk hv hno hq
    refine am_LX_r ⟨by decide, H.2.2.2.2⟩ ?_
    rw [am_er_f (show ¬ am_tl (tk p) 1 by unfold am_tl; rw [hk]; decide)]
    exact am_xr_reqF hn hA hen H.1 H.2.1 H.2.2.1 (lt H.2.2.2.1) hv hk hno hq
  · intro a p e stk rk rv s H hk hv ha h
    have h2 := am_LX_v' h
    rw [am_er_t (show am_tl (tk p) 2 from Or.inr (Or.inr (Or.inr (Or.inl ⟨hk, rfl⟩))))] at h2
    refine am_LX_r ⟨by decide, H.2.2.2.2⟩ ?_
    rw [am_er_f (show ¬ am_tl (tk p) 1 by unfold am_tl; rw [hk]; decide)]
    exact am_xr_let hn hA hen H.1 H.2.1 H.2.2.1 (lt H.2.2.2.1) hv hk ha h2
  · intro a p e stk rk rv s H hk _ ha hq
    refine am_LX_r ⟨by decide, H.2.2.2.2⟩ ?_
    rw [am_er_f (show ¬ am_tl (tk p) 1 by unfold am_tl; rw [hk]; decide)]
    exact am_xr_letF hn hA hen H.1 H.2.1 H.2.2.1 (lt H.2.2.2.1) hk ha hq
  · intro a p e stk rk rv s f H hk _ hf hlk h
    refine am_LX_r ⟨by decide, H.2.2.2.2⟩ ?_
    rw [am_er_f (show ¬ am_tl (tk p) 1 by unfold am_tl; rw [hk]; decide)]
    exact am_xr_set hn hA hen H.1 H.2.1 H.2.2.1 (lt H.2.2.2.1) hk hf hlk (am_LX_r' H.2.2.2.2 h)
  · intro a p e stk rk rv s H hk _ hlk hq
    refine am_LX_r ⟨by decide, H.2.2.2.2⟩ ?_
    rw [am_er_f (show ¬ am_tl (tk p) 1 by unfold am_tl; rw [hk]; decide)]
    exact am_xr_setF hn hA hen H.1 H.2.1 H.2.2.1 (lt H.2.2.2.1) hk hlk hq
  · intro a p e stk rk rv s H hk _ h
    have h2 := am_LX_v' h
    rw [am_er_t (show am_tl (tk p) 2 from Or.inr (Or.inr (Or.inr (Or.inr (Or.inr ⟨hk, rfl⟩)))))] at h2
    refine am_LX_r ⟨by decide, H.2.2.2.2⟩ ?_
    rw [am_er_f (show ¬ am_tl (tk p) 1 by unfold am_tl; rw [hk]; decide)]
    exact am_xr_seq hn hA hen H.1 H.2.1 H.2.2.1 (lt H.2.2.2.1) hk h2
  · intro a p e stk rk rv s c lp H hk hv hc ha hlp elp h
    have h2 := am_LX_v' h
    rw [am_er_t (show am_tl (tk p) 3 from Or.inr (Or.inr (Or.inr (Or.inr (Or.inl ⟨hk, rfl⟩)))))] at h2
    refine am_LX_r ⟨by decide, H.2.2.2.2⟩ ?_
    rw [am_er_f (show ¬ am_tl (tk p) 2 by unfold am_tl; rw [hk]; decide)]
    exact am_xr_app hn hA hen H.1 H.2.1 H.2.2.1 (lt H.2.2.2.1) hv hk hc ha hlp elp h2
  · intro a p e stk k v rk rv s H hk hkv _ hno hq
    refine am_LX_r ⟨by decide, H.2.2.2.2⟩ ?_
    rw [am_er_f (show ¬ am_tl (tk p) 2 by unfold am_tl; rw [hk]; decide)]
    by_cases k2 : k = 2
    · rcases hno with hno | hno
      · exact absurd k2 hno
      · subst k2
        rcases hkv with q | ⟨_, c, hc, q⟩
        · exact absurd q (by decide)
        · subst q
          exact am_xr_appF2 hn hA hen H.1 H.2.1 H.2.2.1 (lt H.2.2.2.1) hk hc hno hq
    · exact am_xr_appF1 hn hA hen H.1 H.2.1 H.2.2.1 (lt H.2.2.2.1) hk k2 hq
  · intro a p e stk st k v rk rv s H _ hk h
    have hs0 : ¬ st = 0 := by
      rcases hk with ⟨_, z⟩ | ⟨_, z⟩ | ⟨_, z⟩ | ⟨_, z⟩ | ⟨_, z⟩ | ⟨_, z⟩ <;> rw [z] <;> decide
    refine am_LX_r ⟨hs0, H.2.2.2.2⟩ ?_
    rw [am_er_t hk]
    exact am_xr_monoR (Nat.le_succ a) (am_LX_r' H.2.2.2.2 h)
end
end
section
section
variable {f_maxChoices f_maxAlloc f_held f_stage f_solutions f_failures f_lastKind f_lastValue f_lastChoices f_lastChoiceCount f_lastAllocCount f_steering f_steeringLength f_pathLeft f_failed f_choicesMade f_allocsMade f_visiting f_position f_environment f_resultIsClosure f_resultValue f_depth : Int32} {a_kinds a_args a_ends a_locationVariable a_locationOuter a_locationIsClosure a_locationValue a_closureToken a_closureEnvironment a_frameToken a_frameEnvironment a_frameHasFirst a_frameFirstIsClosure a_frameFirstValue : Nat → Int32}
variable {post : St2 → Prop} {n : Nat} {tk ta en : Nat → Int32} {mC mA : Nat} {ph sols fails lK lV lH lL lA pl : Int32} {b : Nat → Bool} {L0 : Nat}
def am_PX (post : St2 → Prop) (n : Nat) (tk ta en : Nat → Int32) (mC mA : Nat) (ph sols fails lK lV lH lL lA pl : Int32) (b : Nat → Bool) (L0 : Nat) (rk rv : Int32) (s : am_S) : Prop :=
  ∀ (f_position f_environment f_depth : Int32) (jV jO jC jW kT kE fT fE fH fC fW : Nat → Int32), am_sx s jV jO jC jW kT kE → post (nI mC, nI mA, nI n, ph, sols, fails, lK, lV, lH, lL, lA, nI (am_nm b (am_mx L0 (am_us s))), nI (am_mx L0 (am_us s)), pl, 0, nI (am_us s), nI (am_al s), 0, f_position, f_environment, am_xk rk, am_xv s rk rv, f_depth, tk, ta, en, jV, jO, jC, jW, kT, kE, fT, fE, fH, fC, fW)
theorem am_xr_end {a : Nat} {rk rv : Int32} {s : am_S} (h : am_PX post n tk ta en mC mA ph sols fails lK lV lH lL lA pl b L0 rk rv s) : am_LX post n tk ta en mC mA ph sols fails lK lV lH lL lA pl b L0 a [] rk rv s := by
  intro m po ev jV jO jC jW kT kE fT fE fH fC fW h1 h2 h3 h4
  have hh := h po ev (nI ([] : List am_F).length) jV jO jC jW kT kE fT fE fH fC fW h3
  rw [wX_runPath_34]
  exact br_c (fun _ => hh) (fun _ => br_f (by decide) hh)
theorem am_xrun (hn : n ≤ 32) (hA : mA ≤ 16) (hC : mC ≤ 6) (hL : L0 ≤ 6) (hz : ∀ j, L0 ≤ j → b j = false) (hK : ∀ i, i < n → am_kd (tk i)) (hen : ∀ i, i < n → en i = nI (am_eN tk n i))
    (hS : (am_run n tk ta mC mA b).1 = true → am_PX post n tk ta en mC mA ph sols fails lK lV lH lL lA pl b L0 (am_run n tk ta mC mA b).2.1 (am_run n tk ta mC mA b).2.2.1 (am_run n tk ta mC mA b).2.2.2) (hF : (am_run n tk ta mC mA b).1 = false → am_QX post n tk ta en mC mA ph sols fails lK lV lH lL lA pl b L0 (am_run n tk ta mC mA b).2.2.2) : wpX_runPath post (nI mC, nI mA, nI n, ph, sols, fails, lK, lV, lH, lL, lA, nI (am_nm b L0), nI L0, pl, f_failed, f_choicesMade, f_allocsMade, f_visiting, f_position, f_environment, f_resultIsClosure, f_resultValue, f_depth, tk, ta, en, a_locationVariable, a_locationOuter, a_locationIsClosure, a_locationValue, a_closureToken, a_closureEnvironment, a_frameToken, a_frameEnvironment, a_frameHasFirst, a_frameFirstIsClosure, a_frameFirstValue) := by
  have hk : am_K (am_LX post n tk ta en mC mA ph sols fails lK lV lH lL lA pl b L0) (am_QX post n tk ta en mC mA ph sols fails lK lV lH lL lA pl b L0) [] 1 (am_run n tk ta mC mA b) := by
    cases hr : (am_run n tk ta mC mA b).1 with
    | true => exact am_K_T hr (am_xr_end (hS hr))
    | false => exact am_K_F hr (hF hr)
  have e0 : am_al am_s0 = 0 := rfl
  have en0 : am_eN tk n 0 ≤ n := am_eN_le (Nat.zero_le n)
  have hs := am_sim (am_xI hn hA hC hL hz hen) hA hn hK 545 0 (-1) am_s0 [] 0 0 1 (Nat.zero_le n) (am_WF_0 n mC mA) (Or.inl rfl) True.intro (by rw [e0, List.length_nil]; omega) (by rw [e0]; omega) hk
  have e1 : am_mx L0 (am_us am_s0) = L0 := by
    show L0 + (0 - L0) = L0
    omega
  have sx0 : am_sx am_s0 a_locationVariable a_locationOuter a_locationIsClosure a_locationValue a_closureToken a_closureEnvironment := ⟨fun f hf => absurd hf (Nat.not_lt_zero f), fun c hc => absurd hc (Nat.not_lt_zero c)⟩
  have hh := (am_LX_v' hs) 1000000 f_resultIsClosure f_resultValue a_locationVariable a_locationOuter a_locationIsClosure a_locationValue a_closureToken a_closureEnvironment a_frameToken a_frameEnvironment a_frameHasFirst a_frameFirstIsClosure a_frameFirstValue (by rw [e0]; omega) (Nat.le_refl _) sx0 True.intro
  rw [e1, am_xe_m] at hh
  unfold wpX_runPath
  exact am_xvn (x' := nI 0) rfl ⟨1000000 + 1, hh⟩
end
end
section
/-! from path to path -/
def am_lv (s : am_S) (k v : Int32) : Int32 := if k = 2 then am_cPos s v.toNatClampNeg else v
def am_pl : Bool → Int32
  | true => 0
  | false => 1
def am_oI : Bool → Int32
  | true => 1
  | false => 0
/-- the search's place, as the component and as the reference keep it -/
def am_HX (ov : Bool) (b : Nat → Bool) (L : Nat) (f_pathLeft f_steering f_steeringLength : Int32) : Prop := f_pathLeft = am_pl ov ∧ (ov = false → f_steering = nI (am_nm b L) ∧ f_steeringLength = nI L)
def am_RX (mC mA n : Nat) (tk ta : Nat → Int32) (ph sols fails lK lV lA : Int32) (lc : Nat) (lb : Nat → Bool) (ov : Bool) (b : Nat → Bool) (L : Nat) (u : St2) : Prop :=
  ∃ (f_steering f_steeringLength f_pathLeft f_failed f_choicesMade f_allocsMade f_visiting f_position f_environment f_resultIsClosure f_resultValue f_depth : Int32) (a_ends a_locationVariable a_locationOuter a_locationIsClosure a_locationValue a_closureToken a_closureEnvironment a_frameToken a_frameEnvironment a_frameHasFirst a_frameFirstIsClosure a_frameFirstValue : Nat → Int32), u = (nI mC, nI mA, nI n, ph, sols, fails, lK, lV, nI (am_nm lb lc), nI lc, lA, f_steering, f_steeringLength, f_pathLeft, f_failed, f_choicesMade, f_allocsMade, f_visiting, f_position, f_environment, f_resultIsClosure, f_resultValue, f_depth, tk, ta, a_ends, a_locationVariable, a_locationOuter, a_locationIsClosure, a_locationValue, a_closureToken, a_closureEnvironment, a_frameToken, a_frameEnvironment, a_frameHasFirst, a_frameFirstIsClosure, a_frameFirstValue) ∧ (¬ ph = 0 → (∀ i, i < n → a_ends i = nI (am_eN tk n i)) ∧ am_HX ov b L f_pathLeft f_steering f_steeringLength)
/-- the vector that stands is one that the search comes to -/
def am_V (mC mA n : Nat) (tk ta : Nat → Int32) (b : Nat → Bool) (L : Nat) : Prop := L ≤ mC ∧ (∀ j, L ≤ j → b j = false) ∧ L ≤ am_us (am_run n tk ta mC mA b).2.2.2
def am_PD (mC mA n : Nat) (tk ta : Nat → Int32) (ph : Int32) (lc : Nat) (ov : Bool) (b : Nat → Bool) (L : Nat) : Prop := mC ≤ 6 ∧ mA ≤ 16 ∧ n ≤ 32 ∧ (∀ i, i < n → am_kd (tk i)) ∧ lc ≤ 6 ∧ (ph = 2 → ov = true) ∧ (¬ ph = 0 → ov = false → am_V mC mA n tk ta b L)
def am_ov (b : Nat → Bool) (k : Nat) : Bool := decide (am_la b k = 0)
def am_nb (b : Nat → Bool) (k : Nat) : Nat → Bool := am_sb b (am_la b k - 1)
theorem am_ov_t {b : Nat → Bool} {k : Nat} (h : am_la b k = 0) : am_ov b k = true := decide_eq_true h
theorem am_ov_f {b : Nat → Bool} {k q : Nat} (h : am_la b k = q + 1) : am_ov b k = false := decide_eq_false (by omega)
theorem am_nb_q {b : Nat → Bool} {k q : Nat} (h : am_la b k = q + 1) : am_nb b k = am_sb b q := by
  unfold am_nb
  rw [h, Nat.add_sub_cancel]
theorem am_V_nb {mC mA n : Nat} {tk ta : Nat → Int32} {b : Nat → Bool} {q : Nat} (hA : mA ≤ 16) (hn : n ≤ 32) (h : am_la b (am_us (am_run n tk ta mC mA b).2.2.2) = q + 1) : am_V mC mA n tk ta (am_sb b q) (q + 1) := by
  obtain ⟨h1, h2⟩ := am_la_q _ h
  have hw := (am_run_G (tk := tk) (ta := ta) (mC := mC) b hA hn).1.1
  exact ⟨by omega, fun j hj => am_sb_hi hj, am_reach (fun i hi => (am_sb_lo hi).symm) h1⟩
section
variable {f_maxChoices f_maxAlloc f_held f_stage f_solutions f_failures f_lastKind f_lastValue f_lastChoices f_lastChoiceCount f_lastAllocCount f_steering f_steeringLength f_pathLeft f_failed f_choicesMade f_allocsMade f_visiting f_position f_environment f_resultIsClosure f_resultValue f_depth : Int32} {a_kinds a_args a_ends a_locationVariable a_locationOuter a_locationIsClosure a_locationValue a_closureToken a_closureEnvironment a_frameToken a_frameEnvironment a_frameHasFirst a_frameFirstIsClosure a_frameFirstValue : Nat → Int32}
theorem am_xkeep {post : St2 → Prop} {n mC mA : Nat} {s : am_S} {rk rv : Int32} (w : am_WF n mC mA s) (hA : mA ≤ 16) (hv : am_okV s rk rv) (hs : am_sx s a_locationVariable a_locationOuter a_locationIsClosure a_locationValue a_closureToken a_closureEnvironment) (h : post (f_maxChoices, f_maxAlloc, f_held, f_stage, f_solutions + 1, f_failures, rk, am_lv s rk rv, f_steering, f_choicesMade, f_allocsMade, f_steering, f_steeringLength, f_pathLeft, f_failed, f_choicesMade, f_allocsMade, f_visiting, f_position, f_environment, am_xk rk, am_xv s rk rv, f_depth, a_kinds, a_args, a_ends, a_locationVariable, a_locationOuter, a_locationIsClosure, a_locationValue, a_closureToken, a_closureEnvironment, a_frameToken, a_frameEnvironment, a_frameHasFirst, a_frameFirstIsClosure, a_frameFirstValue)) : wpX_keepSolution post (f_maxChoices, f_maxAlloc, f_held, f_stage, f_solutions, f_failures, f_lastKind, f_lastValue, f_lastChoices, f_lastChoiceCount, f_lastAllocCount, f_steering, f_steeringLength, f_pathLeft, f_failed, f_choicesMade, f_allocsMade, f_visiting, f_position, f_environment, am_xk rk, am_xv s rk rv, f_depth, a_kinds, a_args, a_ends, a_locationVariable, a_locationOuter, a_locationIsClosure, a_locationValue, a_closureToken, a_closureEnvironment, a_frameToken, a_frameEnvironment, a_frameHasFirst, a_frameFirstIsClosure, a_frameFirstValue) := by
  rcases hv with y | ⟨y, c, hc, z⟩
  · subst y
    have el : am_lv s 1 rv = rv := if_neg (by decide)
    rw [el, am_xk_1, am_xv_1] at h
    rw [am_xk_1, am_xv_1]
    exact nm_e (br_t rfl (br_t rfl h))
  · subst y
    subst z
    have hcb := am_WF_c w hA hc
    have hx : am_xc s c < 16 := by
      have h5 := (w.2.2.2 c hc).2.2
      have h6 := w.2.1
      omega
    have el : am_lv s 2 (nI c) = am_cPos s c := by
      unfold am_lv
      rw [if_pos rfl, nI_clamp (by omega)]
    have hd : (nI (am_xc s c)).toNatClampNeg = am_xc s c := nI_clamp (by omega)
    rw [el, am_xk_2, am_xv_2 s (by omega)] at h
    rw [am_xk_2, am_xv_2 s (by omega)]
    exact nm_e (br_f (by decide) (br_f (by decide) (br_f (nI_pos (by omega)) (br_f (nI_ge (b := 16) hx (by decide)) ⟨vp_in_nI hx (by decide), by rw [hd, (hs.2 c hc).1]; exact h⟩))))
theorem am_xadv0 {post : St2 → Prop} {b : Nat → Bool} : ∀ k i : Nat, i + k ≤ 6 → (∀ f_pathLeft f_steering f_steeringLength : Int32, am_HX (am_ov b k) (am_nb b k) (am_la b k) f_pathLeft f_steering f_steeringLength → post (f_maxChoices, f_maxAlloc, f_held, f_stage, f_solutions, f_failures, f_lastKind, f_lastValue, f_lastChoices, f_lastChoiceCount, f_lastAllocCount, f_steering, f_steeringLength, f_pathLeft, f_failed, f_choicesMade, f_allocsMade, f_visiting, f_position, f_environment, f_resultIsClosure, f_resultValue, f_depth, a_kinds, a_args, a_ends, a_locationVariable, a_locationOuter, a_locationIsClosure, a_locationValue, a_closureToken, a_closureEnvironment, a_frameToken, a_frameEnvironment, a_frameHasFirst, a_frameFirstIsClosure, a_frameFirstValue)) → wX_moveToNextPath_2 post f_maxChoices f_maxAlloc f_held f_stage f_solutions f_failures f_lastKind f_lastValue f_lastChoices f_lastChoiceCount f_lastAllocCount f_pathLeft f_failed f_choicesMade f_allocsMade f_visiting f_position f_environment f_resultIsClosure f_resultValue f_depth a_kinds a_args a_ends a_locationVariable a_locationOuter a_locationIsClosure a_locationValue a_closureToken a_closureEnvironment a_frameToken a_frameEnvironment a_frameHasFirst a_frameFirstIsClosure a_frameFirstValue (k + 1) (nI i) (nI (am_nm b k)) (nI k) := by
  intro k
  induction k with
  | zero =>
    intro i hi h
    have hh := h 0 (nI 0 ||| 1) (nI 0) ⟨rfl, fun z => absurd z (by show ¬ (am_ov b 0 = false); rw [am_ov_t (b := b) (k := 0) rfl]; decide)⟩
    have h44 : wX_moveToNextPath_44 post f_maxChoices f_maxAlloc f_held f_stage f_solutions f_failures f_lastKind f_lastValue f_lastChoices f_lastChoiceCount f_lastAllocCount (nI 0) (nI 0) f_pathLeft f_failed f_choicesMade f_allocsMade f_visiting f_position f_environment f_resultIsClosure f_resultValue f_depth a_kinds a_args a_ends a_locationVariable a_locationOuter a_locationIsClosure a_locationValue a_closureToken a_closureEnvironment a_frameToken a_frameEnvironment a_frameHasFirst a_frameFirstIsClosure a_frameFirstValue := br_t (Int32.le_refl _) ⟨rfl, rfl, nm_e hh⟩
    rw [wX_moveToNextPath_2]
    have n0 : ¬ nI (am_nm b 0) &&& 1 = 1 := by
      show ¬ nI 0 &&& 1 = 1
      decide
    exact br_c (fun _ => h44) (fun _ => br_f n0 h44)
  | succ k ih =>
    intro i hi h
    have i6 : ¬ (6 : Int32) ≤ nI i := nI_ge (b := 6) (by omega) (by decide)
    have hx := am_nm_le (b := b) (L := k + 1) (by omega)
    have eb : nI (am_nm b (k + 1)) &&& 1 = nI (am_b1 (b k)) := by rw [am_and1 _ hx, am_nm_odd]
    rw [wX_moveToNextPath_2]
    cases hb : b k with
    | true =>
      rw [hb] at eb
      have e1 : nI (am_nm b (k + 1)) >>> ((1 : Int32) &&& 31) = nI (am_nm b k) := by rw [am_shr1 _ hx, am_nm_half]
      have el := am_la_t hb
      have eo : am_ov b (k + 1) = am_ov b k := by unfold am_ov; rw [el]
      have en : am_nb b (k + 1) = am_nb b k := by unfold am_nb; rw [el]
      rw [eo, en, el] at h
      exact br_f i6 (br_t eb (nm_r e1 (nm_r (nI_pred k) (nm_r (nI_1 i) (ih (i + 1) (by omega) h)))))
    | false =>
      rw [hb] at eb
      have el := am_la_f hb
      have ex : am_nm b (k + 1) = 2 * am_nm b k := by
        rw [am_nm_s, hb]
        rfl
      have e1 : nI (am_nm b (k + 1)) ||| 1 = nI (am_nm (am_sb b k) (k + 1)) := by rw [ex, am_or1 _ (by omega), am_nm_sb]
      have hh := h 1 (nI (am_nm (am_sb b k) (k + 1))) (nI (k + 1)) ⟨by rw [am_ov_f el]; rfl, fun _ => by rw [am_nb_q el, el]; exact ⟨rfl, rfl⟩⟩
      exact br_f i6 (br_f (by rw [eb]; decide) (br_f (nI_nle (by omega) (by omega)) ⟨rfl, rfl, nm_r e1 hh⟩))
theorem am_xadv {post : St2 → Prop} {b : Nat → Bool} {k : Nat} (hk : k ≤ 6) (h : ∀ f_pathLeft f_steering f_steeringLength : Int32, am_HX (am_ov b k) (am_nb b k) (am_la b k) f_pathLeft f_steering f_steeringLength → post (f_maxChoices, f_maxAlloc, f_held, f_stage, f_solutions, f_failures, f_lastKind, f_lastValue, f_lastChoices, f_lastChoiceCount, f_lastAllocCount, f_steering, f_steeringLength, f_pathLeft, f_failed, f_choicesMade, f_allocsMade, f_visiting, f_position, f_environment, f_resultIsClosure, f_resultValue, f_depth, a_kinds, a_args, a_ends, a_locationVariable, a_locationOuter, a_locationIsClosure, a_locationValue, a_closureToken, a_closureEnvironment, a_frameToken, a_frameEnvironment, a_frameHasFirst, a_frameFirstIsClosure, a_frameFirstValue)) : wpX_moveToNextPath post (f_maxChoices, f_maxAlloc, f_held, f_stage, f_solutions, f_failures, f_lastKind, f_lastValue, f_lastChoices, f_lastChoiceCount, f_lastAllocCount, nI (am_nm b k), nI k, f_pathLeft, f_failed, f_choicesMade, f_allocsMade, f_visiting, f_position, f_environment, f_resultIsClosure, f_resultValue, f_depth, a_kinds, a_args, a_ends, a_locationVariable, a_locationOuter, a_locationIsClosure, a_locationValue, a_closureToken, a_closureEnvironment, a_frameToken, a_frameEnvironment, a_frameHasFirst, a_frameFirstIsClosure, a_frameFirstValue) := ⟨k + 1, am_xadv0 k 0 (by omega) h⟩
end
theorem am_mx_u {L u : Nat} (h : L ≤ u) : am_mx L u = u := by unfold am_mx; omega
section
variable {f_maxChoices f_maxAlloc f_held f_stage f_solutions f_failures f_lastKind f_lastValue f_lastChoices f_lastChoiceCount f_lastAllocCount f_steering f_steeringLength f_pathLeft f_failed f_choicesMade f_allocsMade f_visiting f_position f_environment f_resultIsClosure f_resultValue f_depth : Int32} {a_kinds a_args a_ends a_locationVariable a_locationOuter a_locationIsClosure a_locationValue a_closureToken a_closureEnvironment a_frameToken a_frameEnvironment a_frameHasFirst a_frameFirstIsClosure a_frameFirstValue : Nat → Int32}
variable {mC mA n : Nat} {tk ta en : Nat → Int32} {ph sols fails lK lV lA : Int32} {lc : Nat} {lb b : Nat → Bool} {L i f : Nat}
/-- the component's round of its loop at a path that succeeds -/
theorem am_xpS {post : Int32 → St2 → Prop} (hC : mC ≤ 6) (hA : mA ≤ 16) (hn : n ≤ 32) (hK : ∀ i, i < n → am_kd (tk i)) (hV : am_V mC mA n tk ta b L) (hen : ∀ i, i < n → en i = nI (am_eN tk n i)) (hi : i < 64) (hr : (am_run n tk ta mC mA b).1 = true)
    (h : ∀ u', am_RX mC mA n tk ta ph (sols + 1) fails (am_run n tk ta mC mA b).2.1 (am_lv (am_run n tk ta mC mA b).2.2.2 (am_run n tk ta mC mA b).2.1 (am_run n tk ta mC mA b).2.2.1) (nI (am_al (am_run n tk ta mC mA b).2.2.2)) (am_us (am_run n tk ta mC mA b).2.2.2) b (am_ov b (am_us (am_run n tk ta mC mA b).2.2.2)) (am_nb b (am_us (am_run n tk ta mC mA b).2.2.2)) (am_la b (am_us (am_run n tk ta mC mA b).2.2.2)) u' → post 1 u') :
    wX_next_11 post (f + 1) (nI i) (nI mC) (nI mA) (nI n) ph sols fails lK lV (nI (am_nm lb lc)) (nI lc) lA (nI (am_nm b L)) (nI L) 1 f_failed f_choicesMade f_allocsMade f_visiting f_position f_environment f_resultIsClosure f_resultValue f_depth tk ta en a_locationVariable a_locationOuter a_locationIsClosure a_locationValue a_closureToken a_closureEnvironment a_frameToken a_frameEnvironment a_frameHasFirst a_frameFirstIsClosure a_frameFirstValue := by
  have hG := am_run_G (tk := tk) (ta := ta) (mC := mC) b hA hn
  have emx := am_mx_u hV.2.2
  have hu := hG.1.1
  rw [wX_next_11]
  refine br_f (nI_ge (b := 64) hi (by decide)) (br_f (by decide) (am_xrun hn hA hC (Nat.le_trans hV.1 hC) hV.2.1 hK hen (fun _ => ?_) (fun z => absurd (z.symm.trans hr) (by decide))))
  intro po ev dp jV jO jC jW kT kE fT fE fH fC fW hs
  rw [emx]
  exact br_t rfl (br_f (by decide) (am_xkeep hG.1 hA (hG.2.2 hr) hs (am_xadv (by omega) (fun p1 p2 p3 hh => br_f (by decide) (h _ ⟨_, _, _, _, _, _, _, _, _, _, _, _, _, _, _, _, _, _, _, _, _, _, _, _, rfl, fun _ => ⟨hen, hh⟩⟩)))))
/-- .. and at one that fails -/
theorem am_xpF {post : Int32 → St2 → Prop} (hC : mC ≤ 6) (hA : mA ≤ 16) (hn : n ≤ 32) (hK : ∀ i, i < n → am_kd (tk i)) (hV : am_V mC mA n tk ta b L) (hen : ∀ i, i < n → en i = nI (am_eN tk n i)) (hi : i < 64) (hr : (am_run n tk ta mC mA b).1 = false)
    (h : ∀ (f_steering f_steeringLength f_pathLeft f_failed f_choicesMade f_allocsMade f_visiting f_position f_environment f_resultIsClosure f_resultValue f_depth : Int32) (a_locationVariable a_locationOuter a_locationIsClosure a_locationValue a_closureToken a_closureEnvironment a_frameToken a_frameEnvironment a_frameHasFirst a_frameFirstIsClosure a_frameFirstValue : Nat → Int32), am_HX (am_ov b (am_us (am_run n tk ta mC mA b).2.2.2)) (am_nb b (am_us (am_run n tk ta mC mA b).2.2.2)) (am_la b (am_us (am_run n tk ta mC mA b).2.2.2)) f_pathLeft f_steering f_steeringLength → wX_next_11 post f (nI (i + 1)) (nI mC) (nI mA) (nI n) ph sols (fails + 1) lK lV (nI (am_nm lb lc)) (nI lc) lA f_steering f_steeringLength f_pathLeft f_failed f_choicesMade f_allocsMade f_visiting f_position f_environment f_resultIsClosure f_resultValue f_depth tk ta en a_locationVariable a_locationOuter a_locationIsClosure a_locationValue a_closureToken a_closureEnvironment a_frameToken a_frameEnvironment a_frameHasFirst a_frameFirstIsClosure a_frameFirstValue) :
    wX_next_11 post (f + 1) (nI i) (nI mC) (nI mA) (nI n) ph sols fails lK lV (nI (am_nm lb lc)) (nI lc) lA (nI (am_nm b L)) (nI L) 1 f_failed f_choicesMade f_allocsMade f_visiting f_position f_environment f_resultIsClosure f_resultValue f_depth tk ta en a_locationVariable a_locationOuter a_locationIsClosure a_locationValue a_closureToken a_closureEnvironment a_frameToken a_frameEnvironment a_frameHasFirst a_frameFirstIsClosure a_frameFirstValue := by
  have hG := am_run_G (tk := tk) (ta := ta) (mC := mC) b hA hn
  have emx := am_mx_u hV.2.2
  have hu := hG.1.1
  rw [wX_next_11]
  refine br_f (nI_ge (b := 64) hi (by decide)) (br_f (by decide) (am_xrun hn hA hC (Nat.le_trans hV.1 hC) hV.2.1 hK hen (fun z => absurd (z.symm.trans hr) (by decide)) (fun _ => ?_)))
  intro g1 g2 g3 g4 g5 g6 g7 jV jO jC jW kT kE fT fE fH fC fW
  rw [emx]
  exact br_f (by decide) (br_t rfl (nm_e (am_xadv (by omega) (fun p1 p2 p3 hh => br_t rfl (nm_r (nI_1 i) (h _ _ _ _ _ _ _ _ _ _ _ _ _ _ _ _ _ _ _ _ _ _ _ hh))))))
end
end
section
/-! compile: the shape, the ends, the scopes -/
def am_sh (tk : Nat → Int32) : Nat → Nat → Nat → Nat
  | 0, 0, _ => 0
  | 0, _ + 1, _ => 3
  | _ + 1, 0, _ => 2
  | d + 1, q + 1, i => am_sh tk d (q + am_ar (tk i)) (i + 1)
theorem am_sh_v (tk : Nat → Int32) : ∀ d q i : Nat, am_sh tk d q i = 0 ∨ am_sh tk d q i = 2 ∨ am_sh tk d q i = 3 := by
  intro d
  induction d with
  | zero =>
    intro q i
    cases q with
    | zero => exact Or.inl rfl
    | succ q => exact Or.inr (Or.inr rfl)
  | succ d ih =>
    intro q i
    cases q with
    | zero => exact Or.inr (Or.inl rfl)
    | succ q => exact ih (q + am_ar (tk i)) (i + 1)
/-- is one of f p, f (p + 1), .. (d of them) true -/
def am_an (f : Nat → Bool) : Nat → Nat → Bool
  | 0, _ => false
  | d + 1, p => match f p with
    | true => true
    | false => am_an f d (p + 1)
theorem am_an_t {f : Nat → Bool} {d p : Nat} (h : f p = true) : am_an f (d + 1) p = true := by
  show (match f p with
    | true => true
    | false => am_an f d (p + 1)) = true
  rw [h]
theorem am_an_f {f : Nat → Bool} {d p : Nat} (h : f p = false) : am_an f (d + 1) p = am_an f d (p + 1) := by
  show (match f p with
    | true => true
    | false => am_an f d (p + 1)) = am_an f d (p + 1)
  rw [h]
/-- does the token at p bind v at i -/
def am_bq (tk ta : Nat → Int32) (n i : Nat) (v : Int32) (p : Nat) : Bool := if tk p = 11 ∧ ta p = v then decide (am_eN tk n (p + 1) ≤ i ∧ i < am_eN tk n p) else if tk p = 12 ∧ ta p = v then decide (i < am_eN tk n p) else false
theorem am_bq_11 {tk ta : Nat → Int32} {n i p : Nat} {v : Int32} (h1 : tk p = 11) (h2 : ta p = v) : am_bq tk ta n i v p = decide (am_eN tk n (p + 1) ≤ i ∧ i < am_eN tk n p) := if_pos ⟨h1, h2⟩
theorem am_bq_12 {tk ta : Nat → Int32} {n i p : Nat} {v : Int32} (h1 : tk p = 12) (h2 : ta p = v) : am_bq tk ta n i v p = decide (i < am_eN tk n p) := by
  unfold am_bq
  rw [if_neg (fun z => absurd (h1.symm.trans z.1) (by decide)), if_pos ⟨h1, h2⟩]
theorem am_bq_v {tk ta : Nat → Int32} {n i p : Nat} {v : Int32} (h2 : ¬ ta p = v) : am_bq tk ta n i v p = false := by
  unfold am_bq
  rw [if_neg (fun z => h2 z.2), if_neg (fun z => h2 z.2)]
theorem am_bq_k {tk ta : Nat → Int32} {n i p : Nat} {v : Int32} (h1 : ¬ tk p = 11) (h2 : ¬ tk p = 12) : am_bq tk ta n i v p = false := by
  unfold am_bq
  rw [if_neg (fun z => h1 z.1), if_neg (fun z => h2 z.1)]
def am_ab (tk ta : Nat → Int32) (n : Nat) : Nat → Nat → Bool
  | 0, _ => true
  | d + 1, i => if (tk i = 1 ∨ tk i = 14) ∧ am_an (am_bq tk ta n i (ta i)) i 0 = false then false else am_ab tk ta n d (i + 1)
theorem am_ab_s (tk ta : Nat → Int32) (n d i : Nat) : am_ab tk ta n (d + 1) i = if (tk i = 1 ∨ tk i = 14) ∧ am_an (am_bq tk ta n i (ta i)) i 0 = false then false else am_ab tk ta n d (i + 1) := rfl
theorem am_xar {post : Int32 → Prop} {k k' : Int32} (ek : k' = k) (hk : am_kd k) (h : post (nI (am_ar k))) : wpX_arity post () k' := by
  subst ek
  rcases hk with q | q | q | q | q | q | q | q | q | q | q | q | q | q | q | q
  · subst q
    rw [show am_ar 0 = 0 by decide] at h
    exact br_f (by decide) (br_f (by decide) (br_t rfl h))
  · subst q
    rw [show am_ar 1 = 0 by decide] at h
    exact br_f (by decide) (br_f (by decide) (br_f (by decide) (br_t rfl h)))
  · subst q
    rw [show am_ar 2 = 2 by decide] at h
    exact br_f (by decide) (br_f (by decide) (br_f (by decide) (br_f (by decide) (br_t rfl h))))
  · subst q
    rw [show am_ar 3 = 2 by decide] at h
    exact br_f (by decide) (br_f (by decide) (br_f (by decide) (br_f (by decide) (br_f (by decide) (br_t rfl h)))))
  · subst q
    rw [show am_ar 4 = 2 by decide] at h
    exact br_f (by decide) (br_f (by decide) (br_f (by decide) (br_f (by decide) (br_f (by decide) (br_f (by decide) (br_t rfl h))))))
  · subst q
    rw [show am_ar 5 = 2 by decide] at h
    exact br_f (by decide) (br_f (by decide) (br_f (by decide) (br_f (by decide) (br_f (by decide) (br_f (by decide) (br_f (by decide) (br_t rfl h)))))))
  · subst q
    rw [show am_ar 6 = 2 by decide] at h
    exact br_f (by decide) (br_f (by decide) (br_f (by decide) (br_f (by decide) (br_f (by decide) (br_f (by decide) (br_f (by decide) (br_f (by decide) (br_t rfl h))))))))
  · subst q
    rw [show am_ar 7 = 3 by decide] at h
    exact br_f (by decide) (br_f (by decide) (br_f (by decide) (br_f (by decide) (br_f (by decide) (br_f (by decide) (br_f (by decide) (br_f (by decide) (br_f (by decide) (br_t rfl h)))))))))
  · subst q
    rw [show am_ar 8 = 2 by decide] at h
    exact br_f (by decide) (br_f (by decide) (br_f (by decide) (br_f (by decide) (br_f (by decide) (br_f (by decide) (br_f (by decide) (br_f (by decide) (br_f (by decide) (br_f (by decide) (br_t rfl h))))))))))
  · subst q
    rw [show am_ar 9 = 0 by decide] at h
    exact br_f (by decide) (br_f (by decide) (br_f (by decide) (br_f (by decide) (br_f (by decide) (br_f (by decide) (br_f (by decide) (br_f (by decide) (br_f (by decide) (br_f (by decide) (br_f (by decide) (br_t rfl h)))))))))))
  · subst q
    rw [show am_ar 10 = 2 by decide] at h
    exact br_f (by decide) (br_f (by decide) (br_f (by decide) (br_f (by decide) (br_f (by decide) (br_f (by decide) (br_f (by decide) (br_f (by decide) (br_f (by decide) (br_f (by decide) (br_f (by decide) (br_f (by decide) (br_t rfl h))))))))))))
  · subst q
    rw [show am_ar 11 = 2 by decide] at h
    exact br_f (by decide) (br_f (by decide) (br_f (by decide) (br_f (by decide) (br_f (by decide) (br_f (by decide) (br_f (by decide) (br_f (by decide) (br_f (by decide) (br_f (by decide) (br_f (by decide) (br_f (by decide) (br_f (by decide) (br_t rfl h)))))))))))))
  · subst q
    rw [show am_ar 12 = 1 by decide] at h
    exact br_f (by decide) (br_f (by decide) (br_f (by decide) (br_f (by decide) (br_f (by decide) (br_f (by decide) (br_f (by decide) (br_f (by decide) (br_f (by decide) (br_f (by decide) (br_f (by decide) (br_f (by decide) (br_f (by decide) (br_f (by decide) (br_t rfl h))))))))))))))
  · subst q
    rw [show am_ar 13 = 2 by decide] at h
    exact br_f (by decide) (br_f (by decide) (br_f (by decide) (br_f (by decide) (br_f (by decide) (br_f (by decide) (br_f (by decide) (br_f (by decide) (br_f (by decide) (br_f (by decide) (br_f (by decide) (br_f (by decide) (br_f (by decide) (br_f (by decide) (br_f (by decide) (br_t rfl h)))))))))))))))
  · subst q
    rw [show am_ar 14 = 1 by decide] at h
    exact br_f (by decide) (br_f (by decide) (br_f (by decide) (br_f (by decide) (br_f (by decide) (br_f (by decide) (br_f (by decide) (br_f (by decide) (br_f (by decide) (br_f (by decide) (br_f (by decide) (br_f (by decide) (br_f (by decide) (br_f (by decide) (br_f (by decide) (br_f (by decide) (br_t rfl h))))))))))))))))
  · subst q
    rw [show am_ar 15 = 2 by decide] at h
    exact br_f (by decide) (br_t (by decide) h)
section
variable {f_maxChoices f_maxAlloc f_held f_stage f_solutions f_failures f_lastKind f_lastValue f_lastChoices f_lastChoiceCount f_lastAllocCount f_steering f_steeringLength f_pathLeft f_failed f_choicesMade f_allocsMade f_visiting f_position f_environment f_resultIsClosure f_resultValue f_depth : Int32} {a_kinds a_args a_ends a_locationVariable a_locationOuter a_locationIsClosure a_locationValue a_closureToken a_closureEnvironment a_frameToken a_frameEnvironment a_frameHasFirst a_frameFirstIsClosure a_frameFirstValue : Nat → Int32}
variable {n : Nat} {tk ta en : Nat → Int32}
theorem am_xsh {post : Int32 → Prop} (hn : n ≤ 32) (hK : ∀ i, i < n → am_kd (tk i)) : ∀ d q i : Nat, i + d = n → q + 3 * d < 1000 → post (nI (am_sh tk d q i)) → wX_checkShape_13 post f_maxChoices f_maxAlloc (nI n) f_stage f_solutions f_failures f_lastKind f_lastValue f_lastChoices f_lastChoiceCount f_lastAllocCount f_steering f_steeringLength f_pathLeft f_failed f_choicesMade f_allocsMade f_visiting f_position f_environment f_resultIsClosure f_resultValue f_depth tk a_args a_ends a_locationVariable a_locationOuter a_locationIsClosure a_locationValue a_closureToken a_closureEnvironment a_frameToken a_frameEnvironment a_frameHasFirst a_frameFirstIsClosure a_frameFirstValue (d + 1) (nI q) (nI i) := by
  intro d
  induction d with
  | zero =>
    intro q i hi hq h
    rw [wX_checkShape_13]
    refine br_t (nI_le (by omega) (by omega)) ?_
    cases q with
    | zero => exact br_t (Int32.le_refl _) h
    | succ q => exact br_f (nI_nle (by omega) (by omega)) h
  | succ d ih =>
    intro q i hi hq h
    rw [wX_checkShape_13]
    refine br_f (nI_ge (by omega) (by omega)) ?_
    cases q with
    | zero => exact br_t rfl h
    | succ q =>
      have ha := am_ar_le (tk i)
      have hc : (nI i).toNatClampNeg = i := nI_clamp (by omega)
      have e1 : nI (q + 1) - 1 + nI (am_ar (tk i)) = nI (q + am_ar (tk i)) := by rw [nI_pred, nI_add]
      exact br_f (nI_ne0 (by omega) (by omega)) ⟨vp_in_nI (by omega) (by decide), am_xar (by rw [hc]) (hK i (by omega)) (nm_r e1 (nm_r (nI_1 i) (ih (q + am_ar (tk i)) (i + 1) (by omega) (by omega) h)))⟩
theorem am_xend1 {post : Int32 → Prop} {p : Nat} {x : Int32} (hn : n ≤ 32) (hp : p ≤ n) (hen : p < n → en p = nI (am_eN tk n p)) (ex : x = nI p) (h : post (nI (am_eN tk n p))) : wpX_endOf post (f_maxChoices, f_maxAlloc, nI n, f_stage, f_solutions, f_failures, f_lastKind, f_lastValue, f_lastChoices, f_lastChoiceCount, f_lastAllocCount, f_steering, f_steeringLength, f_pathLeft, f_failed, f_choicesMade, f_allocsMade, f_visiting, f_position, f_environment, f_resultIsClosure, f_resultValue, f_depth, a_kinds, a_args, en, a_locationVariable, a_locationOuter, a_locationIsClosure, a_locationValue, a_closureToken, a_closureEnvironment, a_frameToken, a_frameEnvironment, a_frameHasFirst, a_frameFirstIsClosure, a_frameFirstValue) x := by
  rw [ex]
  have hc : (nI p).toNatClampNeg = p := nI_clamp (by omega)
  by_cases q : p < n
  · exact br_f (nI_pos (by omega)) (br_f (nI_ge q (by omega)) ⟨vp_in_nI (by omega) (by decide), by rw [hc, hen q]; exact h⟩)
  · have e : p = n := by omega
    rw [e, am_eN_n] at h
    exact br_f (nI_pos (by omega)) (br_t (nI_le (by omega) (by omega)) h)
theorem am_xfe28 {post : St2 → Prop} {J : Int32 → (Nat → Int32) → (Nat → Int32) → (Nat → Int32) → (Nat → Int32) → (Nat → Int32) → (Nat → Int32) → (Nat → Int32) → (Nat → Int32) → (Nat → Int32) → (Nat → Int32) → (Nat → Int32) → (Nat → Int32) → (Nat → Int32) → (Nat → Int32) → Prop} {i A : Nat} (hn : n ≤ 32) (hi : i < n) (hA : A ≤ 3) (hen : ∀ j, i < j → j < n → en j = nI (am_eN tk n j)) : ∀ d q e : Nat, q + d = A → i < e → e ≤ n → J (am_pI i) a_kinds a_args (upd en i (nI (am_it tk n d e))) a_locationVariable a_locationOuter a_locationIsClosure a_locationValue a_closureToken a_closureEnvironment a_frameToken a_frameEnvironment a_frameHasFirst a_frameFirstIsClosure a_frameFirstValue → wX_findEnds_28 post J (nI i) (nI A) f_maxChoices f_maxAlloc (nI n) f_stage f_solutions f_failures f_lastKind f_lastValue f_lastChoices f_lastChoiceCount f_lastAllocCount f_steering f_steeringLength f_pathLeft f_failed f_choicesMade f_allocsMade f_visiting f_position f_environment f_resultIsClosure f_resultValue f_depth a_kinds a_args en a_locationVariable a_locationOuter a_locationIsClosure a_locationValue a_closureToken a_closureEnvironment a_frameToken a_frameEnvironment a_frameHasFirst a_frameFirstIsClosure a_frameFirstValue (d + 1) (nI e) (nI q) := by
  intro d
  induction d with
  | zero =>
    intro q e hq he hen2 h
    have hc : (nI i).toNatClampNeg = i := nI_clamp (by omega)
    rw [wX_findEnds_28]
    exact br_t (nI_le (by omega) (by omega)) ⟨vp_in_nI (by omega) (by decide), nm_r (by rw [hc]; rfl) (nm_r (am_pI_m i) h)⟩
  | succ d ih =>
    intro q e hq he hen2 h
    rw [wX_findEnds_28]
    exact br_f (nI_ge (by omega) (by omega)) (am_xend1 hn hen2 (fun z => hen e he z) rfl (nm_r (nI_1 q) (ih (q + 1) (am_eN tk n e) (by omega) (Nat.lt_of_lt_of_le he (am_eN_ge tk n e)) (am_eN_le hen2) h)))
theorem am_xfe {post : St2 → Prop} (hn : n ≤ 32) (hK : ∀ i, i < n → am_kd (tk i)) : ∀ (i : Nat) (en : Nat → Int32), i ≤ n → (∀ j, i ≤ j → j < n → en j = nI (am_eN tk n j)) → (∀ en' : Nat → Int32, (∀ j, j < n → en' j = nI (am_eN tk n j)) → post (f_maxChoices, f_maxAlloc, nI n, f_stage, f_solutions, f_failures, f_lastKind, f_lastValue, f_lastChoices, f_lastChoiceCount, f_lastAllocCount, f_steering, f_steeringLength, f_pathLeft, f_failed, f_choicesMade, f_allocsMade, f_visiting, f_position, f_environment, f_resultIsClosure, f_resultValue, f_depth, tk, a_args, en', a_locationVariable, a_locationOuter, a_locationIsClosure, a_locationValue, a_closureToken, a_closureEnvironment, a_frameToken, a_frameEnvironment, a_frameHasFirst, a_frameFirstIsClosure, a_frameFirstValue)) → wX_findEnds_7 post f_maxChoices f_maxAlloc (nI n) f_stage f_solutions f_failures f_lastKind f_lastValue f_lastChoices f_lastChoiceCount f_lastAllocCount f_steering f_steeringLength f_pathLeft f_failed f_choicesMade f_allocsMade f_visiting f_position f_environment f_resultIsClosure f_resultValue f_depth (i + 1) (am_pI i) tk a_args en a_locationVariable a_locationOuter a_locationIsClosure a_locationValue a_closureToken a_closureEnvironment a_frameToken a_frameEnvironment a_frameHasFirst a_frameFirstIsClosure a_frameFirstValue := by
  intro i
  induction i with
  | zero =>
    intro en _ hen h
    rw [wX_findEnds_7]
    exact br_t (by decide) (h en (fun j hj => hen j (Nat.zero_le j) hj))
  | succ i ih =>
    intro en hi hen h
    have hc : (nI i).toNatClampNeg = i := nI_clamp (by omega)
    show wX_findEnds_7 post f_maxChoices f_maxAlloc (nI n) f_stage f_solutions f_failures f_lastKind f_lastValue f_lastChoices f_lastChoiceCount f_lastAllocCount f_steering f_steeringLength f_pathLeft f_failed f_choicesMade f_allocsMade f_visiting f_position f_environment f_resultIsClosure f_resultValue f_depth (i + 1 + 1) (nI i) tk a_args en a_locationVariable a_locationOuter a_locationIsClosure a_locationValue a_closureToken a_closureEnvironment a_frameToken a_frameEnvironment a_frameHasFirst a_frameFirstIsClosure a_frameFirstValue
    rw [wX_findEnds_7]
    refine br_f (nI_pos (by omega)) (nm_r (nI_1 i) ⟨vp_in_nI (by omega) (by decide), am_xar (by rw [hc]) (hK i hi) ⟨am_ar (tk i) + 1, ?_⟩⟩)
    refine am_xfe28 hn hi (am_ar_le (tk i)) (fun j h1 h2 => hen j h1 h2) (am_ar (tk i)) 0 (i + 1) (by omega) (Nat.lt_succ_self i) hi ?_
    refine ih (upd en i (nI (am_it tk n (am_ar (tk i)) (i + 1)))) (by omega) (fun j h1 h2 => ?_) h
    by_cases q : j = i
    · rw [q, am_up_s, am_eN_s hi]
    · rw [am_up_n q]
      exact hen j (by omega) h2
theorem am_xib1 {post : Int32 → Prop} {J : Int32 → Prop} {i p : Nat} {v : Int32} (hn : n ≤ 32) (hi : i < n) (hp : p < i) (hen : ∀ j, j < n → en j = nI (am_eN tk n j)) (hT : am_bq tk ta n i v p = true → post 1) (hF : am_bq tk ta n i v p = false → J (nI (p + 1))) :
    vp_in (nI p) 32 ∧ ((tk (nI p).toNatClampNeg = 11 → wX_isBound_29 post J (nI i) v (nI p) f_maxChoices f_maxAlloc (nI n) f_stage f_solutions f_failures f_lastKind f_lastValue f_lastChoices f_lastChoiceCount f_lastAllocCount f_steering f_steeringLength f_pathLeft f_failed f_choicesMade f_allocsMade f_visiting f_position f_environment f_resultIsClosure f_resultValue f_depth tk ta en a_locationVariable a_locationOuter a_locationIsClosure a_locationValue a_closureToken a_closureEnvironment a_frameToken a_frameEnvironment a_frameHasFirst a_frameFirstIsClosure a_frameFirstValue) ∧ (¬ tk (nI p).toNatClampNeg = 11 → vp_in (nI p) 32 ∧ ((tk (nI p).toNatClampNeg = 12 → wX_isBound_29 post J (nI i) v (nI p) f_maxChoices f_maxAlloc (nI n) f_stage f_solutions f_failures f_lastKind f_lastValue f_lastChoices f_lastChoiceCount f_lastAllocCount f_steering f_steeringLength f_pathLeft f_failed f_choicesMade f_allocsMade f_visiting f_position f_environment f_resultIsClosure f_resultValue f_depth tk ta en a_locationVariable a_locationOuter a_locationIsClosure a_locationValue a_closureToken a_closureEnvironment a_frameToken a_frameEnvironment a_frameHasFirst a_frameFirstIsClosure a_frameFirstValue) ∧ (¬ tk (nI p).toNatClampNeg = 12 → wX_isBound_34 post J (nI i) v (nI p) 0 f_maxChoices f_maxAlloc (nI n) f_stage f_solutions f_failures f_lastKind f_lastValue f_lastChoices f_lastChoiceCount f_lastAllocCount f_steering f_steeringLength f_pathLeft f_failed f_choicesMade f_allocsMade f_visiting f_position f_environment f_resultIsClosure f_resultValue f_depth tk ta en a_locationVariable a_locationOuter a_locationIsClosure a_locationValue a_closureToken a_closureEnvironment a_frameToken a_frameEnvironment a_frameHasFirst a_frameFirstIsClosure a_frameFirstValue)))) := by
  have hc : (nI p).toNatClampNeg = p := nI_clamp (by omega)
  have vv : vp_in (nI p) 32 := vp_in_nI (by omega) (by decide)
  have ee : en (nI p).toNatClampNeg = nI (am_eN tk n p) := by rw [hc]; exact hen p (by omega)
  have b1 : am_eN tk n (p + 1) ≤ n := am_eN_le (by omega)
  have b2 : am_eN tk n p ≤ n := am_eN_le (by omega)
  have v34 : ¬ ta p = v → wX_isBound_34 post J (nI i) v (nI p) 1 f_maxChoices f_maxAlloc (nI n) f_stage f_solutions f_failures f_lastKind f_lastValue f_lastChoices f_lastChoiceCount f_lastAllocCount f_steering f_steeringLength f_pathLeft f_failed f_choicesMade f_allocsMade f_visiting f_position f_environment f_resultIsClosure f_resultValue f_depth tk ta en a_locationVariable a_locationOuter a_locationIsClosure a_locationValue a_closureToken a_closureEnvironment a_frameToken a_frameEnvironment a_frameHasFirst a_frameFirstIsClosure a_frameFirstValue := fun z => br_f (by decide) ⟨vv, br_f (by rw [hc]; exact z) (nm_r (nI_1 p) (hF (am_bq_v z)))⟩
  refine ⟨vv, br_c (fun k => ?_) (fun k => ⟨vv, br_c (fun k2 => ?_) (fun k2 => ?_)⟩)⟩
  · rw [hc] at k
    by_cases a : ta p = v
    · have ea := am_bq_11 (n := n) (i := i) k a
      refine br_f (by decide) ⟨vv, br_t (by rw [hc]; exact a) ⟨vv, br_f (by rw [hc, k]; decide) (am_xend1 hn (by omega) (fun z => hen _ z) (nI_1 p) ?_)⟩⟩
      by_cases c1 : am_eN tk n (p + 1) ≤ i
      · by_cases c2 : i < am_eN tk n p
        · exact br_f (nI_nlt c1 (by omega)) ⟨vv, br_f (by rw [ee]; exact nI_ge c2 (by omega)) (hT (by rw [ea]; exact decide_eq_true ⟨c1, c2⟩))⟩
        · exact br_f (nI_nlt c1 (by omega)) ⟨vv, br_t (by rw [ee]; exact nI_le (by omega) (by omega)) (nm_r (nI_1 p) (hF (by rw [ea]; exact decide_eq_false (fun z => c2 z.2))))⟩
      · exact br_t (nI_lt (by omega) (by omega)) (nm_r (nI_1 p) (hF (by rw [ea]; exact decide_eq_false (fun z => c1 z.1))))
    · exact v34 a
  · rw [hc] at k k2
    by_cases a : ta p = v
    · have ea := am_bq_12 (n := n) (i := i) k2 a
      refine br_f (by decide) ⟨vv, br_t (by rw [hc]; exact a) ⟨vv, br_t (by rw [hc]; exact k2) ?_⟩⟩
      by_cases c2 : i < am_eN tk n p
      · exact br_f (by rw [nI_1]; exact nI_nlt (by omega) (by omega)) ⟨vv, br_f (by rw [ee]; exact nI_ge c2 (by omega)) (hT (by rw [ea]; exact decide_eq_true c2))⟩
      · exact br_f (by rw [nI_1]; exact nI_nlt (by omega) (by omega)) ⟨vv, br_t (by rw [ee]; exact nI_le (by omega) (by omega)) (nm_r (nI_1 p) (hF (by rw [ea]; exact decide_eq_false c2)))⟩
    · exact v34 a
  · rw [hc] at k k2
    exact br_t rfl (nm_r (nI_1 p) (hF (am_bq_k k k2)))
theorem am_xib {post : Int32 → Prop} {i : Nat} {v : Int32} (hn : n ≤ 32) (hi : i < n) (hen : ∀ j, j < n → en j = nI (am_eN tk n j)) : ∀ d p : Nat, p + d = i → post (am_bI (am_an (am_bq tk ta n i v) d p)) → wX_isBound_2 post (nI i) v f_maxChoices f_maxAlloc (nI n) f_stage f_solutions f_failures f_lastKind f_lastValue f_lastChoices f_lastChoiceCount f_lastAllocCount f_steering f_steeringLength f_pathLeft f_failed f_choicesMade f_allocsMade f_visiting f_position f_environment f_resultIsClosure f_resultValue f_depth tk ta en a_locationVariable a_locationOuter a_locationIsClosure a_locationValue a_closureToken a_closureEnvironment a_frameToken a_frameEnvironment a_frameHasFirst a_frameFirstIsClosure a_frameFirstValue (d + 1) (nI p) := by
  intro d
  induction d with
  | zero =>
    intro p hp h
    rw [wX_isBound_2]
    exact br_t (nI_le (by omega) (by omega)) h
  | succ d ih =>
    intro p hp h
    rw [wX_isBound_2]
    refine br_f (nI_ge (by omega) (by omega)) (am_xib1 hn hi (by omega) hen (fun z => ?_) (fun z => ?_))
    · rw [am_an_t z] at h
      exact h
    · rw [am_an_f z] at h
      exact ih (p + 1) (by omega) h
theorem am_xab {post : Int32 → Prop} (hn : n ≤ 32) (hen : ∀ j, j < n → en j = nI (am_eN tk n j)) : ∀ d i : Nat, i + d = n → post (am_bI (am_ab tk ta n d i)) → wX_allBound_2 post f_maxChoices f_maxAlloc (nI n) f_stage f_solutions f_failures f_lastKind f_lastValue f_lastChoices f_lastChoiceCount f_lastAllocCount f_steering f_steeringLength f_pathLeft f_failed f_choicesMade f_allocsMade f_visiting f_position f_environment f_resultIsClosure f_resultValue f_depth tk ta en a_locationVariable a_locationOuter a_locationIsClosure a_locationValue a_closureToken a_closureEnvironment a_frameToken a_frameEnvironment a_frameHasFirst a_frameFirstIsClosure a_frameFirstValue (d + 1) (nI i) := by
  intro d
  induction d with
  | zero =>
    intro i hi h
    rw [wX_allBound_2]
    exact br_t (nI_le (by omega) (by omega)) h
  | succ d ih =>
    intro i hi h
    have hc : (nI i).toNatClampNeg = i := nI_clamp (by omega)
    have vv : vp_in (nI i) 32 := vp_in_nI (by omega) (by decide)
    rw [am_ab_s] at h
    have h31 : (tk i = 1 ∨ tk i = 14) → wX_allBound_31 post (wX_allBound_2 post f_maxChoices f_maxAlloc (nI n) f_stage f_solutions f_failures f_lastKind f_lastValue f_lastChoices f_lastChoiceCount f_lastAllocCount f_steering f_steeringLength f_pathLeft f_failed f_choicesMade f_allocsMade f_visiting f_position f_environment f_resultIsClosure f_resultValue f_depth tk ta en a_locationVariable a_locationOuter a_locationIsClosure a_locationValue a_closureToken a_closureEnvironment a_frameToken a_frameEnvironment a_frameHasFirst a_frameFirstIsClosure a_frameFirstValue (d + 1)) (nI i) f_maxChoices f_maxAlloc (nI n) f_stage f_solutions f_failures f_lastKind f_lastValue f_lastChoices f_lastChoiceCount f_lastAllocCount f_steering f_steeringLength f_pathLeft f_failed f_choicesMade f_allocsMade f_visiting f_position f_environment f_resultIsClosure f_resultValue f_depth tk ta en a_locationVariable a_locationOuter a_locationIsClosure a_locationValue a_closureToken a_closureEnvironment a_frameToken a_frameEnvironment a_frameHasFirst a_frameFirstIsClosure a_frameFirstValue := by
      intro z
      refine ⟨vv, ⟨i + 1, ?_⟩⟩
      rw [hc]
      refine am_xib hn (by omega) hen i 0 (Nat.zero_add i) ?_
      cases ha : am_an (am_bq tk ta n i (ta i)) i 0 with
      | true =>
        rw [if_neg (fun y => absurd (ha.symm.trans y.2) (by decide))] at h
        exact br_f (by decide) (nm_r (nI_1 i) (ih (i + 1) (by omega) h))
      | false =>
        rw [if_pos ⟨z, ha⟩] at h
        exact br_t rfl h
    rw [wX_allBound_2]
    refine br_f (nI_ge (by omega) (by omega)) ⟨vv, br_c (fun k => ?_) (fun k => ⟨vv, br_c (fun k2 => ?_) (fun k2 => ?_)⟩)⟩
    · rw [hc] at k
      exact h31 (Or.inl k)
    · rw [hc] at k2
      exact h31 (Or.inr k2)
    · rw [hc] at k k2
      rw [if_neg (fun y => y.1.elim k k2)] at h
      exact nm_r (nI_1 i) (ih (i + 1) (by omega) h)
end
end
section
/-! the component's methods that the law calls -/
theorem am_V0 (mC mA n : Nat) (tk ta : Nat → Int32) : am_V mC mA n tk ta (fun _ => false) 0 := ⟨Nat.zero_le _, fun _ _ => rfl, Nat.zero_le _⟩
theorem am_V_ov {mC mA n : Nat} {tk ta : Nat → Int32} {b : Nat → Bool} (hA : mA ≤ 16) (hn : n ≤ 32) (h : am_ov b (am_us (am_run n tk ta mC mA b).2.2.2) = false) : am_V mC mA n tk ta (am_nb b (am_us (am_run n tk ta mC mA b).2.2.2)) (am_la b (am_us (am_run n tk ta mC mA b).2.2.2)) := by
  cases hl : am_la b (am_us (am_run n tk ta mC mA b).2.2.2) with
  | zero =>
    rw [am_ov_t hl] at h
    exact absurd h (by decide)
  | succ q =>
    rw [am_nb_q hl]
    exact am_V_nb hA hn hl
theorem am_V_grow {b : Nat → Bool} {k q : Nat} (hk : k ≤ 6) (h : am_la b k = q + 1) : am_nm b 6 < am_nm (am_sb b q) 6 := by
  obtain ⟨h1, h2⟩ := am_la_q _ h
  have g := am_nm_grow (b := b) (c := am_sb b q) (q := q) (fun i hi => (am_sb_lo hi).symm) h2 (am_sb_at b q) (5 - q)
  have e : q + 1 + (5 - q) = 6 := by omega
  rw [e] at g
  exact g
theorem am_clampX {post : Int32 → Prop} {x : Int32} {g : Nat} (hg : 1 ≤ g) (hb : g < 1000) (h : ∀ m : Nat, m ≤ g → (x < 1 → m = 1) → (nI g ≤ x → m = g) → (1 ≤ x → x ≤ nI g → x = nI m) → post (nI m)) : wpX_clamp post () x (nI g) := by
  refine br_c (fun h1 => br_c (fun h2 => ?_) (fun h2 => ?_)) (fun h1 => ?_)
  · have hp : ¬ x < 0 := Int32.not_lt.mpr (Int32.le_trans (by decide) h1)
    obtain ⟨j, hj, rfl⟩ := nI_of hp
    rw [nI_leI hj (by omega)] at h2
    refine h j h2 (fun z => absurd h1 (Int32.not_le.mpr z)) (fun z => ?_) (fun _ _ => rfl)
    rw [nI_leI (by omega) hj] at z
    omega
  · exact h g (Nat.le_refl g) (fun z => absurd h1 (Int32.not_le.mpr z)) (fun _ => rfl) (fun _ z => absurd z h2)
  · have h3 : x < 1 := Int32.not_le.mp h1
    refine h 1 hg (fun _ => rfl) (fun z => ?_) (fun z => absurd z h1)
    have h4 : (1 : Int32) ≤ nI g := nI_le (a := 1) hg (by omega)
    exact absurd (Int32.le_trans h4 z) h1
theorem am_kdOf {x : Int32} (h0 : ¬ x < 0) (h1 : x ≤ 15) : am_kd x := by
  obtain ⟨j, hj, rfl⟩ := nI_of2 (n := 15) (by decide) h0 h1
  have : ∀ j, j < 16 → am_kd (nI j) := by unfold am_kd; decide +kernel
  exact this j (by omega)
section
variable {f_maxChoices f_maxAlloc f_held f_stage f_solutions f_failures f_lastKind f_lastValue f_lastChoices f_lastChoiceCount f_lastAllocCount f_steering f_steeringLength f_pathLeft f_failed f_choicesMade f_allocsMade f_visiting f_position f_environment f_resultIsClosure f_resultValue f_depth : Int32} {a_kinds a_args a_ends a_locationVariable a_locationOuter a_locationIsClosure a_locationValue a_closureToken a_closureEnvironment a_frameToken a_frameEnvironment a_frameHasFirst a_frameFirstIsClosure a_frameFirstValue : Nat → Int32}
theorem am_tok51 {post : Int32 → St2 → Prop} {n : Nat} {x y z r : Int32} (hn : n < 32) (h0 : r = 0 → x = 0 → z = y) (h1 : r = 0 → ¬ x = 0 → z = 0) (h2 : ¬ r = 0 → z = y) (h : post 1 (f_maxChoices, f_maxAlloc, nI (n + 1), f_stage, f_solutions, f_failures, f_lastKind, f_lastValue, f_lastChoices, f_lastChoiceCount, f_lastAllocCount, f_steering, f_steeringLength, f_pathLeft, f_failed, f_choicesMade, f_allocsMade, f_visiting, f_position, f_environment, f_resultIsClosure, f_resultValue, f_depth, upd a_kinds n x, upd a_args n z, a_ends, a_locationVariable, a_locationOuter, a_locationIsClosure, a_locationValue, a_closureToken, a_closureEnvironment, a_frameToken, a_frameEnvironment, a_frameHasFirst, a_frameFirstIsClosure, a_frameFirstValue)) : wX_token_51 post x y r f_maxChoices f_maxAlloc (nI n) f_stage f_solutions f_failures f_lastKind f_lastValue f_lastChoices f_lastChoiceCount f_lastAllocCount f_steering f_steeringLength f_pathLeft f_failed f_choicesMade f_allocsMade f_visiting f_position f_environment f_resultIsClosure f_resultValue f_depth a_kinds a_args a_ends a_locationVariable a_locationOuter a_locationIsClosure a_locationValue a_closureToken a_closureEnvironment a_frameToken a_frameEnvironment a_frameHasFirst a_frameFirstIsClosure a_frameFirstValue := by
  have hc : (nI n).toNatClampNeg = n := nI_clamp (by omega)
  have v : vp_in (nI n) 32 := vp_in_nI hn (by decide)
  refine ⟨v, nm_r (by rw [hc]) (br_c (fun a => br_c (fun c => ?_) (fun c => ?_)) (fun a => ?_))⟩
  · rw [h0 a c] at h
    exact ⟨v, nm_r (by rw [hc]) (nm_r (nI_1 n) h)⟩
  · rw [h1 a c] at h
    exact ⟨v, nm_r (by rw [hc]) (nm_r (nI_1 n) h)⟩
  · rw [h2 a] at h
    exact ⟨v, nm_r (by rw [hc]) (nm_r (nI_1 n) h)⟩
theorem am_xcs {post : Int32 → Prop} {n : Nat} {tk : Nat → Int32} (hn : n ≤ 32) (hK : ∀ i, i < n → am_kd (tk i)) (h0 : n = 0 → post 1) (h1 : ¬ n = 0 → post (nI (am_sh tk n 1 0))) : wpX_checkShape post (f_maxChoices, f_maxAlloc, nI n, f_stage, f_solutions, f_failures, f_lastKind, f_lastValue, f_lastChoices, f_lastChoiceCount, f_lastAllocCount, f_steering, f_steeringLength, f_pathLeft, f_failed, f_choicesMade, f_allocsMade, f_visiting, f_position, f_environment, f_resultIsClosure, f_resultValue, f_depth, tk, a_args, a_ends, a_locationVariable, a_locationOuter, a_locationIsClosure, a_locationValue, a_closureToken, a_closureEnvironment, a_frameToken, a_frameEnvironment, a_frameHasFirst, a_frameFirstIsClosure, a_frameFirstValue) := by
  by_cases q : n = 0
  · exact br_t (by rw [q]; rfl) (h0 q)
  · exact br_f (nI_ne0 (by omega) (by omega)) ⟨n + 1, am_xsh hn hK n 1 0 (Nat.zero_add n) (by omega) (h1 q)⟩
theorem am_xfinds {post : St2 → Prop} {n : Nat} {tk : Nat → Int32} (hn : n ≤ 32) (hK : ∀ i, i < n → am_kd (tk i)) (h : ∀ en' : Nat → Int32, (∀ j, j < n → en' j = nI (am_eN tk n j)) → post (f_maxChoices, f_maxAlloc, nI n, f_stage, f_solutions, f_failures, f_lastKind, f_lastValue, f_lastChoices, f_lastChoiceCount, f_lastAllocCount, f_steering, f_steeringLength, f_pathLeft, f_failed, f_choicesMade, f_allocsMade, f_visiting, f_position, f_environment, f_resultIsClosure, f_resultValue, f_depth, tk, a_args, en', a_locationVariable, a_locationOuter, a_locationIsClosure, a_locationValue, a_closureToken, a_closureEnvironment, a_frameToken, a_frameEnvironment, a_frameHasFirst, a_frameFirstIsClosure, a_frameFirstValue)) : wpX_findEnds post (f_maxChoices, f_maxAlloc, nI n, f_stage, f_solutions, f_failures, f_lastKind, f_lastValue, f_lastChoices, f_lastChoiceCount, f_lastAllocCount, f_steering, f_steeringLength, f_pathLeft, f_failed, f_choicesMade, f_allocsMade, f_visiting, f_position, f_environment, f_resultIsClosure, f_resultValue, f_depth, tk, a_args, a_ends, a_locationVariable, a_locationOuter, a_locationIsClosure, a_locationValue, a_closureToken, a_closureEnvironment, a_frameToken, a_frameEnvironment, a_frameHasFirst, a_frameFirstIsClosure, a_frameFirstValue) := nm_r (am_pI_s n) ⟨n + 1, am_xfe hn hK n a_ends (Nat.le_refl n) (fun j h1 h2 => absurd h2 (Nat.not_lt.mpr h1)) h⟩
end
end
section
/-! p18: the program that the law feeds, and what a path of it does -/
def pe_at (tk ta : Nat → Int32) : Nat → List (Int32 × Int32) → Prop
  | _, [] => True
  | p, (x, y) :: r => (tk p = x ∧ ta p = y) ∧ pe_at tk ta (p + 1) r
theorem pe_at_app {tk ta : Nat → Int32} {l2 : List (Int32 × Int32)} : ∀ (l1 : List (Int32 × Int32)) (p : Nat), pe_at tk ta p (l1 ++ l2) → pe_at tk ta p l1 ∧ pe_at tk ta (p + l1.length) l2 := by
  intro l1
  induction l1 with
  | nil => intro p h; exact ⟨True.intro, h⟩
  | cons z r ih =>
    obtain ⟨x, y⟩ := z
    intro p h
    have h2 : (tk p = x ∧ ta p = y) ∧ pe_at tk ta (p + 1) (r ++ l2) := h
    obtain ⟨i1, i2⟩ := ih (p + 1) h2.2
    refine ⟨⟨h2.1, i1⟩, ?_⟩
    have e : p + ((x, y) :: r).length = p + 1 + r.length := by rw [List.length_cons]; omega
    rw [e]
    exact i2
theorem pe_at_eq {tk ta tk' ta' : Nat → Int32} : ∀ (l : List (Int32 × Int32)) (p : Nat), (∀ i, i < p + l.length → tk' i = tk i ∧ ta' i = ta i) → pe_at tk ta p l → pe_at tk' ta' p l := by
  intro l
  induction l with
  | nil => intro p _ _; exact True.intro
  | cons z r ih =>
    obtain ⟨x, y⟩ := z
    intro p hi h
    have h2 : (tk p = x ∧ ta p = y) ∧ pe_at tk ta (p + 1) r := h
    have hp := hi p (by rw [List.length_cons]; omega)
    exact ⟨⟨by rw [hp.1]; exact h2.1.1, by rw [hp.2]; exact h2.1.2⟩, ih (p + 1) (fun i hl => hi i (by rw [List.length_cons]; omega)) h2.2⟩
theorem pe_at_snoc {tk ta : Nat → Int32} {x y : Int32} : ∀ (l : List (Int32 × Int32)) (p : Nat), pe_at tk ta p l → pe_at (upd tk (p + l.length) x) (upd ta (p + l.length) y) p (l ++ [(x, y)]) := by
  intro l
  induction l with
  | nil => intro p _; exact ⟨⟨am_up_s, am_up_s⟩, True.intro⟩
  | cons z r ih =>
    obtain ⟨x', y'⟩ := z
    intro p h
    have h2 : (tk p = x' ∧ ta p = y') ∧ pe_at tk ta (p + 1) r := h
    have e : p + ((x', y') :: r).length = p + 1 + r.length := by rw [List.length_cons]; omega
    have hne : p ≠ p + 1 + r.length := by omega
    rw [e]
    exact ⟨⟨by rw [am_up_n hne]; exact h2.1.1, by rw [am_up_n hne]; exact h2.1.2⟩, ih (p + 1) h2.2⟩
def pe_W (f : Nat) (w : Int32) : List (Int32 × Int32) := if f = 0 then [(0, w)] else if f = 1 then [(11, 2), (0, w), (1, 2)] else [(15, 0), (14, 1), (2, 0), (1, 1), (0, 1), (0, w)]
def pe_T (k : Nat) (f w : Nat → Nat) (i : Nat) : List (Int32 × Int32) := (if i < k - 1 then [(2, 0)] else []) ++ (8, 0) :: (0, 0) :: pe_W (f i) (nI (w i))
def pe_fl (k : Nat) (f w : Nat → Nat) : Nat → List (Int32 × Int32)
  | 0 => [(11, 1), (0, 0), (11, 0)]
  | i + 1 => pe_fl k f w i ++ pe_T k f w i
def pe_E (c : Nat) : List (Int32 × Int32) := [(10, 0), (5, 0), (1, 0), (0, nI c), (2, 0), (1, 0), (1, 1)]
/-- where the i-th part begins -/
def pe_P (k : Nat) (f w : Nat → Nat) (i : Nat) : Nat := (pe_fl k f w i).length
section
variable {n : Nat} {tk ta : Nat → Int32} {mC mA : Nat} {b : Nat → Bool} {F p : Nat} {e : Int32} {s : am_S}
theorem pe_v0 (hp : p < n) (hk : tk p = 0) : am_ev n tk ta mC mA b (F + 1) p e s = (true, 1, ta p, s) := by
  rw [am_ev_s]
  unfold am_stp
  rw [if_neg (Nat.not_le.mpr hp), if_pos hk]
theorem pe_v1 (hp : p < n) (hk : tk p = 1) : am_ev n tk ta mC mA b (F + 1) p e s = am_rd (am_lk s (ta p) 17 e) s := by
  rw [am_ev_s]
  unfold am_stp
  rw [if_neg (Nat.not_le.mpr hp), if_neg (show ¬ tk p = 0 by rw [hk]; decide), if_pos hk]
theorem pe_v2 (hp : p < n) (hk : tk p = 2) : am_ev n tk ta mC mA b (F + 1) p e s = am_e2 n tk (am_ev n tk ta mC mA b F) p e s := by
  rw [am_ev_s]
  unfold am_stp
  rw [if_neg (Nat.not_le.mpr hp), if_neg (show ¬ tk p = 0 by rw [hk]; decide), if_neg (show ¬ tk p = 1 by rw [hk]; decide), if_neg (show ¬ tk p = 7 by rw [hk]; decide), if_neg (show ¬ tk p = 8 by rw [hk]; decide), if_neg (show ¬ tk p = 9 by rw [hk]; decide), if_neg (show ¬ tk p = 10 by rw [hk]; decide), if_neg (show ¬ tk p = 11 by rw [hk]; decide), if_neg (show ¬ tk p = 12 by rw [hk]; decide), if_neg (show ¬ tk p = 13 by rw [hk]; decide), if_neg (show ¬ tk p = 14 by rw [hk]; decide), if_neg (show ¬ tk p = 15 by rw [hk]; decide)]
theorem pe_v5 (hp : p < n) (hk : tk p = 5) : am_ev n tk ta mC mA b (F + 1) p e s = am_e2 n tk (am_ev n tk ta mC mA b F) p e s := by
  rw [am_ev_s]
  unfold am_stp
  rw [if_neg (Nat.not_le.mpr hp), if_neg (show ¬ tk p = 0 by rw [hk]; decide), if_neg (show ¬ tk p = 1 by rw [hk]; decide), if_neg (show ¬ tk p = 7 by rw [hk]; decide), if_neg (show ¬ tk p = 8 by rw [hk]; decide), if_neg (show ¬ tk p = 9 by rw [hk]; decide), if_neg (show ¬ tk p = 10 by rw [hk]; decide), if_neg (show ¬ tk p = 11 by rw [hk]; decide), if_neg (show ¬ tk p = 12 by rw [hk]; decide), if_neg (show ¬ tk p = 13 by rw [hk]; decide), if_neg (show ¬ tk p = 14 by rw [hk]; decide), if_neg (show ¬ tk p = 15 by rw [hk]; decide)]
theorem pe_v8 (hp : p < n) (hk : tk p = 8) : am_ev n tk ta mC mA b (F + 1) p e s = am_e8 n tk mC b (am_ev n tk ta mC mA b F) p e s := by
  rw [am_ev_s]
  unfold am_stp
  rw [if_neg (Nat.not_le.mpr hp), if_neg (show ¬ tk p = 0 by rw [hk]; decide), if_neg (show ¬ tk p = 1 by rw [hk]; decide), if_neg (show ¬ tk p = 7 by rw [hk]; decide), if_pos hk]
theorem pe_v10 (hp : p < n) (hk : tk p = 10) : am_ev n tk ta mC mA b (F + 1) p e s = am_e10 n tk (am_ev n tk ta mC mA b F) p e s := by
  rw [am_ev_s]
  unfold am_stp
  rw [if_neg (Nat.not_le.mpr hp), if_neg (show ¬ tk p = 0 by rw [hk]; decide), if_neg (show ¬ tk p = 1 by rw [hk]; decide), if_neg (show ¬ tk p = 7 by rw [hk]; decide), if_neg (show ¬ tk p = 8 by rw [hk]; decide), if_neg (show ¬ tk p = 9 by rw [hk]; decide), if_pos hk]
theorem pe_v11 (hp : p < n) (hk : tk p = 11) : am_ev n tk ta mC mA b (F + 1) p e s = am_e11 n tk ta mA (am_ev n tk ta mC mA b F) p e s := by
  rw [am_ev_s]
  unfold am_stp
  rw [if_neg (Nat.not_le.mpr hp), if_neg (show ¬ tk p = 0 by rw [hk]; decide), if_neg (show ¬ tk p = 1 by rw [hk]; decide), if_neg (show ¬ tk p = 7 by rw [hk]; decide), if_neg (show ¬ tk p = 8 by rw [hk]; decide), if_neg (show ¬ tk p = 9 by rw [hk]; decide), if_neg (show ¬ tk p = 10 by rw [hk]; decide), if_pos hk]
theorem pe_v14 (hp : p < n) (hk : tk p = 14) : am_ev n tk ta mC mA b (F + 1) p e s = am_e14 ta (am_ev n tk ta mC mA b F) p e s := by
  rw [am_ev_s]
  unfold am_stp
  rw [if_neg (Nat.not_le.mpr hp), if_neg (show ¬ tk p = 0 by rw [hk]; decide), if_neg (show ¬ tk p = 1 by rw [hk]; decide), if_neg (show ¬ tk p = 7 by rw [hk]; decide), if_neg (show ¬ tk p = 8 by rw [hk]; decide), if_neg (show ¬ tk p = 9 by rw [hk]; decide), if_neg (show ¬ tk p = 10 by rw [hk]; decide), if_neg (show ¬ tk p = 11 by rw [hk]; decide), if_neg (show ¬ tk p = 12 by rw [hk]; decide), if_neg (show ¬ tk p = 13 by rw [hk]; decide), if_pos hk]
theorem pe_v15 (hp : p < n) (hk : tk p = 15) : am_ev n tk ta mC mA b (F + 1) p e s = am_e15 n tk (am_ev n tk ta mC mA b F) p e s := by
  rw [am_ev_s]
  unfold am_stp
  rw [if_neg (Nat.not_le.mpr hp), if_neg (show ¬ tk p = 0 by rw [hk]; decide), if_neg (show ¬ tk p = 1 by rw [hk]; decide), if_neg (show ¬ tk p = 7 by rw [hk]; decide), if_neg (show ¬ tk p = 8 by rw [hk]; decide), if_neg (show ¬ tk p = 9 by rw [hk]; decide), if_neg (show ¬ tk p = 10 by rw [hk]; decide), if_neg (show ¬ tk p = 11 by rw [hk]; decide), if_neg (show ¬ tk p = 12 by rw [hk]; decide), if_neg (show ¬ tk p = 13 by rw [hk]; decide), if_neg (show ¬ tk p = 14 by rw [hk]; decide), if_pos hk]
end
/-- a store with variable 1 at location 0 and no closures -/
def pe_G (s : am_S) (A c : Nat) : Prop := am_nc s = 0 ∧ am_nf s = A ∧ 1 ≤ A ∧ A ≤ 16 ∧ am_fVar s 0 = 1 ∧ am_fPar s 0 = -1 ∧ am_fK s 0 = 1 ∧ am_fV s 0 = nI c
theorem pe_G_al {s : am_S} {A c : Nat} (h : pe_G s A c) : am_al s = A := by
  unfold am_al
  rw [h.1, h.2.1]
  rfl
theorem pe_G_nl {s : am_S} {A c : Nat} {x e k v : Int32} (h : pe_G s A c) (hA : A < 16) : pe_G (am_nl x e k v s) (A + 1) c := by
  obtain ⟨h1, h2, h3, h4, h5, h6, h7, h8⟩ := h
  have hne : (0 : Nat) ≠ am_nf s := by omega
  refine ⟨h1, ?_, by omega, by omega, ?_, ?_, ?_, ?_⟩
  · show am_nf s + 1 = A + 1
    rw [h2]
  · show upd (am_fVar s) (am_nf s) x 0 = 1
    rw [am_up_n hne]; exact h5
  · show upd (am_fPar s) (am_nf s) e 0 = -1
    rw [am_up_n hne]; exact h6
  · show upd (am_fK s) (am_nf s) k 0 = 1
    rw [am_up_n hne]; exact h7
  · show upd (am_fV s) (am_nf s) v 0 = nI c
    rw [am_up_n hne]; exact h8
theorem pe_G_sl {s : am_S} {A c c' : Nat} (h : pe_G s A c) : pe_G (am_sl 0 1 (nI c') s) A c' := by
  obtain ⟨h1, h2, h3, h4, h5, h6, h7, h8⟩ := h
  exact ⟨h1, h2, h3, h4, h5, h6, show upd (am_fK s) 0 1 0 = 1 from am_up_s, show upd (am_fV s) 0 (nI c') 0 = nI c' from am_up_s⟩
/-- variable 1 is at location 0 -/
theorem pe_lk1 {s : am_S} {A c : Nat} (h : pe_G s A c) (k : Nat) : am_lk s 1 (k + 1) (nI 0) = nI 0 := by
  rw [am_lk_s, if_neg (nI_pos (by omega)), nI_clamp (by omega), if_pos h.2.2.2.2.1]
theorem pe_rd1 {s : am_S} {A c : Nat} (h : pe_G s A c) : am_rd (nI 0) s = (true, 1, nI c, s) := by
  unfold am_rd
  rw [if_neg (nI_pos (by omega)), nI_clamp (by omega), h.2.2.2.2.2.2.1, h.2.2.2.2.2.2.2]
/-- a location just made -/
theorem pe_lkn {x e k v : Int32} {s : am_S} {A c : Nat} (h : pe_G s A c) (j : Nat) : am_lk (am_nl x e k v s) x (j + 1) (nI (am_nf s)) = nI (am_nf s) := by
  have hb : am_nf s < 2 ^ 31 := by have := h.2.1; have := h.2.2.2.1; omega
  have e1 : am_fVar (am_nl x e k v s) (am_nf s) = x := am_up_s
  rw [am_lk_s, if_neg (nI_pos hb), nI_clamp hb, if_pos e1]
theorem pe_rdn {x e k v : Int32} {s : am_S} {A c : Nat} (h : pe_G s A c) : am_rd (nI (am_nf s)) (am_nl x e k v s) = (true, k, v, am_nl x e k v s) := by
  have hb : am_nf s < 2 ^ 31 := by have := h.2.1; have := h.2.2.2.1; omega
  have e1 : am_fK (am_nl x e k v s) (am_nf s) = k := am_up_s
  have e2 : am_fV (am_nl x e k v s) (am_nf s) = v := am_up_s
  unfold am_rd
  rw [if_neg (nI_pos hb), nI_clamp hb, e1, e2]
theorem pe_tf : ¬ (true = false) := by decide
theorem pe_ft : ¬ (false = true) := by decide
/-- one choice: goes on?, choices, locations, counter, weight -/
def pe_M1 (mC mA : Nat) (f w : Nat) (x : Bool) (i A c : Nat) : Bool × Nat × Nat × Nat × Nat :=
  if mC ≤ i then (false, i, A, c, 0) else if x = true then (if f = 0 then (true, i + 1, A, c, w) else if f = 1 then (if mA ≤ A then (false, i + 1, A, c, 0) else (true, i + 1, A + 1, c, w)) else (true, i + 1, A, c + 1, w)) else (true, i + 1, A, c, 0)
def pe_M (mC mA : Nat) (f w : Nat → Nat) (b : Nat → Bool) : Nat → Nat → Nat → Nat → Nat → Bool × Nat × Nat × Nat × Nat
  | 0, i, A, c, t => (true, i, A, c, t)
  | r + 1, i, A, c, t => if (pe_M1 mC mA (f i) (w i) (b i) i A c).1 = true then pe_M mC mA f w b r (i + 1) (pe_M1 mC mA (f i) (w i) (b i) i A c).2.2.1 (pe_M1 mC mA (f i) (w i) (b i) i A c).2.2.2.1 (t + (pe_M1 mC mA (f i) (w i) (b i) i A c).2.2.2.2) else (false, (pe_M1 mC mA (f i) (w i) (b i) i A c).2.1, A, c, t)
theorem pe_M_s (mC mA : Nat) (f w : Nat → Nat) (b : Nat → Bool) (r i A c t : Nat) : pe_M mC mA f w b (r + 1) i A c t = if (pe_M1 mC mA (f i) (w i) (b i) i A c).1 = true then pe_M mC mA f w b r (i + 1) (pe_M1 mC mA (f i) (w i) (b i) i A c).2.2.1 (pe_M1 mC mA (f i) (w i) (b i) i A c).2.2.2.1 (t + (pe_M1 mC mA (f i) (w i) (b i) i A c).2.2.2.2) else (false, (pe_M1 mC mA (f i) (w i) (b i) i A c).2.1, A, c, t) := rfl
section
variable {n : Nat} {tk ta : Nat → Int32} {mC mA : Nat} {b : Nat → Bool} {s : am_S} {A c : Nat}
theorem pe_eN0 {p : Nat} (hp : p < n) (hk : tk p = 0) : am_eN tk n p = p + 1 := am_eN_0 hp (by rw [hk]; decide)
theorem pe_eN1 {p : Nat} (hp : p < n) (hk : tk p = 1) : am_eN tk n p = p + 1 := am_eN_0 hp (by rw [hk]; decide)
theorem pe_eNW {f q : Nat} {w : Int32} (h : pe_at tk ta q (pe_W f w)) (hn : q + (pe_W f w).length ≤ n) : am_eN tk n q = q + (pe_W f w).length := by
  unfold pe_W at h hn ⊢
  by_cases f0 : f = 0
  · rw [if_pos f0] at h hn ⊢
    obtain ⟨⟨a1, _⟩, _⟩ := h
    exact pe_eN0 (by have : q + 1 ≤ n := hn; omega) a1
  rw [if_neg f0] at h hn ⊢
  by_cases f1 : f = 1
  · rw [if_pos f1] at h hn ⊢
    have hn3 : q + 3 ≤ n := hn
    obtain ⟨⟨a1, _⟩, ⟨a2, _⟩, ⟨a3, _⟩, _⟩ := h
    rw [am_eN_2 (by omega) (by rw [a1]; decide), pe_eN0 (by omega) a2, pe_eN1 (by omega) a3]
    rfl
  · rw [if_neg f1] at h hn ⊢
    have hn6 : q + 6 ≤ n := hn
    obtain ⟨⟨a1, _⟩, ⟨a2, _⟩, ⟨a3, _⟩, ⟨a4, _⟩, ⟨a5, _⟩, ⟨a6, _⟩, _⟩ := h
    rw [am_eN_2 (by omega) (by rw [a1]; decide), am_eN_1 (p := q + 1) (by omega) (by rw [a2]; decide), am_eN_2 (p := q + 1 + 1) (by omega) (by rw [a3]; decide), pe_eN1 (by omega) a4, pe_eN0 (by omega) a5, pe_eN0 (by omega) a6]
    rfl
/-- the second alternative -/
theorem pe_evW {f w q F : Nat} (h : pe_at tk ta q (pe_W f (nI w))) (hn : q + (pe_W f (nI w)).length ≤ n) (g : pe_G s A c) (h16 : mA ≤ 16) :
    (f = 1 → mA ≤ A → am_ev n tk ta mC mA b (F + 6) q (nI 0) s = am_fl s) ∧
    (¬ (f = 1 ∧ mA ≤ A) → ∃ s', am_ev n tk ta mC mA b (F + 6) q (nI 0) s = (true, 1, nI w, s') ∧ am_us s' = am_us s ∧ pe_G s' (if f = 1 then A + 1 else A) (if f = 0 then c else if f = 1 then c else c + 1)) := by
  unfold pe_W at h hn
  by_cases f0 : f = 0
  · rw [if_pos f0] at h hn
    have hn1 : q + 1 ≤ n := hn
    obtain ⟨⟨a1, t1⟩, _⟩ := h
    refine ⟨fun z => absurd (f0.symm.trans z) (by decide), fun _ => ⟨s, ?_, rfl, ?_⟩⟩
    · rw [pe_v0 (by omega) a1, t1]
    · rw [if_pos f0, if_neg (by omega)]
      exact g
  rw [if_neg f0] at h hn
  by_cases f1 : f = 1
  · rw [if_pos f1] at h hn
    have hn3 : q + 3 ≤ n := hn
    obtain ⟨⟨a1, t1⟩, ⟨a2, t2⟩, ⟨a3, t3⟩, _⟩ := h
    have ea : am_ev n tk ta mC mA b (F + 6) q (nI 0) s = am_c11 n tk ta mA (am_ev n tk ta mC mA b (F + 5)) q (nI 0) 1 (nI w) s := by
      rw [pe_v11 (by omega) a1]
      unfold am_e11
      rw [pe_v0 (F := F + 4) (by omega) a2, t2]
      rfl
    have e2 : am_eN tk n (q + 1) = q + 2 := pe_eN0 (by omega) a2
    refine ⟨fun _ hm => ?_, fun hm => ⟨am_nl 2 (nI 0) 1 (nI w) s, ?_, rfl, ?_⟩⟩
    · rw [ea]
      unfold am_c11
      rw [if_pos (by rw [pe_G_al g]; exact hm)]
    · have hm' : ¬ mA ≤ am_al s := by rw [pe_G_al g]; exact fun z => hm ⟨f1, z⟩
      rw [ea]
      unfold am_c11
      rw [if_neg hm', e2, t1, pe_v1 (F := F + 4) (by omega) a3, t3, pe_lkn g 16, pe_rdn g]
    · rw [if_pos f1, if_neg f0, if_pos f1]
      exact pe_G_nl g (by have : ¬ mA ≤ A := fun z => hm ⟨f1, z⟩; omega)
  · rw [if_neg f1] at h hn
    have hn6 : q + 6 ≤ n := hn
    obtain ⟨⟨a1, _⟩, ⟨a2, t2⟩, ⟨a3, _⟩, ⟨a4, t4⟩, ⟨a5, t5⟩, ⟨a6, t6⟩, _⟩ := h
    have e4 : am_eN tk n (q + 3) = q + 4 := pe_eN1 (by omega) a4
    have e5 : am_eN tk n (q + 4) = q + 5 := pe_eN0 (by omega) a5
    have e3 : am_eN tk n (q + 2) = q + 5 := by rw [am_eN_2 (by omega) (by rw [a3]; decide), e4, e5]
    have e2 : am_eN tk n (q + 1) = q + 5 := by rw [am_eN_1 (by omega) (by rw [a2]; decide), e3]
    have l1 : am_lk s 1 17 (nI 0) = nI 0 := pe_lk1 g 16
    have s3 : am_ev n tk ta mC mA b (F + 4) (q + 2) (nI 0) s = (true, 1, nI (c + 1), s) := by
      rw [pe_v2 (F := F + 3) (by omega) a3]
      unfold am_e2
      rw [pe_v1 (F := F + 2) (by omega) a4, t4, l1, pe_rd1 g, am_bd_t rfl]
      unfold am_c2
      rw [e4, pe_v0 (F := F + 2) (by omega) a5, t5, am_bd_t rfl]
      unfold am_ca
      rw [if_pos ⟨rfl, rfl⟩, a3]
      show (true, (1 : Int32), nI c + 1, s) = (true, 1, nI (c + 1), s)
      rw [nI_1]
    have s2 : am_ev n tk ta mC mA b (F + 5) (q + 1) (nI 0) s = (true, 1, nI (c + 1), am_sl 0 1 (nI (c + 1)) s) := by
      rw [pe_v14 (F := F + 4) (by omega) a2]
      unfold am_e14
      rw [s3, am_bd_t rfl]
      unfold am_c14 am_wr
      rw [t2, l1, if_neg (nI_pos (by omega)), nI_clamp (by omega)]
    refine ⟨fun z => absurd z f1, fun _ => ⟨am_sl 0 1 (nI (c + 1)) s, ?_, rfl, ?_⟩⟩
    · rw [pe_v15 (by omega) a1]
      unfold am_e15
      rw [s2, am_bd_t rfl]
      unfold am_c15
      rw [e2, pe_v0 (F := F + 4) (by omega) a6, t6]
    · rw [if_neg f1, if_neg f0, if_neg f1]
      exact pe_G_sl g
theorem pe_G_tick (g : pe_G s A c) : pe_G (am_tick s) A c := g
/-- a choice -/
theorem pe_amb {f w p F i : Nat} (h : pe_at tk ta p ((8, 0) :: (0, 0) :: pe_W f (nI w))) (hn : p + 2 + (pe_W f (nI w)).length ≤ n) (g : pe_G s A c) (h16 : mA ≤ 16) (hu : am_us s = i) :
    ((pe_M1 mC mA f w (b i) i A c).1 = false → (am_ev n tk ta mC mA b (F + 7) p (nI 0) s).1 = false ∧ am_us (am_ev n tk ta mC mA b (F + 7) p (nI 0) s).2.2.2 = (pe_M1 mC mA f w (b i) i A c).2.1) ∧
    ((pe_M1 mC mA f w (b i) i A c).1 = true → ∃ s', am_ev n tk ta mC mA b (F + 7) p (nI 0) s = (true, 1, nI (pe_M1 mC mA f w (b i) i A c).2.2.2.2, s') ∧ am_us s' = i + 1 ∧ pe_G s' (pe_M1 mC mA f w (b i) i A c).2.2.1 (pe_M1 mC mA f w (b i) i A c).2.2.2.1) := by
  obtain ⟨⟨a1, _⟩, ⟨a2, t2⟩, hW⟩ := h
  have ev : am_ev n tk ta mC mA b (F + 7) p (nI 0) s = am_e8 n tk mC b (am_ev n tk ta mC mA b (F + 6)) p (nI 0) s := pe_v8 (by omega) a1
  have e1 : am_eN tk n (p + 1) = p + 2 := pe_eN0 (by omega) a2
  unfold am_e8 at ev
  rw [hu] at ev
  unfold pe_M1
  by_cases m : mC ≤ i
  · rw [if_pos m] at ev ⊢
    rw [ev]
    exact ⟨fun _ => ⟨rfl, hu⟩, fun z => absurd z pe_ft⟩
  rw [if_neg m] at ev ⊢
  have hut : am_us (am_tick s) = i + 1 := by rw [← hu]; rfl
  cases hb : b i with
  | false =>
    have eq : am_q8 n tk p false = p + 1 := if_neg (by decide)
    rw [hb, eq, pe_v0 (F := F + 5) (by omega) a2, t2] at ev
    rw [if_neg (by decide)]
    exact ⟨fun z => absurd z pe_tf, fun _ => ⟨am_tick s, ev, hut, pe_G_tick g⟩⟩
  | true =>
    have eq : am_q8 n tk p true = p + 2 := by unfold am_q8; rw [if_pos rfl, e1]
    rw [hb, eq] at ev
    rw [if_pos rfl]
    obtain ⟨w1, w2⟩ := pe_evW (n := n) (mC := mC) (b := b) (F := F) hW hn (pe_G_tick g) h16
    by_cases f0 : f = 0
    · rw [if_pos f0]
      obtain ⟨s', z1, z2, z3⟩ := w2 (by omega)
      rw [if_neg (by omega), if_pos f0] at z3
      exact ⟨fun z => absurd z pe_tf, fun _ => ⟨s', ev.trans z1, z2.trans hut, z3⟩⟩
    rw [if_neg f0]
    by_cases f1 : f = 1
    · rw [if_pos f1]
      by_cases ma : mA ≤ A
      · rw [if_pos ma]
        have z1 := ev.trans (w1 f1 ma)
        rw [z1]
        exact ⟨fun _ => ⟨rfl, hut⟩, fun z => absurd z pe_ft⟩
      · rw [if_neg ma]
        obtain ⟨s', z1, z2, z3⟩ := w2 (fun z => ma z.2)
        rw [if_pos f1, if_neg f0, if_pos f1] at z3
        exact ⟨fun z => absurd z pe_tf, fun _ => ⟨s', ev.trans z1, z2.trans hut, z3⟩⟩
    · rw [if_neg f1]
      obtain ⟨s', z1, z2, z3⟩ := w2 (fun z => f1 z.1)
      rw [if_neg f1, if_neg f0, if_neg f1] at z3
      exact ⟨fun z => absurd z pe_tf, fun _ => ⟨s', ev.trans z1, z2.trans hut, z3⟩⟩
end
theorem pe_P_s (k : Nat) (f w : Nat → Nat) (i : Nat) : pe_P k f w (i + 1) = pe_P k f w i + (pe_T k f w i).length := by
  unfold pe_P
  show (pe_fl k f w i ++ pe_T k f w i).length = _
  rw [List.length_append]
theorem pe_T_in {k : Nat} {f w : Nat → Nat} {i : Nat} (h : i < k - 1) : pe_T k f w i = (2, 0) :: (8, 0) :: (0, 0) :: pe_W (f i) (nI (w i)) := by
  unfold pe_T
  rw [if_pos h]
  rfl
theorem pe_T_last {k : Nat} {f w : Nat → Nat} {i : Nat} (h : ¬ i < k - 1) : pe_T k f w i = (8, 0) :: (0, 0) :: pe_W (f i) (nI (w i)) := by
  unfold pe_T
  rw [if_neg h]
  rfl
section
variable {n : Nat} {tk ta : Nat → Int32} {mC mA : Nat} {b : Nat → Bool} {k : Nat} {f w : Nat → Nat}
theorem pe_eNA {p f w : Nat} (h : pe_at tk ta p ((8, 0) :: (0, 0) :: pe_W f (nI w))) (hn : p + 2 + (pe_W f (nI w)).length ≤ n) : am_eN tk n p = p + 2 + (pe_W f (nI w)).length := by
  obtain ⟨⟨a1, _⟩, ⟨a2, _⟩, hW⟩ := h
  rw [am_eN_2 (by omega) (by rw [a1]; decide), pe_eN0 (by omega) a2]
  exact pe_eNW hW hn
theorem pe_P_le : ∀ d i : Nat, pe_P k f w i ≤ pe_P k f w (i + d) := by
  intro d
  induction d with
  | zero => intro i; exact Nat.le_refl _
  | succ d ih =>
    intro i
    have h := ih i
    have e : i + (d + 1) = i + d + 1 := by omega
    rw [e, pe_P_s]
    omega
/-- the sum from its i-th part on -/
theorem pe_sum (h16 : mA ≤ 16) (hT : ∀ i, i < k → pe_at tk ta (pe_P k f w i) (pe_T k f w i)) (hn : pe_P k f w k ≤ n) : ∀ (r i : Nat), i + r + 1 = k →
    am_eN tk n (pe_P k f w i) = pe_P k f w k ∧ ∀ (F A c t0 : Nat) (s : am_S), pe_G s A c → am_us s = i →
    ((pe_M mC mA f w b (r + 1) i A c t0).1 = false → (am_ev n tk ta mC mA b (F + r + 8) (pe_P k f w i) (nI 0) s).1 = false ∧ am_us (am_ev n tk ta mC mA b (F + r + 8) (pe_P k f w i) (nI 0) s).2.2.2 = (pe_M mC mA f w b (r + 1) i A c t0).2.1) ∧
    ((pe_M mC mA f w b (r + 1) i A c t0).1 = true → ∃ (s' : am_S) (t : Nat), am_ev n tk ta mC mA b (F + r + 8) (pe_P k f w i) (nI 0) s = (true, 1, nI t, s') ∧ am_us s' = k ∧ pe_G s' (pe_M mC mA f w b (r + 1) i A c t0).2.2.1 (pe_M mC mA f w b (r + 1) i A c t0).2.2.2.1 ∧ (pe_M mC mA f w b (r + 1) i A c t0).2.2.2.2 = t0 + t) := by
  intro r
  induction r with
  | zero =>
    intro i hi
    have hl : ¬ i < k - 1 := by omega
    have h := hT i (by omega)
    have hP := pe_P_s k f w i
    have ek : i + 1 = k := by omega
    rw [ek, pe_T_last hl, List.length_cons, List.length_cons] at hP
    rw [pe_T_last hl] at h
    refine ⟨?_, fun F A c t0 s g hu => ?_⟩
    · rw [pe_eNA h (by omega)]
      omega
    · obtain ⟨q1, q2⟩ := pe_amb (n := n) (mC := mC) (b := b) (F := F + 1) h (by omega) g h16 hu
      rw [pe_M_s]
      have eF : F + 0 + 8 = F + 1 + 7 := by omega
      rw [eF]
      cases h1 : (pe_M1 mC mA (f i) (w i) (b i) i A c).1 with
      | false =>
        rw [if_neg (by decide)]
        exact ⟨fun _ => q1 h1, fun z => absurd z pe_ft⟩
      | true =>
        rw [if_pos rfl]
        obtain ⟨s', z1, z2, z3⟩ := q2 h1
        exact ⟨fun z => absurd z (by show ¬ (true = false); decide), fun _ => ⟨s', _, z1, z2.trans ek, z3, rfl⟩⟩
  | succ r ih =>
    intro i hi
    have hl : i < k - 1 := by omega
    have h := hT i (by omega)
    have hP := pe_P_s k f w i
    have hPk := pe_P_le (k := k) (f := f) (w := w) (k - (i + 1)) (i + 1)
    have ek : i + 1 + (k - (i + 1)) = k := by omega
    rw [ek] at hPk
    rw [pe_T_in hl, List.length_cons, List.length_cons, List.length_cons] at hP
    rw [pe_T_in hl] at h
    obtain ⟨⟨a0, _⟩, hA⟩ := h
    obtain ⟨i1, i2⟩ := ih (i + 1) (by omega)
    have e1 : am_eN tk n (pe_P k f w i + 1) = pe_P k f w (i + 1) := by
      rw [pe_eNA hA (by omega)]
      omega
    refine ⟨?_, fun F A c t0 s g hu => ?_⟩
    · rw [am_eN_2 (by omega) (by rw [a0]; decide), e1, i1]
    · obtain ⟨q1, q2⟩ := pe_amb (n := n) (mC := mC) (b := b) (F := F + r + 1) hA (by omega) g h16 hu
      have eF : F + (r + 1) + 8 = (F + r + 8) + 1 := by omega
      have eF2 : F + r + 1 + 7 = F + r + 8 := by omega
      rw [eF2] at q1 q2
      have ev : am_ev n tk ta mC mA b (F + (r + 1) + 8) (pe_P k f w i) (nI 0) s = am_bd (am_ev n tk ta mC mA b (F + r + 8) (pe_P k f w i + 1) (nI 0) s) (am_c2 n tk (am_ev n tk ta mC mA b (F + r + 8)) (pe_P k f w i) (nI 0)) := by
        rw [eF, pe_v2 (by omega) a0]
        rfl
      rw [ev, pe_M_s]
      cases h1 : (pe_M1 mC mA (f i) (w i) (b i) i A c).1 with
      | false =>
        obtain ⟨z1, z2⟩ := q1 h1
        rw [if_neg (by decide), am_bd_f z1]
        exact ⟨fun _ => ⟨rfl, z2⟩, fun z => absurd z pe_ft⟩
      | true =>
        obtain ⟨s1, z1, z2, z3⟩ := q2 h1
        rw [if_pos rfl, z1, am_bd_t rfl]
        unfold am_c2
        rw [e1]
        obtain ⟨j1, j2⟩ := i2 F _ _ (t0 + (pe_M1 mC mA (f i) (w i) (b i) i A c).2.2.2.2) s1 z3 z2
        refine ⟨fun hf => ?_, fun ht => ?_⟩
        · obtain ⟨y1, y2⟩ := j1 hf
          rw [am_bd_f y1]
          exact ⟨rfl, y2⟩
        · obtain ⟨s2, t, y1, y2, y3, y4⟩ := j2 ht
          refine ⟨s2, (pe_M1 mC mA (f i) (w i) (b i) i A c).2.2.2.2 + t, ?_, y2, y3, by rw [y4]; omega⟩
          rw [y1, am_bd_t rfl]
          unfold am_ca
          rw [if_pos ⟨rfl, rfl⟩, a0]
          show (true, (1 : Int32), nI (pe_M1 mC mA (f i) (w i) (b i) i A c).2.2.2.2 + nI t, s2) = _
          rw [nI_add]
end
end
section
/-! p18: a path of the law's program -/
theorem pe_at_fl {tk ta : Nat → Int32} {k : Nat} {f w : Nat → Nat} : ∀ j : Nat, pe_at tk ta 0 (pe_fl k f w j) → (∀ i, i < j → pe_at tk ta (pe_P k f w i) (pe_T k f w i)) ∧ pe_at tk ta 0 (pe_fl k f w 0) := by
  intro j
  induction j with
  | zero => intro h; exact ⟨fun i hi => absurd hi (Nat.not_lt_zero i), h⟩
  | succ j ih =>
    intro h
    have h2 : pe_at tk ta 0 (pe_fl k f w j ++ pe_T k f w j) := h
    obtain ⟨x, y⟩ := pe_at_app _ _ h2
    obtain ⟨i1, i2⟩ := ih x
    refine ⟨fun i hi => ?_, i2⟩
    by_cases q : i = j
    · subst q
      rw [Nat.zero_add] at y
      exact y
    · exact i1 i (by omega)
theorem pe_lk0 {s : am_S} {A c : Nat} {v : Int32} (g : pe_G s A c) (hA : A < 16) : am_lk (am_nl 0 (nI 0) 1 v s) 1 17 (nI (am_nf s)) = nI 0 := by
  have hb : am_nf s < 2 ^ 31 := by have := g.2.1; omega
  have e1 : am_fVar (am_nl 0 (nI 0) 1 v s) (am_nf s) = 0 := am_up_s
  have e2 : am_fPar (am_nl 0 (nI 0) 1 v s) (am_nf s) = nI 0 := am_up_s
  rw [am_lk_s, if_neg (nI_pos hb), nI_clamp hb, e1, if_neg (by decide), e2]
  exact pe_lk1 (pe_G_nl g hA) 15
section
variable {n : Nat} {tk ta : Nat → Int32} {mC mA : Nat} {b : Nat → Bool} {k c : Nat} {f w : Nat → Nat}
/-- behind the sum -/
theorem pe_tail {A cn t q F : Nat} {s : am_S} (h : pe_at tk ta q (pe_E c)) (hn : q + 7 ≤ n) (hc : c < 2 ^ 31) (ht : t < 2 ^ 31) (g : pe_G s A cn) (hA : A < 16) :
    (c ≤ t → am_ev n tk ta mC mA b (F + 4) q (nI (am_nf s)) (am_nl 0 (nI 0) 1 (nI t) s) = am_fl (am_nl 0 (nI 0) 1 (nI t) s)) ∧
    (t < c → am_ev n tk ta mC mA b (F + 4) q (nI (am_nf s)) (am_nl 0 (nI 0) 1 (nI t) s) = (true, 1, nI (t + cn), am_nl 0 (nI 0) 1 (nI t) s)) := by
  obtain ⟨⟨a0, _⟩, ⟨a1, _⟩, ⟨a2, t2⟩, ⟨a3, t3⟩, ⟨a4, _⟩, ⟨a5, t5⟩, ⟨a6, t6⟩, _⟩ := h
  have e2 : am_eN tk n (q + 2) = q + 3 := pe_eN1 (by omega) a2
  have e3 : am_eN tk n (q + 3) = q + 4 := pe_eN0 (by omega) a3
  have e1 : am_eN tk n (q + 1) = q + 4 := by rw [am_eN_2 (by omega) (by rw [a1]; decide), e2, e3]
  have e5 : am_eN tk n (q + 5) = q + 6 := pe_eN1 (by omega) a5
  have l0 : am_lk (am_nl 0 (nI 0) 1 (nI t) s) 0 17 (nI (am_nf s)) = nI (am_nf s) := pe_lkn g 16
  have l1 : am_lk (am_nl 0 (nI 0) 1 (nI t) s) 1 17 (nI (am_nf s)) = nI 0 := pe_lk0 g hA
  have r0 : am_rd (nI (am_nf s)) (am_nl 0 (nI 0) 1 (nI t) s) = (true, 1, nI t, am_nl 0 (nI 0) 1 (nI t) s) := pe_rdn g
  have r1 : am_rd (nI 0) (am_nl 0 (nI 0) 1 (nI t) s) = (true, 1, nI cn, am_nl 0 (nI 0) 1 (nI t) s) := pe_rd1 (pe_G_nl g hA)
  have lt : am_ev n tk ta mC mA b (F + 3) (q + 1) (nI (am_nf s)) (am_nl 0 (nI 0) 1 (nI t) s) = (true, 1, am_op 5 (nI t) (nI c), am_nl 0 (nI 0) 1 (nI t) s) := by
    rw [pe_v5 (F := F + 2) (by omega) a1]
    unfold am_e2
    rw [pe_v1 (F := F + 1) (by omega) a2, t2, l0, r0, am_bd_t rfl]
    unfold am_c2
    rw [e2, pe_v0 (F := F + 1) (by omega) a3, t3, am_bd_t rfl]
    unfold am_ca
    rw [if_pos ⟨rfl, rfl⟩, a1]
  have eo : am_op 5 (nI t) (nI c) = if nI t < nI c then 1 else 0 := rfl
  have ev : am_ev n tk ta mC mA b (F + 4) q (nI (am_nf s)) (am_nl 0 (nI 0) 1 (nI t) s) = am_c10 n tk (am_ev n tk ta mC mA b (F + 3)) q (nI (am_nf s)) 1 (am_op 5 (nI t) (nI c)) (am_nl 0 (nI 0) 1 (nI t) s) := by
    rw [pe_v10 (F := F + 3) (by omega) a0]
    unfold am_e10
    rw [lt, am_bd_t rfl]
  rw [ev, eo]
  refine ⟨fun z => ?_, fun z => ?_⟩
  · rw [if_neg (nI_nlt z ht)]
    unfold am_c10
    rw [if_neg (fun y => y.2 rfl)]
  · rw [if_pos (nI_lt z hc)]
    unfold am_c10
    rw [if_pos ⟨rfl, by decide⟩, e1, pe_v2 (F := F + 2) (by omega) a4]
    unfold am_e2
    rw [pe_v1 (F := F + 1) (by omega) a5, t5, l0, r0, am_bd_t rfl]
    unfold am_c2
    rw [e5, pe_v1 (F := F + 1) (by omega) a6, t6, l1, r1, am_bd_t rfl]
    unfold am_ca
    rw [if_pos ⟨rfl, rfl⟩, a4]
    show (true, (1 : Int32), nI t + nI cn, am_nl 0 (nI 0) 1 (nI t) s) = _
    rw [nI_add]
theorem pe_top (h : pe_at tk ta 0 (pe_fl k f w k ++ pe_E c)) (hn : n = pe_P k f w k + 7) (hk : 1 ≤ k) (hk5 : k ≤ 5) (h1 : 1 ≤ mA) (h16 : mA ≤ 16) (hc : c < 2 ^ 31) (ht : (pe_M mC mA f w b k 0 1 0 0).2.2.2.2 < 2 ^ 31) :
    ((pe_M mC mA f w b k 0 1 0 0).1 = false → (am_run n tk ta mC mA b).1 = false ∧ am_us (am_run n tk ta mC mA b).2.2.2 = (pe_M mC mA f w b k 0 1 0 0).2.1) ∧
    ((pe_M mC mA f w b k 0 1 0 0).1 = true → (mA ≤ (pe_M mC mA f w b k 0 1 0 0).2.2.1 ∨ c ≤ (pe_M mC mA f w b k 0 1 0 0).2.2.2.2) → (am_run n tk ta mC mA b).1 = false ∧ am_us (am_run n tk ta mC mA b).2.2.2 = k) ∧
    ((pe_M mC mA f w b k 0 1 0 0).1 = true → ¬ mA ≤ (pe_M mC mA f w b k 0 1 0 0).2.2.1 → (pe_M mC mA f w b k 0 1 0 0).2.2.2.2 < c → ∃ s' : am_S, am_run n tk ta mC mA b = (true, 1, nI ((pe_M mC mA f w b k 0 1 0 0).2.2.2.2 + (pe_M mC mA f w b k 0 1 0 0).2.2.2.1), s') ∧ am_us s' = k ∧ am_al s' = (pe_M mC mA f w b k 0 1 0 0).2.2.1 + 1) := by
  obtain ⟨hf, hE⟩ := pe_at_app _ _ h
  obtain ⟨hT, h3⟩ := pe_at_fl k hf
  rw [Nat.zero_add] at hE
  obtain ⟨⟨a0, t0⟩, ⟨a1, t1⟩, ⟨a2, t2⟩, _⟩ := h3
  have hP0 : pe_P k f w 0 = 3 := rfl
  have hPk := pe_P_le (k := k) (f := f) (w := w) k 0
  rw [Nat.zero_add, hP0] at hPk
  have g1 : pe_G (am_nl 1 (-1) 1 0 am_s0) 1 0 := ⟨rfl, rfl, by omega, by omega, rfl, rfl, rfl, rfl⟩
  have u1 : am_us (am_nl 1 (-1) 1 0 am_s0) = 0 := rfl
  obtain ⟨i1, i2⟩ := pe_sum (mC := mC) (b := b) (n := n) h16 hT (by omega) (k - 1) 0 (by omega)
  have ek : k - 1 + 1 = k := by omega
  rw [ek, hP0] at i2
  rw [hP0] at i1
  have i3 := i2 (543 - (k - 1) - 8) 1 0 0 _ g1 u1
  have eF : 543 - (k - 1) - 8 + (k - 1) + 8 = 543 := by omega
  rw [eF] at i3
  have e1 : am_eN tk n 1 = 2 := pe_eN0 (by omega) a1
  have ev1 : am_run n tk ta mC mA b = am_ev n tk ta mC mA b 544 2 (nI 0) (am_nl 1 (-1) 1 0 am_s0) := by
    unfold am_run
    rw [pe_v11 (F := 544) (by omega) a0]
    unfold am_e11
    rw [pe_v0 (F := 543) (by omega) a1, t1, am_bd_t rfl]
    unfold am_c11
    rw [if_neg (by show ¬ mA ≤ 0; omega), t0]
    show am_ev n tk ta mC mA b 544 (am_eN tk n 1) (nI 0) (am_nl 1 (-1) 1 0 am_s0) = _
    rw [e1]
  have ev2 : am_run n tk ta mC mA b = am_bd (am_ev n tk ta mC mA b 543 3 (nI 0) (am_nl 1 (-1) 1 0 am_s0)) (am_c11 n tk ta mA (am_ev n tk ta mC mA b 543) 2 (nI 0)) := by
    rw [ev1, pe_v11 (F := 543) (by omega) a2]
    rfl
  obtain ⟨q1, q2⟩ := i3
  refine ⟨fun z => ?_, fun z hz => ?_, fun z z1 z2 => ?_⟩
  · obtain ⟨y1, y2⟩ := q1 z
    rw [ev2, am_bd_f y1]
    exact ⟨rfl, y2⟩
  · obtain ⟨s', t, y1, y2, y3, y4⟩ := q2 z
    rw [Nat.zero_add] at y4
    rw [y4] at ht hz
    rw [ev2, y1, am_bd_t rfl]
    unfold am_c11
    by_cases m : mA ≤ am_al s'
    · rw [if_pos m]
      exact ⟨rfl, y2⟩
    · rw [if_neg m, i1, t2]
      have hA : (pe_M mC mA f w b k 0 1 0 0).2.2.1 < mA := by rw [← pe_G_al y3]; omega
      have hct : c ≤ t := by
        rcases hz with hz | hz
        · omega
        · exact hz
      have tl := (pe_tail (mC := mC) (mA := mA) (b := b) (n := n) (F := 539) hE (by unfold pe_P at hn; omega) hc ht y3 (by omega)).1 hct
      have tl2 : am_ev n tk ta mC mA b 543 (pe_P k f w k) (nI (am_nf s')) (am_nl 0 (nI 0) 1 (nI t) s') = am_fl (am_nl 0 (nI 0) 1 (nI t) s') := tl
      rw [tl2]
      exact ⟨rfl, y2⟩
  · obtain ⟨s', t, y1, y2, y3, y4⟩ := q2 z
    rw [Nat.zero_add] at y4
    rw [y4] at ht z2 ⊢
    have hA : (pe_M mC mA f w b k 0 1 0 0).2.2.1 < mA := by omega
    have m : ¬ mA ≤ am_al s' := by rw [pe_G_al y3]; exact z1
    have tl := (pe_tail (mC := mC) (mA := mA) (b := b) (n := n) (F := 539) hE (by unfold pe_P at hn; omega) hc ht y3 (by omega)).2 z2
    have tl2 : am_ev n tk ta mC mA b 543 (pe_P k f w k) (nI (am_nf s')) (am_nl 0 (nI 0) 1 (nI t) s') = (true, 1, nI (t + (pe_M mC mA f w b k 0 1 0 0).2.2.2.1), am_nl 0 (nI 0) 1 (nI t) s') := tl
    refine ⟨am_nl 0 (nI 0) 1 (nI t) s', ?_, y2, ?_⟩
    · rw [ev2, y1, am_bd_t rfl]
      unfold am_c11
      rw [if_neg m, i1, t2]
      exact tl2
    · rw [am_al_nl, pe_G_al y3]
end
end
section
/-! p18: the vectors in their order -/
def pe_b (k v : Nat) : Nat → Bool := fun i => decide (i < k ∧ v / 2 ^ (k - 1 - i) % 2 = 1)
theorem pe_b_i {k v i x : Nat} (hi : i < k) (h : v / 2 ^ (k - 1 - i) % 2 = x) : am_b1 (pe_b k v i) = x := by
  have hx : x < 2 := by rw [← h]; exact Nat.mod_lt _ (by decide)
  unfold pe_b
  by_cases q : x = 1
  · rw [decide_eq_true ⟨hi, h.trans q⟩, q]
    rfl
  · rw [decide_eq_false (fun z => q (h.symm.trans z.2))]
    show 0 = x
    omega
theorem pe_b1_inj {x y : Bool} (h : am_b1 x = am_b1 y) : x = y := by
  cases x <;> cases y <;> first | rfl | exact absurd h (by decide)
theorem pe_b_hi {k v i : Nat} (h : k ≤ i) : pe_b k v i = false := decide_eq_false (fun z => absurd z.1 (Nat.not_lt.mpr h))
/-- the vector of a number whose first u bits are those of b -/
theorem pe_b_agree {b : Nat → Bool} {k u v : Nat} (hu : u ≤ k) (h : v / 2 ^ (k - u) = am_nm b u) : ∀ i, i < u → pe_b k v i = b i := by
  intro i hi
  apply pe_b1_inj
  apply pe_b_i (by omega)
  have e : k - 1 - i = (k - u) + (u - (i + 1)) := by omega
  have h2 := am_nm_sh b (i + 1) (u - (i + 1))
  have e2 : i + 1 + (u - (i + 1)) = u := by omega
  rw [e2] at h2
  rw [e, Nat.pow_add, ← Nat.div_div_eq_div_mul, h, h2, am_nm_odd]
theorem pe_b_nm {b : Nat → Bool} {k : Nat} (hz : ∀ j, k ≤ j → b j = false) : pe_b k (am_nm b k) = b := by
  funext i
  by_cases h : i < k
  · refine pe_b_agree (Nat.le_refl k) ?_ i h
    rw [Nat.sub_self, Nat.pow_zero, Nat.div_one]
  · rw [pe_b_hi (by omega), hz i (by omega)]
theorem pe_nm_z {b : Nat → Bool} {u : Nat} (hz : ∀ j, u ≤ j → b j = false) : ∀ d, am_nm b (u + d) = am_nm b u * 2 ^ d := by
  intro d
  induction d with
  | zero => rw [Nat.add_zero, Nat.pow_zero, Nat.mul_one]
  | succ d ih =>
    have e : u + (d + 1) = u + d + 1 := by omega
    have e1 : am_b1 (b (u + d)) = 0 := by rw [hz (u + d) (by omega)]; rfl
    rw [e, am_nm_s, e1, ih, Nat.pow_succ, Nat.add_zero, Nat.mul_comm 2, Nat.mul_assoc]
theorem pe_nm_next {b : Nat → Bool} {q : Nat} : ∀ u, am_la b u = q + 1 → am_nm (am_sb b q) u = am_nm b u + 1 := by
  intro u
  induction u with
  | zero => intro h; exact absurd h (by show ¬ (0 = q + 1); omega)
  | succ u ih =>
    intro h
    cases hb : b u with
    | true =>
      rw [am_la_t hb] at h
      have hq := (am_la_q _ h).1
      have e1 : am_b1 (am_sb b q u) = 0 := by rw [am_sb_hi hq]; rfl
      have e2 : am_b1 (b u) = 1 := by rw [hb]; rfl
      rw [am_nm_s, am_nm_s, e1, e2, ih h]
      omega
    | false =>
      rw [am_la_f hb] at h
      have e : q = u := by omega
      have e2 : am_b1 (b u) = 0 := by rw [hb]; rfl
      rw [e, am_nm_sb, am_nm_s, e2]
theorem pe_nm_top {b : Nat → Bool} : ∀ u, am_la b u = 0 → am_nm b u + 1 = 2 ^ u := by
  intro u
  induction u with
  | zero => intro _; rfl
  | succ u ih =>
    intro h
    cases hb : b u with
    | true =>
      rw [am_la_t hb] at h
      have e2 : am_b1 (b u) = 1 := by rw [hb]; rfl
      have h2 := ih h
      rw [am_nm_s, e2, Nat.pow_succ]
      omega
    | false =>
      rw [am_la_f hb] at h
      omega
/-- numbers from N * D on, below (N + 1) * D: the same bits on top -/
theorem pe_div {v N D : Nat} (hD : 0 < D) (h1 : N * D ≤ v) (h2 : v < (N + 1) * D) : v / D = N := by
  have h3 : v / D < N + 1 := (Nat.div_lt_iff_lt_mul hD).mpr h2
  have h4 : N ≤ v / D := (Nat.le_div_iff_mul_le hD).mpr h1
  omega
theorem pe_mod {v N D : Nat} (h : v / D = N) (hv : v ≠ N * D) : v % D ≠ 0 := by
  intro z
  have h2 := Nat.div_add_mod v D
  rw [h, z, Nat.add_zero, Nat.mul_comm] at h2
  exact hv h2.symm
theorem pe_mod0 (N D : Nat) : N * D % D = 0 := Nat.mul_mod_left N D
section
variable {n : Nat} {tk ta : Nat → Int32} {mC mA : Nat}
/-- two vectors that agree on the choices of a path: the same path -/
theorem pe_same {b b2 : Nat → Bool} (h : ∀ i, i < am_us (am_run n tk ta mC mA b).2.2.2 → b i = b2 i) : am_run n tk ta mC mA b2 = am_run n tk ta mC mA b := by
  rcases am_ev_D (n := n) (tk := tk) (ta := ta) (mC := mC) (mA := mA) h 545 0 (-1) am_s0 with ⟨_, h2⟩ | ⟨h1, _⟩
  · exact h2
  · exact absurd h1 (Nat.lt_irrefl _)
end
end
section
/-! p18: the law's program has its shape, its scopes and at most 32 tokens -/
/-- m tokens from p on are one expression -/
def pe_X (tk : Nat → Int32) (p m : Nat) : Prop := ∀ d q, am_sh tk (d + m) (q + 1) p = am_sh tk d q (p + m)
theorem pe_sh_s (tk : Nat → Int32) (d q i : Nat) : am_sh tk (d + 1) (q + 1) i = am_sh tk d (q + am_ar (tk i)) (i + 1) := rfl
theorem pe_X0 {tk : Nat → Int32} {p : Nat} (h : am_ar (tk p) = 0) : pe_X tk p 1 := by
  intro d q
  rw [pe_sh_s, h]
  rfl
theorem pe_X1 {tk : Nat → Int32} {p m : Nat} (h : am_ar (tk p) = 1) (h1 : pe_X tk (p + 1) m) : pe_X tk p (m + 1) := by
  intro d q
  have e : d + (m + 1) = d + m + 1 := by omega
  have e2 : p + (m + 1) = p + 1 + m := by omega
  rw [e, pe_sh_s, h, h1 d q, e2]
theorem pe_X2 {tk : Nat → Int32} {p m1 m2 : Nat} (h : am_ar (tk p) = 2) (h1 : pe_X tk (p + 1) m1) (h2 : pe_X tk (p + 1 + m1) m2) : pe_X tk p (m1 + m2 + 1) := by
  intro d q
  have e : d + (m1 + m2 + 1) = (d + m2) + m1 + 1 := by omega
  have e2 : p + (m1 + m2 + 1) = p + 1 + m1 + m2 := by omega
  have e3 : q + 2 = (q + 1) + 1 := by omega
  rw [e, pe_sh_s, h, e3, h1 (d + m2) (q + 1), h2 d q, e2]
theorem pe_X_eq {tk : Nat → Int32} {p m m' : Nat} (e : m = m') (h : pe_X tk p m) : pe_X tk p m' := by rw [← e]; exact h
theorem pe_XW {tk ta : Nat → Int32} {f q : Nat} {w : Int32} (h : pe_at tk ta q (pe_W f w)) : pe_X tk q (pe_W f w).length := by
  unfold pe_W at h ⊢
  by_cases f0 : f = 0
  · rw [if_pos f0] at h ⊢
    obtain ⟨⟨a1, _⟩, _⟩ := h
    exact pe_X0 (by rw [a1]; decide)
  rw [if_neg f0] at h ⊢
  by_cases f1 : f = 1
  · rw [if_pos f1] at h ⊢
    obtain ⟨⟨a1, _⟩, ⟨a2, _⟩, ⟨a3, _⟩, _⟩ := h
    exact pe_X2 (m1 := 1) (m2 := 1) (by rw [a1]; decide) (pe_X0 (by rw [a2]; decide)) (pe_X0 (by rw [a3]; decide))
  · rw [if_neg f1] at h ⊢
    obtain ⟨⟨a1, _⟩, ⟨a2, _⟩, ⟨a3, _⟩, ⟨a4, _⟩, ⟨a5, _⟩, ⟨a6, _⟩, _⟩ := h
    exact pe_X2 (m1 := 4) (m2 := 1) (by rw [a1]; decide) (pe_X1 (m := 3) (by rw [a2]; decide) (pe_X2 (m1 := 1) (m2 := 1) (by rw [a3]; decide) (pe_X0 (by rw [a4]; decide)) (pe_X0 (by rw [a5]; decide)))) (pe_X0 (by rw [a6]; decide))
theorem pe_XA {tk ta : Nat → Int32} {f q : Nat} {w : Int32} (h : pe_at tk ta q ((8, 0) :: (0, 0) :: pe_W f w)) : pe_X tk q ((pe_W f w).length + 2) := by
  obtain ⟨⟨a1, _⟩, ⟨a2, _⟩, hW⟩ := h
  exact pe_X_eq (by omega) (pe_X2 (m1 := 1) (by rw [a1]; decide) (pe_X0 (by rw [a2]; decide)) (pe_XW hW))
theorem pe_XS {tk ta : Nat → Int32} {k : Nat} {f w : Nat → Nat} (hT : ∀ i, i < k → pe_at tk ta (pe_P k f w i) (pe_T k f w i)) : ∀ r i : Nat, i + r + 1 = k → pe_P k f w i ≤ pe_P k f w k ∧ pe_X tk (pe_P k f w i) (pe_P k f w k - pe_P k f w i) := by
  intro r
  induction r with
  | zero =>
    intro i hi
    have hl : ¬ i < k - 1 := by omega
    have h := hT i (by omega)
    have hP := pe_P_s k f w i
    have ek : i + 1 = k := by omega
    rw [ek, pe_T_last hl, List.length_cons, List.length_cons] at hP
    rw [pe_T_last hl] at h
    exact ⟨by omega, pe_X_eq (by omega) (pe_XA h)⟩
  | succ r ih =>
    intro i hi
    have hl : i < k - 1 := by omega
    have h := hT i (by omega)
    have hP := pe_P_s k f w i
    rw [pe_T_in hl, List.length_cons, List.length_cons, List.length_cons] at hP
    rw [pe_T_in hl] at h
    obtain ⟨⟨a0, _⟩, hA⟩ := h
    obtain ⟨i1, i2⟩ := ih (i + 1) (by omega)
    have e : pe_P k f w i + 1 + ((pe_W (f i) (nI (w i))).length + 2) = pe_P k f w (i + 1) := by omega
    have x := pe_X2 (m2 := pe_P k f w k - pe_P k f w (i + 1)) (by rw [a0]; decide) (pe_XA hA) (by rw [e]; exact i2)
    exact ⟨by omega, pe_X_eq (by omega) x⟩
theorem pe_shape {tk ta : Nat → Int32} {k c : Nat} {f w : Nat → Nat} (hk : 1 ≤ k) (h : pe_at tk ta 0 (pe_fl k f w k ++ pe_E c)) : am_sh tk (pe_P k f w k + 7) 1 0 = 0 := by
  obtain ⟨hf, hE⟩ := pe_at_app _ _ h
  obtain ⟨hT, h3⟩ := pe_at_fl k hf
  rw [Nat.zero_add] at hE
  have hE2 : pe_at tk ta (pe_P k f w k) (pe_E c) := hE
  obtain ⟨⟨a0, _⟩, ⟨a1, _⟩, ⟨a2, _⟩, _⟩ := h3
  obtain ⟨⟨b0, _⟩, ⟨b1, _⟩, ⟨b2, _⟩, ⟨b3, _⟩, ⟨b4, _⟩, ⟨b5, _⟩, ⟨b6, _⟩, _⟩ := hE2
  have hP0 : pe_P k f w 0 = 3 := rfl
  obtain ⟨s1, s2⟩ := pe_XS hT (k - 1) 0 (by omega)
  rw [hP0] at s1 s2
  have x1 : pe_X tk (pe_P k f w k + 1) 3 := pe_X2 (m1 := 1) (m2 := 1) (by rw [b1]; decide) (pe_X0 (by rw [b2]; decide)) (pe_X0 (by rw [b3]; decide))
  have x2 : pe_X tk (pe_P k f w k + 4) 3 := pe_X2 (m1 := 1) (m2 := 1) (by rw [b4]; decide) (pe_X0 (by rw [b5]; decide)) (pe_X0 (by rw [b6]; decide))
  have x3 : pe_X tk (pe_P k f w k) 7 := pe_X2 (m1 := 3) (m2 := 3) (by rw [b0]; decide) x1 x2
  have e3 : 2 + 1 + (pe_P k f w k - 3) = pe_P k f w k := by omega
  have x4 : pe_X tk 2 (pe_P k f w k - 3 + 7 + 1) := pe_X2 (by rw [a2]; decide) s2 (by rw [e3]; exact x3)
  have x5 : pe_X tk 0 (1 + (pe_P k f w k - 3 + 7 + 1) + 1) := pe_X2 (by rw [a0]; decide) (pe_X0 (by rw [a1]; decide)) x4
  have x6 : pe_X tk 0 (pe_P k f w k + 7) := pe_X_eq (by omega) x5
  have x7 := x6 0 0
  rw [Nat.zero_add, Nat.zero_add] at x7
  exact x7
/-! scopes -/
theorem pe_an_in {f : Nat → Bool} {j : Nat} (hf : f j = true) : ∀ d p : Nat, p ≤ j → j < p + d → am_an f d p = true := by
  intro d
  induction d with
  | zero => intro p h1 h2; omega
  | succ d ih =>
    intro p h1 h2
    cases hp : f p with
    | true => exact am_an_t hp
    | false =>
      rw [am_an_f hp]
      have hne : p ≠ j := by
        intro z
        rw [z, hf] at hp
        exact absurd hp (by decide)
      exact ih (p + 1) (by omega) (by omega)
/-- what is asked of position i -/
def pe_U (tk ta : Nat → Int32) (n i : Nat) : Prop := (tk i = 1 ∨ tk i = 14) → am_an (am_bq tk ta n i (ta i)) i 0 = true
theorem pe_ab {tk ta : Nat → Int32} {n : Nat} : ∀ d i : Nat, (∀ j, i ≤ j → j < i + d → pe_U tk ta n j) → am_ab tk ta n d i = true := by
  intro d
  induction d with
  | zero => intro i _; rfl
  | succ d ih =>
    intro i h
    rw [am_ab_s, if_neg (fun z => absurd ((h i (Nat.le_refl i) (by omega) z.1).symm.trans z.2) (by decide))]
    exact ih (i + 1) (fun j h1 h2 => h j (by omega) (by omega))
theorem pe_U_no {tk ta : Nat → Int32} {n i : Nat} {x : Int32} (hk : tk i = x) (h1 : ¬ x = 1) (h2 : ¬ x = 14) : pe_U tk ta n i := by
  intro z
  rw [hk] at z
  rcases z with z | z
  · exact absurd z h1
  · exact absurd z h2
theorem pe_U_in {tk ta : Nat → Int32} {n i p : Nat} (hp : p < i) (hk : tk p = 11) (ha : ta p = ta i) (h1 : am_eN tk n (p + 1) ≤ i) (h2 : i < am_eN tk n p) : pe_U tk ta n i := by
  intro _
  refine pe_an_in (j := p) ?_ i 0 (Nat.zero_le p) (by omega)
  rw [am_bq_11 hk ha]
  exact decide_eq_true ⟨h1, h2⟩
/-- a user of variable 1 behind the first two tokens -/
theorem pe_U1 {tk ta : Nat → Int32} {n i : Nat} (a0 : tk 0 = 11) (t0 : ta 0 = 1) (a1 : tk 1 = 0) (hn : am_eN tk n 0 = n) (hi : 2 ≤ i) (hin : i < n) (ht : ta i = 1) : pe_U tk ta n i :=
  pe_U_in (p := 0) (by omega) a0 (by rw [t0, ht]) (by rw [pe_eN0 (by omega) a1]; omega) (by rw [hn]; exact hin)
theorem pe_UW {tk ta : Nat → Int32} {n f q : Nat} {w : Int32} (h : pe_at tk ta q (pe_W f w)) (hn : q + (pe_W f w).length ≤ n) (hU : ∀ i, q ≤ i → i < n → ta i = 1 → pe_U tk ta n i) : ∀ i, q ≤ i → i < q + (pe_W f w).length → pe_U tk ta n i := by
  have hN := pe_eNW h hn
  unfold pe_W at h hn hN ⊢
  by_cases f0 : f = 0
  · rw [if_pos f0] at h hn ⊢
    obtain ⟨⟨a1, _⟩, _⟩ := h
    intro i h1 h2
    have h3 : i < q + 1 := h2
    have e : i = q := by omega
    rw [e]
    exact pe_U_no a1 (by decide) (by decide)
  rw [if_neg f0] at h hn hN ⊢
  by_cases f1 : f = 1
  · rw [if_pos f1] at h hn hN ⊢
    have hn3 : q + 3 ≤ n := hn
    have hN3 : am_eN tk n q = q + 3 := hN
    obtain ⟨⟨a1, t1⟩, ⟨a2, _⟩, ⟨a3, t3⟩, _⟩ := h
    intro i h1 h2
    have h3 : i < q + 3 := h2
    have hc : i = q ∨ i = q + 1 ∨ i = q + 1 + 1 := by omega
    rcases hc with e | e | e
    · rw [e]; exact pe_U_no a1 (by decide) (by decide)
    · rw [e]; exact pe_U_no a2 (by decide) (by decide)
    · rw [e]
      exact pe_U_in (p := q) (by omega) a1 (by rw [t1, t3]) (by rw [pe_eN0 (by omega) a2]; omega) (by rw [hN3]; omega)
  · rw [if_neg f1] at h hn ⊢
    have hn6 : q + 6 ≤ n := hn
    obtain ⟨⟨a1, _⟩, ⟨a2, t2⟩, ⟨a3, _⟩, ⟨a4, t4⟩, ⟨a5, _⟩, ⟨a6, _⟩, _⟩ := h
    intro i h1 h2
    have h3 : i < q + 6 := h2
    have hc : i = q ∨ i = q + 1 ∨ i = q + 1 + 1 ∨ i = q + 1 + 1 + 1 ∨ i = q + 1 + 1 + 1 + 1 ∨ i = q + 1 + 1 + 1 + 1 + 1 := by omega
    rcases hc with e | e | e | e | e | e
    · rw [e]; exact pe_U_no a1 (by decide) (by decide)
    · rw [e]; exact hU _ (by omega) (by omega) t2
    · rw [e]; exact pe_U_no a3 (by decide) (by decide)
    · rw [e]; exact hU _ (by omega) (by omega) t4
    · rw [e]; exact pe_U_no a5 (by decide) (by decide)
    · rw [e]; exact pe_U_no a6 (by decide) (by decide)
theorem pe_UA {tk ta : Nat → Int32} {n f q : Nat} {w : Int32} (h : pe_at tk ta q ((8, 0) :: (0, 0) :: pe_W f w)) (hn : q + 2 + (pe_W f w).length ≤ n) (hU : ∀ i, q ≤ i → i < n → ta i = 1 → pe_U tk ta n i) : ∀ i, q ≤ i → i < q + 2 + (pe_W f w).length → pe_U tk ta n i := by
  obtain ⟨⟨a1, _⟩, ⟨a2, _⟩, hW⟩ := h
  intro i h1 h2
  by_cases e : i = q
  · rw [e]; exact pe_U_no a1 (by decide) (by decide)
  by_cases e2 : i = q + 1
  · rw [e2]; exact pe_U_no a2 (by decide) (by decide)
  exact pe_UW hW hn (fun j h3 h4 h5 => hU j (by omega) h4 h5) i (by omega) (by omega)
theorem pe_bound {tk ta : Nat → Int32} {k c : Nat} {f w : Nat → Nat} (hk : 1 ≤ k) (h : pe_at tk ta 0 (pe_fl k f w k ++ pe_E c)) : am_ab tk ta (pe_P k f w k + 7) (pe_P k f w k + 7) 0 = true := by
  obtain ⟨hf, hE⟩ := pe_at_app _ _ h
  obtain ⟨hT, h3⟩ := pe_at_fl k hf
  rw [Nat.zero_add] at hE
  have hE2 : pe_at tk ta (pe_P k f w k) (pe_E c) := hE
  obtain ⟨⟨a0, t0⟩, ⟨a1, _⟩, ⟨a2, t2⟩, _⟩ := h3
  obtain ⟨⟨b0, _⟩, ⟨b1, _⟩, ⟨b2, s2⟩, ⟨b3, _⟩, ⟨b4, _⟩, ⟨b5, s5⟩, ⟨b6, s6⟩, _⟩ := hE2
  have hP0 : pe_P k f w 0 = 3 := rfl
  have hP3 := pe_P_le (k := k) (f := f) (w := w) k 0
  rw [Nat.zero_add, hP0] at hP3
  generalize hn : pe_P k f w k + 7 = n
  have e3 : am_eN tk n 3 = pe_P k f w k := by
    have := (pe_sum (mC := 0) (mA := 0) (b := fun _ => false) (n := n) (by omega) hT (by omega) (k - 1) 0 (by omega)).1
    rw [hP0] at this
    exact this
  have c1 : am_eN tk n (pe_P k f w k + 1) = pe_P k f w k + 4 := by rw [am_eN_2 (by omega) (by rw [b1]; decide), pe_eN1 (by omega) b2, pe_eN0 (by omega) b3]
  have c4 : am_eN tk n (pe_P k f w k + 4) = pe_P k f w k + 7 := by rw [am_eN_2 (by omega) (by rw [b4]; decide), pe_eN1 (by omega) b5, pe_eN1 (by omega) b6]
  have cP : am_eN tk n (pe_P k f w k) = n := by rw [am_eN_2 (by omega) (by rw [b0]; decide), c1, c4, hn]
  have e2 : am_eN tk n 2 = n := by rw [am_eN_2 (by omega) (by rw [a2]; decide), e3, cP]
  have e1 : am_eN tk n 1 = 2 := pe_eN0 (by omega) a1
  have e0 : am_eN tk n 0 = n := by rw [am_eN_2 (by omega) (by rw [a0]; decide), e1, e2]
  have hU : ∀ i, 2 ≤ i → i < n → ta i = 1 → pe_U tk ta n i := fun i h1 h2 h3 => pe_U1 a0 t0 a1 e0 h1 h2 h3
  have hV : ∀ i, pe_P k f w k ≤ i → i < n → ta i = 0 → pe_U tk ta n i := fun i h1 h2 h3 => pe_U_in (p := 2) (by omega) a2 (by rw [t2, h3]) (by rw [e3]; exact h1) (by rw [e2]; exact h2)
  have hS : ∀ j, j ≤ k → ∀ i, i < pe_P k f w j → pe_U tk ta n i := by
    intro j
    induction j with
    | zero =>
      intro _ i hi
      rw [hP0] at hi
      have hc : i = 0 ∨ i = 1 ∨ i = 2 := by omega
      rcases hc with e | e | e
      · rw [e]; exact pe_U_no a0 (by decide) (by decide)
      · rw [e]; exact pe_U_no a1 (by decide) (by decide)
      · rw [e]; exact pe_U_no a2 (by decide) (by decide)
    | succ j ih =>
      intro hj i hi
      by_cases q : i < pe_P k f w j
      · exact ih (by omega) i q
      have hT1 := hT j (by omega)
      have hP := pe_P_s k f w j
      have hPj := pe_P_le (k := k) (f := f) (w := w) (k - (j + 1)) (j + 1)
      have hP2 := pe_P_le (k := k) (f := f) (w := w) j 0
      rw [Nat.zero_add, hP0] at hP2
      have ek : j + 1 + (k - (j + 1)) = k := by omega
      rw [ek] at hPj
      by_cases l : j < k - 1
      · rw [pe_T_in l] at hT1 hP
        rw [List.length_cons, List.length_cons, List.length_cons] at hP
        obtain ⟨⟨z0, _⟩, hA⟩ := hT1
        by_cases e : i = pe_P k f w j
        · rw [e]; exact pe_U_no z0 (by decide) (by decide)
        · exact pe_UA hA (by omega) (fun x h4 h5 h6 => hU x (by omega) h5 h6) i (by omega) (by omega)
      · rw [pe_T_last l] at hT1 hP
        rw [List.length_cons, List.length_cons] at hP
        exact pe_UA hT1 (by omega) (fun x h4 h5 h6 => hU x (by omega) h5 h6) i (by omega) (by omega)
  refine pe_ab n 0 (fun i _ hi => ?_)
  by_cases q : i < pe_P k f w k
  · exact hS k (Nat.le_refl k) i q
  have hc : i = pe_P k f w k ∨ i = pe_P k f w k + 1 ∨ i = pe_P k f w k + 1 + 1 ∨ i = pe_P k f w k + 1 + 1 + 1 ∨ i = pe_P k f w k + 1 + 1 + 1 + 1 ∨ i = pe_P k f w k + 1 + 1 + 1 + 1 + 1 ∨ i = pe_P k f w k + 1 + 1 + 1 + 1 + 1 + 1 := by omega
  rcases hc with e | e | e | e | e | e | e
  · rw [e]; exact pe_U_no b0 (by decide) (by decide)
  · rw [e]; exact pe_U_no b1 (by decide) (by decide)
  · rw [e]; exact hV _ (by omega) (by omega) s2
  · rw [e]; exact pe_U_no b3 (by decide) (by decide)
  · rw [e]; exact pe_U_no b4 (by decide) (by decide)
  · rw [e]; exact hV _ (by omega) (by omega) s5
  · rw [e]; exact hU _ (by omega) (by omega) s6
/-! the law's count of tokens -/
def pe_ex (f : Nat) : Nat := if f = 0 then 0 else if f = 1 then 3 else 5
/-- what is spent ahead of the i-th part -/
def pe_u (g : Nat → Nat) (sp : Nat) : Nat → Nat
  | 0 => 0
  | i + 1 => pe_u g sp i + (if sp < pe_u g sp i + pe_ex (g i) then 0 else pe_ex (g i))
def pe_f (g : Nat → Nat) (sp i : Nat) : Nat := if sp < pe_u g sp i + pe_ex (g i) then 0 else g i
theorem pe_u_s (g : Nat → Nat) (sp i : Nat) : pe_u g sp (i + 1) = pe_u g sp i + pe_ex (pe_f g sp i) := by
  show pe_u g sp i + (if sp < pe_u g sp i + pe_ex (g i) then 0 else pe_ex (g i)) = _
  unfold pe_f
  by_cases h : sp < pe_u g sp i + pe_ex (g i)
  · rw [if_pos h, if_pos h]; rfl
  · rw [if_neg h, if_neg h]
theorem pe_u_le (g : Nat → Nat) (sp : Nat) : ∀ i, pe_u g sp i ≤ sp := by
  intro i
  induction i with
  | zero => exact Nat.zero_le _
  | succ i ih =>
    show pe_u g sp i + (if sp < pe_u g sp i + pe_ex (g i) then 0 else pe_ex (g i)) ≤ sp
    by_cases h : sp < pe_u g sp i + pe_ex (g i)
    · rw [if_pos h]; omega
    · rw [if_neg h]; omega
theorem pe_W_len (f : Nat) (w : Int32) : (pe_W f w).length ≤ 1 + pe_ex f := by
  unfold pe_W pe_ex
  by_cases f0 : f = 0
  · rw [if_pos f0, if_pos f0]; exact Nat.le_refl _
  rw [if_neg f0, if_neg f0]
  by_cases f1 : f = 1
  · rw [if_pos f1, if_pos f1]; show 3 ≤ 1 + 3; decide
  · rw [if_neg f1, if_neg f1]; show 6 ≤ 1 + 5; decide
theorem pe_P_len {g w : Nat → Nat} {sp k : Nat} : ∀ i, i ≤ k → pe_P k (pe_f g sp) w i + (if i < k then 0 else 1) ≤ 3 + 4 * i + pe_u g sp i + (if k = 0 then 1 else 0) := by
  intro i
  induction i with
  | zero =>
    intro _
    have : pe_P k (pe_f g sp) w 0 = 3 := rfl
    by_cases h : k = 0
    · rw [if_neg (by omega), if_pos h]; omega
    · rw [if_pos (by omega), if_neg h]; omega
  | succ i ih =>
    intro hi
    have h1 := ih (by omega)
    rw [if_pos (by omega), if_neg (by omega)] at h1
    rw [pe_P_s, pe_u_s, if_neg (show ¬ k = 0 by omega)]
    have h2 := pe_W_len (pe_f g sp i) (nI (w i))
    by_cases l : i < k - 1
    · rw [pe_T_in l, List.length_cons, List.length_cons, List.length_cons, if_pos (by omega)]
      omega
    · rw [pe_T_last l, List.length_cons, List.length_cons, if_neg (by omega)]
      omega
theorem pe_n_le {g w : Nat → Nat} {k : Nat} (hk : 1 ≤ k) (hk5 : k ≤ 5) : pe_P k (pe_f g (32 - (9 + 4 * k))) w k + 7 ≤ 32 := by
  have h := pe_P_len (g := g) (w := w) (sp := 32 - (9 + 4 * k)) (k := k) k (Nat.le_refl k)
  have h2 := pe_u_le g (32 - (9 + 4 * k)) k
  rw [if_neg (by omega), if_neg (by omega)] at h
  omega
end
section
/-! p18: the law's own numbers -/
def pe_c (L : Nat) (xs : Nat → Int32) (i : Nat) : Int32 := if i < L then xs i else 0
theorem pe_cell {post : Int32 → Prop} {L : Nat} {xs : Nat → Int32} {i : Nat} {x : Int32} (hL : L ≤ 260) (hi : i < 1000) (ex : x = nI i) (h : post (pe_c L xs i)) : wpL_cell post L xs () x := by
  rw [ex]
  unfold pe_c at h
  have hc : (nI i).toNatClampNeg = i := nI_clamp (by omega)
  by_cases q : i < L
  · rw [if_pos q] at h
    exact br_f (nI_ge q (by omega)) ⟨vp_in_nI q (by omega), by rw [hc]; exact h⟩
  · rw [if_neg q] at h
    exact br_t (nI_le (by omega) (by omega)) h
def pe_mn (d x : Int32) : Nat := (fmv x d).toNatClampNeg
theorem pe_mn_e {d x : Int32} (hd : 0 < d.toInt) : fmv x d = nI (pe_mn d x) ∧ (pe_mn d x : Int) < d.toInt := by
  obtain ⟨c, e, hc⟩ := fmv_nat (a := x) hd
  have hb := Int32.toInt_lt d
  have e2 : pe_mn d x = c := by
    unfold pe_mn
    rw [e]
    exact nI_clamp (by omega)
  rw [e2]
  exact ⟨e, hc⟩
theorem pe_mn_lt {d x : Int32} {D : Nat} (hD : d.toInt = (D : Int)) (h0 : 0 < D) : pe_mn d x < D := by
  have h := (pe_mn_e (d := d) (x := x) (by rw [hD]; omega)).2
  rw [hD] at h
  omega
theorem pe_mod' {post : Int32 → Prop} {x d : Int32} (hd : 0 < d.toInt) (h : post (nI (pe_mn d x))) : wpL_mod post () x d := by
  have e0 : ¬ d = 0 := by
    intro z
    rw [z] at hd
    exact absurd hd (by decide)
  rw [← (pe_mn_e (x := x) hd).1] at h
  refine ⟨e0, nm_e (br_c (fun q => ?_) (fun q => ?_))⟩
  · have e : fmv x d = x - x / d * d := if_pos q
    rw [e] at h
    exact h
  · have e : fmv x d = x - x / d * d + d := if_neg q
    rw [e] at h
    exact h
def pe_g (L : Nat) (xs : Nat → Int32) (j : Nat) : Nat := pe_mn 3 (pe_c L xs (4 + 2 * j))
def pe_w (L : Nat) (xs : Nat → Int32) (i : Nat) : Nat := 16 * pe_mn 8 (pe_c L xs (5 + 2 * i))
theorem pe_g_lt (L : Nat) (xs : Nat → Int32) (j : Nat) : pe_g L xs j < 3 := pe_mn_lt (D := 3) (by decide) (by decide)
theorem pe_w_lt (L : Nat) (xs : Nat → Int32) (i : Nat) : pe_w L xs i ≤ 112 := by
  have h := pe_mn_lt (d := 8) (x := pe_c L xs (5 + 2 * i)) (D := 8) (by decide) (by decide)
  unfold pe_w
  omega
theorem pe_i4 : ∀ j, j < 8 → (4 : Int32) + 2 * nI j = nI (4 + 2 * j) := by decide +kernel
theorem pe_i5 : ∀ j, j < 8 → (5 : Int32) + 2 * nI j = nI (5 + 2 * j) := by decide +kernel
theorem pe_i16 : ∀ j, j < 8 → (16 : Int32) * nI j = nI (16 * j) := by decide +kernel
theorem pe_sp : ∀ k, k < 6 → (32 : Int32) - (9 + 4 * nI k) = nI (32 - (9 + 4 * k)) := by decide +kernel
theorem pe_wt {post : Int32 → Prop} {L : Nat} {xs : Nat → Int32} {i : Nat} (hL : L ≤ 260) (hi : i < 8) (h : post (nI (pe_w L xs i))) : wpL_weight post L xs () (nI i) := by
  unfold wpL_weight
  refine pe_cell (i := 5 + 2 * i) hL (by omega) (pe_i5 i hi) (pe_mod' (by decide) ?_)
  have hm := pe_mn_lt (d := 8) (x := pe_c L xs (5 + 2 * i)) (D := 8) (by decide) (by decide)
  unfold pe_w at h
  rw [← pe_i16 _ hm] at h
  exact h
theorem pe_75 {post : Int32 → Prop} {L : Nat} {xs : Nat → Int32} {J : Int32 → Int32 → Prop} {i j u e : Nat} {x3 x6 : Int32} (hi : i < 8) (hj : j < 8) (h1 : j = i → post x6) (h2 : ¬ j = i → J (nI (u + e)) (nI (j + 1))) : wL_eff_75 post L xs J (nI i) x3 (nI u) (nI j) x6 (nI e) :=
  nm_r (nI_add u e) (br_c (fun q => h1 ((nI_eq (by omega) (by omega)).mp q)) (fun q => nm_r (nI_1 j) (h2 (fun z => q (by rw [z])))))
theorem pe_58 {post : Int32 → Prop} {L : Nat} {xs : Nat → Int32} {J : Int32 → Int32 → Prop} {g : Nat → Nat} {i j sp : Nat} (hi : i < 8) (hj : j < 8) (hsp : sp < 1000) (he : pe_ex (g j) < 1000) (h1 : j = i → post (nI (pe_f g sp i))) (h2 : ¬ j = i → J (nI (pe_u g sp (j + 1))) (nI (j + 1))) : wL_eff_58 post L xs J (nI i) (nI sp) (nI (pe_u g sp j)) (nI j) (nI (g j)) (nI (pe_ex (g j))) := by
  have hu := pe_u_le g sp j
  have es : nI sp - nI (pe_u g sp j) = nI (sp - pe_u g sp j) := am_sub hu
  rw [pe_u_s] at h2
  by_cases q : sp < pe_u g sp j + pe_ex (g j)
  · have ef : pe_f g sp j = 0 := if_pos q
    rw [ef] at h2
    refine br_f (by rw [es]; exact nI_ge (by omega) (by omega)) (pe_75 (e := 0) hi hj (fun z => ?_) h2)
    rw [← z, ef] at h1
    exact h1 rfl
  · have ef : pe_f g sp j = g j := if_neg q
    rw [ef] at h2
    refine br_t (by rw [es]; exact nI_le (by omega) (by omega)) (pe_75 hi hj (fun z => ?_) h2)
    rw [← z, ef] at h1
    exact h1 rfl
theorem pe_effS {post : Int32 → Prop} {L : Nat} {xs : Nat → Int32} {i j sp n : Nat} (hL : L ≤ 260) (hi : i < 8) (hj : j ≤ i) (hsp : sp < 1000) (h1 : j = i → post (nI (pe_f (pe_g L xs) sp i))) (h2 : ¬ j = i → wL_eff_16 post L xs (nI i) (nI sp) n (nI (pe_u (pe_g L xs) sp (j + 1))) (nI (j + 1))) : wL_eff_16 post L xs (nI i) (nI sp) (n + 1) (nI (pe_u (pe_g L xs) sp j)) (nI j) := by
  have hg := pe_g_lt L xs j
  have he : pe_ex (pe_g L xs j) < 1000 := by
    unfold pe_ex
    by_cases a : pe_g L xs j = 0
    · rw [if_pos a]; omega
    · rw [if_neg a]
      by_cases b : pe_g L xs j = 1
      · rw [if_pos b]; omega
      · rw [if_neg b]; omega
  have key := pe_58 (post := post) (L := L) (xs := xs) (J := wL_eff_16 post L xs (nI i) (nI sp) n) (g := pe_g L xs) (i := i) (j := j) hi (by omega) hsp he h1 h2
  rw [wL_eff_16]
  refine br_f (nI_nlt hj (by omega)) (pe_cell (i := 4 + 2 * j) hL (by omega) (pe_i4 j (by omega)) (pe_mod' (by decide) ?_))
  have hc : pe_g L xs j = 0 ∨ pe_g L xs j = 1 ∨ pe_g L xs j = 2 := by omega
  have eg : pe_mn 3 (pe_c L xs (4 + 2 * j)) = pe_g L xs j := rfl
  rw [eg]
  rcases hc with z | z | z
  · rw [z] at key ⊢
    exact br_t rfl key
  · rw [z] at key ⊢
    exact br_f (by decide) (br_t rfl key)
  · rw [z] at key ⊢
    exact br_f (by decide) (br_f (by decide) key)
theorem pe_eff0 {post : Int32 → Prop} {L : Nat} {xs : Nat → Int32} {i sp : Nat} (hL : L ≤ 260) (hi : i < 8) (hsp : sp < 1000) (h : post (nI (pe_f (pe_g L xs) sp i))) : ∀ d j : Nat, j + d = i → wL_eff_16 post L xs (nI i) (nI sp) (d + 1) (nI (pe_u (pe_g L xs) sp j)) (nI j) := by
  intro d
  induction d with
  | zero => intro j hj; exact pe_effS hL hi (by omega) hsp (fun _ => h) (fun z => absurd (by omega) z)
  | succ d ih => intro j hj; exact pe_effS hL hi (by omega) hsp (fun z => absurd z (by omega)) (fun _ => ih (j + 1) (by omega))
theorem pe_eff {post : Int32 → Prop} {L : Nat} {xs : Nat → Int32} {i k : Nat} (hL : L ≤ 260) (hi : i < 8) (hk : k < 6) (h : post (nI (pe_f (pe_g L xs) (32 - (9 + 4 * k)) i))) : wpL_eff post L xs () (nI i) (nI k) :=
  nm_r (pe_sp k hk) ⟨i + 1, pe_eff0 hL hi (by omega) h i 0 (by omega)⟩
/-! a path's result, packed into a long -/
def pe_ff (len : Nat) : Int64 := 268435456 ||| ((nI len).toInt64 <<< ((24 : Int32).toInt64 &&& 63))
def pe_ok (k A x : Nat) : Int64 := (((nI k).toInt64 <<< ((24 : Int32).toInt64 &&& 63)) ||| ((nI A).toInt64 <<< ((16 : Int32).toInt64 &&& 63))) ||| ((nI x).toInt64)
theorem pe_ff_len : ∀ l, l < 6 → ((pe_ff l >>> ((24 : Int32).toInt64 &&& 63)) &&& 15).toInt32 = nI l := by decide +kernel
theorem pe_ff_bit : ∀ l, l < 6 → (pe_ff l >>> ((28 : Int32).toInt64 &&& 63)) &&& 1 = 1 := by decide +kernel
theorem pe_ao (a b m : Int64) : (a ||| b) &&& m = (a &&& m) ||| (b &&& m) := Int64.toBitVec_inj.mp BitVec.and_or_distrib_right
theorem pe_k24 : ∀ k, k < 6 → (((nI k).toInt64 <<< ((24 : Int32).toInt64 &&& 63)) >>> ((24 : Int32).toInt64 &&& 63)) &&& 15 = lN k := by decide +kernel
theorem pe_k28 : ∀ k, k < 6 → (((nI k).toInt64 <<< ((24 : Int32).toInt64 &&& 63)) >>> ((28 : Int32).toInt64 &&& 63)) &&& 1 = 0 := by decide +kernel
theorem pe_k16 : ∀ k, k < 6 → (((nI k).toInt64 <<< ((24 : Int32).toInt64 &&& 63)) >>> ((16 : Int32).toInt64 &&& 63)) &&& 255 = 0 := by decide +kernel
theorem pe_k0 : ∀ k, k < 6 → ((nI k).toInt64 <<< ((24 : Int32).toInt64 &&& 63)) &&& 65535 = 0 := by decide +kernel
theorem pe_a24 : ∀ k, k < 18 → (((nI k).toInt64 <<< ((16 : Int32).toInt64 &&& 63)) >>> ((24 : Int32).toInt64 &&& 63)) &&& 15 = 0 := by decide +kernel
theorem pe_a28 : ∀ k, k < 18 → (((nI k).toInt64 <<< ((16 : Int32).toInt64 &&& 63)) >>> ((28 : Int32).toInt64 &&& 63)) &&& 1 = 0 := by decide +kernel
theorem pe_a16 : ∀ k, k < 18 → (((nI k).toInt64 <<< ((16 : Int32).toInt64 &&& 63)) >>> ((16 : Int32).toInt64 &&& 63)) &&& 255 = lN k := by decide +kernel
theorem pe_a0 : ∀ k, k < 18 → ((nI k).toInt64 <<< ((16 : Int32).toInt64 &&& 63)) &&& 65535 = 0 := by decide +kernel
theorem pe_v24 : ∀ k, k < 600 → ((nI k).toInt64 >>> ((24 : Int32).toInt64 &&& 63)) &&& 15 = 0 := by decide +kernel
theorem pe_v28 : ∀ k, k < 600 → ((nI k).toInt64 >>> ((28 : Int32).toInt64 &&& 63)) &&& 1 = 0 := by decide +kernel
theorem pe_v16 : ∀ k, k < 600 → ((nI k).toInt64 >>> ((16 : Int32).toInt64 &&& 63)) &&& 255 = 0 := by decide +kernel
theorem pe_v00 : ∀ k, k < 600 → (nI k).toInt64 &&& 65535 = lN k := by decide +kernel
theorem pe_ok_len {k A x : Nat} (hk : k < 6) (hA : A < 18) (hx : x < 600) : ((pe_ok k A x >>> ((24 : Int32).toInt64 &&& 63)) &&& 15).toInt32 = nI k := by
  unfold pe_ok
  rw [Int64.shiftRight_or, Int64.shiftRight_or, pe_ao, pe_ao, pe_k24 k hk, pe_a24 A hA, pe_v24 x hx, Int64.or_zero, Int64.or_zero, lN_i]
theorem pe_ok_bit {k A x : Nat} (hk : k < 6) (hA : A < 18) (hx : x < 600) : ¬ (pe_ok k A x >>> ((28 : Int32).toInt64 &&& 63)) &&& 1 = 1 := by
  unfold pe_ok
  rw [Int64.shiftRight_or, Int64.shiftRight_or, pe_ao, pe_ao, pe_k28 k hk, pe_a28 A hA, pe_v28 x hx]
  decide
theorem pe_ok_val {k A x : Nat} (hk : k < 6) (hA : A < 18) (hx : x < 600) : (pe_ok k A x &&& 65535).toInt32 = nI x := by
  unfold pe_ok
  rw [pe_ao, pe_ao, pe_k0 k hk, pe_a0 A hA, pe_v00 x hx, Int64.or_zero, Int64.zero_or, lN_i]
theorem pe_ok_al {k A x : Nat} (hk : k < 6) (hA : A < 18) (hx : x < 600) : ((pe_ok k A x >>> ((16 : Int32).toInt64 &&& 63)) &&& 255).toInt32 = nI A := by
  unfold pe_ok
  rw [Int64.shiftRight_or, Int64.shiftRight_or, pe_ao, pe_ao, pe_k16 k hk, pe_a16 A hA, pe_v16 x hx, Int64.zero_or, Int64.or_zero, lN_i]
end
section
/-! p18: pathResult -/
theorem pe_bit32 : ∀ k, k < 6 → ∀ i, i < k → ∀ v, v < 32 → (nI v >>> (((nI k - 1) - nI i) &&& 31)) &&& 1 = nI (v / 2 ^ (k - 1 - i) % 2) := by decide +kernel
theorem pe_bitv {k i v : Nat} (hk : k < 6) (hi : i < k) (hv : v < 32) : (nI v >>> (((nI k - 1) - nI i) &&& 31)) &&& 1 = nI (am_b1 (pe_b k v i)) := by
  rw [pe_bit32 k hk i hi v hv, pe_b_i hi rfl]
theorem pe_M1_m {mC mA f w i A c : Nat} {x : Bool} (h : mC ≤ i) : pe_M1 mC mA f w x i A c = (false, i, A, c, 0) := if_pos h
theorem pe_M1_0 {mC mA f w i A c : Nat} (h : ¬ mC ≤ i) : pe_M1 mC mA f w false i A c = (true, i + 1, A, c, 0) := by
  unfold pe_M1
  rw [if_neg h, if_neg (by decide)]
theorem pe_M1_1 {mC mA f w i A c : Nat} (h : ¬ mC ≤ i) (hf : f = 1) (ha : mA ≤ A) : pe_M1 mC mA f w true i A c = (false, i + 1, A, c, 0) := by
  unfold pe_M1
  rw [if_neg h, if_pos rfl, if_neg (by omega), if_pos hf, if_pos ha]
theorem pe_M1_1' {mC mA f w i A c : Nat} (h : ¬ mC ≤ i) (hf : f = 1) (ha : ¬ mA ≤ A) : pe_M1 mC mA f w true i A c = (true, i + 1, A + 1, c, w) := by
  unfold pe_M1
  rw [if_neg h, if_pos rfl, if_neg (by omega), if_pos hf, if_neg ha]
theorem pe_M1_z {mC mA f w i A c : Nat} (h : ¬ mC ≤ i) (hf : f = 0) : pe_M1 mC mA f w true i A c = (true, i + 1, A, c, w) := by
  unfold pe_M1
  rw [if_neg h, if_pos rfl, if_pos hf]
theorem pe_M1_2 {mC mA f w i A c : Nat} (h : ¬ mC ≤ i) (hf : ¬ f = 0) (hf1 : ¬ f = 1) : pe_M1 mC mA f w true i A c = (true, i + 1, A, c + 1, w) := by
  unfold pe_M1
  rw [if_neg h, if_pos rfl, if_neg hf, if_neg hf1]
theorem pe_M_t {mC mA : Nat} {f w : Nat → Nat} {b : Nat → Bool} {r i A c t i' A' c' d : Nat} (e : pe_M1 mC mA (f i) (w i) (b i) i A c = (true, i', A', c', d)) : pe_M mC mA f w b (r + 1) i A c t = pe_M mC mA f w b r (i + 1) A' c' (t + d) := by
  rw [pe_M_s, e]
  rfl
theorem pe_M_f {mC mA : Nat} {f w : Nat → Nat} {b : Nat → Bool} {r i A c t i' A' c' d : Nat} (e : pe_M1 mC mA (f i) (w i) (b i) i A c = (false, i', A', c', d)) : pe_M mC mA f w b (r + 1) i A c t = (false, i', A, c, t) := by
  rw [pe_M_s, e]
  rfl
/-- how far a result may go -/
theorem pe_M_b {mC mA k : Nat} {f w : Nat → Nat} {b : Nat → Bool} (hw : ∀ i, w i ≤ 112) : ∀ r i A c t : Nat, i + r = k → A ≤ mA → c ≤ i → t ≤ 112 * i → (pe_M mC mA f w b r i A c t).2.1 ≤ k ∧ (pe_M mC mA f w b r i A c t).2.2.1 ≤ mA ∧ (pe_M mC mA f w b r i A c t).2.2.2.1 ≤ k ∧ (pe_M mC mA f w b r i A c t).2.2.2.2 ≤ 112 * k := by
  intro r
  induction r with
  | zero =>
    intro i A c t hi hA hc ht
    have e : i = k := by omega
    rw [← e]
    exact ⟨Nat.le_refl _, hA, hc, ht⟩
  | succ r ih =>
    intro i A c t hi hA hc ht
    have hwi := hw i
    by_cases m : mC ≤ i
    · rw [pe_M_f (pe_M1_m m)]
      exact ⟨by show i ≤ k; omega, hA, by show c ≤ k; omega, by show t ≤ 112 * k; omega⟩
    cases hb : b i with
    | false =>
      rw [pe_M_t (by rw [hb]; exact pe_M1_0 m)]
      exact ih _ _ _ _ (by omega) hA (by omega) (by omega)
    | true =>
      by_cases f1 : f i = 1
      · by_cases ma : mA ≤ A
        · rw [pe_M_f (by rw [hb]; exact pe_M1_1 m f1 ma)]
          exact ⟨by show i + 1 ≤ k; omega, hA, by show c ≤ k; omega, by show t ≤ 112 * k; omega⟩
        · rw [pe_M_t (by rw [hb]; exact pe_M1_1' m f1 ma)]
          exact ih _ _ _ _ (by omega) (by omega) (by omega) (by omega)
      · by_cases f0 : f i = 0
        · rw [pe_M_t (by rw [hb]; exact pe_M1_z m f0)]
          exact ih _ _ _ _ (by omega) hA (by omega) (by omega)
        · rw [pe_M_t (by rw [hb]; exact pe_M1_2 m f0 f1)]
          exact ih _ _ _ _ (by omega) hA (by omega) (by omega)
def pe_enc (mA k c : Nat) (R : Bool × Nat × Nat × Nat × Nat) : Int64 := if R.1 = true then (if mA ≤ R.2.2.1 then pe_ff k else if R.2.2.2.2 < c then pe_ok k (R.2.2.1 + 1) (R.2.2.2.2 + R.2.2.2.1) else pe_ff k) else pe_ff R.2.1
theorem pe_96 {post : Int64 → Prop} {L : Nat} {xs : Nat → Int32} {J : Int32 → Int32 → Int32 → Int32 → Int32 → Prop} {i t : Nat} {x1 x2 x3 x4 x5 x6 x7 x9 : Int32} (hL : L ≤ 260) (hi : i < 8) (h : J x6 x7 (nI (t + pe_w L xs i)) x9 (nI (i + 1))) : wL_pathResult_96 post L xs J x1 x2 x3 x4 x5 x6 x7 (nI t) x9 (nI i) := by
  unfold wL_pathResult_96
  exact pe_wt hL hi (nm_r (nI_add _ _) (nm_r (nI_1 i) h))
theorem pe_87 {post : Int64 → Prop} {L : Nat} {xs : Nat → Int32} {J : Int32 → Int32 → Int32 → Int32 → Int32 → Prop} {i t f c c' : Nat} {x1 x2 x3 x4 x5 x6 x9 : Int32} (hL : L ≤ 260) (hi : i < 8) (hf : f < 3) (h2 : f = 2 → c' = c + 1) (h1 : ¬ f = 2 → c' = c) (h : J x6 (nI c') (nI (t + pe_w L xs i)) x9 (nI (i + 1))) : wL_pathResult_87 post L xs J x1 x2 x3 x4 x5 x6 (nI c) (nI t) x9 (nI i) (nI f) := by
  by_cases q : f = 2
  · rw [h2 q] at h
    subst q
    exact br_t rfl (nm_r (nI_1 c) (pe_96 hL hi h))
  · rw [h1 q] at h
    exact br_f (fun z => q ((nI_eq (b := 2) (by omega) (by omega)).mp z)) (pe_96 hL hi h)
theorem pe_f_lt (L : Nat) (xs : Nat → Int32) (sp i : Nat) : pe_f (pe_g L xs) sp i < 3 := by
  have h := pe_g_lt L xs i
  unfold pe_f
  by_cases q : sp < pe_u (pe_g L xs) sp i + pe_ex (pe_g L xs i)
  · rw [if_pos q]; omega
  · rw [if_neg q]; exact h
theorem pe_path0 {post : Int64 → Prop} {L : Nat} {xs : Nat → Int32} {k mC mA c v : Nat} (hL : L ≤ 260) (hk : k < 6) (hC : mC ≤ 6) (hA : mA ≤ 16) (hc : c < 1000) (hv : v < 32) :
    ∀ r i A cn t : Nat, i + r = k → i ≤ mC → A ≤ mA → cn ≤ i → t ≤ 112 * i → post (pe_enc mA k c (pe_M mC mA (pe_f (pe_g L xs) (32 - (9 + 4 * k))) (pe_w L xs) (pe_b k v) r i A cn t)) → wL_pathResult_15 post L xs (nI k) (nI mC) (nI mA) (nI c) (nI v) (r + 1) (nI A) (nI cn) (nI t) (nI i) (nI i) := by
  intro r
  induction r with
  | zero =>
    intro i A cn t hi him hAm hcn ht h
    have e : i = k := by omega
    subst e
    have e0 : pe_M mC mA (pe_f (pe_g L xs) (32 - (9 + 4 * i))) (pe_w L xs) (pe_b i v) 0 i A cn t = (true, i, A, cn, t) := rfl
    rw [e0] at h
    unfold pe_enc at h
    rw [if_pos rfl] at h
    rw [wL_pathResult_15]
    refine br_t (Int32.le_refl _) (br_c (fun q => ?_) (fun q => nm_r (nI_1 A) (br_c (fun z => ?_) (fun z => ?_))))
    · have q' := (nI_eq (by omega) (by omega)).mp q
      rw [if_pos (by show mA ≤ A; omega)] at h
      exact h
    · have q' : ¬ mA ≤ A := fun y => q (by rw [show A = mA by omega])
      have z' : t < c := (nI_ltI (by omega) (by omega)).mp z
      rw [if_neg q', if_pos z'] at h
      rw [nI_add]
      exact h
    · have q' : ¬ mA ≤ A := fun y => q (by rw [show A = mA by omega])
      have z' : ¬ t < c := fun y => z (nI_lt y (by omega))
      rw [if_neg q', if_neg z'] at h
      exact h
  | succ r ih =>
    intro i A cn t hi him hAm hcn ht h
    rw [wL_pathResult_15]
    refine br_f (nI_ge (by omega) (by omega)) ?_
    by_cases m : mC ≤ i
    · have em : i = mC := by omega
      rw [pe_M_f (pe_M1_m m)] at h
      unfold pe_enc at h
      rw [if_neg pe_ft] at h
      exact br_t (by rw [em]) h
    refine br_f (fun q => m (by rw [(nI_eq (by omega) (by omega)).mp q]; exact Nat.le_refl _)) (nm_r (nI_1 i) (nm_r (pe_bitv hk (by omega) hv) ?_))
    cases hb : pe_b k v i with
    | false =>
      rw [pe_M_t (by rw [hb]; exact pe_M1_0 m)] at h
      exact br_f (by decide) (nm_r (nI_1 i) (ih (i + 1) A cn t (by omega) (by omega) hAm (by omega) (by omega) h))
    | true =>
      have hw := pe_w_lt L xs i
      have hf := pe_f_lt L xs (32 - (9 + 4 * k)) i
      refine br_t rfl (pe_eff hL (by omega) hk ?_)
      by_cases f1 : pe_f (pe_g L xs) (32 - (9 + 4 * k)) i = 1
      · refine br_t (by rw [f1]; rfl) ?_
        by_cases ma : mA ≤ A
        · rw [pe_M_f (by rw [hb]; exact pe_M1_1 m f1 ma)] at h
          unfold pe_enc at h
          rw [if_neg pe_ft] at h
          have ea : A = mA := by omega
          refine br_t (by rw [ea]) ?_
          rw [nI_1]
          exact h
        · rw [pe_M_t (by rw [hb]; exact pe_M1_1' m f1 ma)] at h
          exact br_f (fun q => ma (by rw [(nI_eq (by omega) (by omega)).mp q]; exact Nat.le_refl _)) (nm_r (nI_1 A) (pe_87 hL (by omega) hf (fun z => absurd (f1.symm.trans z) (by decide)) (fun _ => rfl) (ih (i + 1) (A + 1) cn (t + pe_w L xs i) (by omega) (by omega) (by omega) (by omega) (by omega) h)))
      · refine br_f (fun q => f1 ((nI_eq (b := 1) (by omega) (by omega)).mp q)) ?_
        by_cases f0 : pe_f (pe_g L xs) (32 - (9 + 4 * k)) i = 0
        · rw [pe_M_t (by rw [hb]; exact pe_M1_z m f0)] at h
          exact pe_87 hL (by omega) hf (fun z => absurd (f0.symm.trans z) (by decide)) (fun _ => rfl) (ih (i + 1) A cn (t + pe_w L xs i) (by omega) (by omega) hAm (by omega) (by omega) h)
        · rw [pe_M_t (by rw [hb]; exact pe_M1_2 m f0 f1)] at h
          exact pe_87 (c' := cn + 1) hL (by omega) hf (fun _ => rfl) (fun z => absurd (show pe_f (pe_g L xs) (32 - (9 + 4 * k)) i = 2 by omega) z) (ih (i + 1) A (cn + 1) (t + pe_w L xs i) (by omega) (by omega) hAm (by omega) (by omega) h)
theorem pe_path {post : Int64 → Prop} {L : Nat} {xs : Nat → Int32} {k mC mA c v : Nat} (hL : L ≤ 260) (hk : k < 6) (hC : mC ≤ 6) (h1 : 1 ≤ mA) (hA : mA ≤ 16) (hc : c < 1000) (hv : v < 32) (h : post (pe_enc mA k c (pe_M mC mA (pe_f (pe_g L xs) (32 - (9 + 4 * k))) (pe_w L xs) (pe_b k v) k 0 1 0 0))) : wpL_pathResult post L xs () (nI k) (nI mC) (nI mA) (nI c) (nI v) :=
  ⟨k + 1, pe_path0 hL hk hC hA hc hv k 0 1 0 0 (by omega) (by omega) h1 (by omega) (by omega) h⟩
end
section
/-! p18: next() from path to path, on the component's side alone -/
def pe_N0 (mC mA n : Nat) (tk ta : Nat → Int32) (sols fails lK lV lA : Int32) (lc : Nat) (lb : Nat → Bool) (b : Nat → Bool) (L0 : Nat) (u : St2) : Prop :=
  ∃ i f : Nat, i ≤ am_nm b 6 ∧ 65 ≤ f + i ∧ ∀ post : Int32 → St2 → Prop, (∀ (f_failed f_choicesMade f_allocsMade f_visiting f_position f_environment f_resultIsClosure f_resultValue f_depth : Int32) (en a_locationVariable a_locationOuter a_locationIsClosure a_locationValue a_closureToken a_closureEnvironment a_frameToken a_frameEnvironment a_frameHasFirst a_frameFirstIsClosure a_frameFirstValue : Nat → Int32), (∀ j, j < n → en j = nI (am_eN tk n j)) → wX_next_11 post f (nI i) (nI mC) (nI mA) (nI n) 1 sols fails lK lV (nI (am_nm lb lc)) (nI lc) lA (nI (am_nm b L0)) (nI L0) 1 f_failed f_choicesMade f_allocsMade f_visiting f_position f_environment f_resultIsClosure f_resultValue f_depth tk ta en a_locationVariable a_locationOuter a_locationIsClosure a_locationValue a_closureToken a_closureEnvironment a_frameToken a_frameEnvironment a_frameHasFirst a_frameFirstIsClosure a_frameFirstValue) → wpX_next post u
def pe_N1 (mC mA n : Nat) (tk ta : Nat → Int32) (sols fails lK lV lA : Int32) (lc : Nat) (lb : Nat → Bool) (u : St2) : Prop :=
  ∀ post : Int32 → St2 → Prop, (∀ u', am_RX mC mA n tk ta 2 sols fails lK lV lA lc lb true (fun _ => false) 0 u' → post 0 u') → wpX_next post u
section
variable {mC mA n : Nat} {tk ta : Nat → Int32} {ph sols fails lK lV lA : Int32} {lc : Nat} {lb b : Nat → Bool} {L0 : Nat} {u : St2}
theorem pe_N0_of (h : am_RX mC mA n tk ta 1 sols fails lK lV lA lc lb false b L0 u) : pe_N0 mC mA n tk ta sols fails lK lV lA lc lb b L0 u := by
  obtain ⟨f_steering, f_steeringLength, f_pathLeft, f_failed, f_choicesMade, f_allocsMade, f_visiting, f_position, f_environment, f_resultIsClosure, f_resultValue, f_depth, a_ends, a_locationVariable, a_locationOuter, a_locationIsClosure, a_locationValue, a_closureToken, a_closureEnvironment, a_frameToken, a_frameEnvironment, a_frameHasFirst, a_frameFirstIsClosure, a_frameFirstValue, rfl, hx⟩ := h
  obtain ⟨hen, x1, x2⟩ := hx (by decide)
  obtain ⟨x3, x4⟩ := x2 rfl
  subst x1
  subst x3
  subst x4
  exact ⟨0, 65, Nat.zero_le _, Nat.le_refl _, fun post h => br_f (by decide) ⟨65, h _ _ _ _ _ _ _ _ _ _ _ _ _ _ _ _ _ _ _ _ _ hen⟩⟩
theorem pe_N1_of (p0 : ¬ ph = 0) (h : am_RX mC mA n tk ta ph sols fails lK lV lA lc lb true b L0 u) : pe_N1 mC mA n tk ta sols fails lK lV lA lc lb u := by
  obtain ⟨f_steering, f_steeringLength, f_pathLeft, f_failed, f_choicesMade, f_allocsMade, f_visiting, f_position, f_environment, f_resultIsClosure, f_resultValue, f_depth, a_ends, a_locationVariable, a_locationOuter, a_locationIsClosure, a_locationValue, a_closureToken, a_closureEnvironment, a_frameToken, a_frameEnvironment, a_frameHasFirst, a_frameFirstIsClosure, a_frameFirstValue, rfl, hx⟩ := h
  obtain ⟨hen, x1, x2⟩ := hx p0
  intro post h
  have g := h (nI mC, nI mA, nI n, 2, sols, fails, lK, lV, nI (am_nm lb lc), nI lc, lA, f_steering, f_steeringLength, f_pathLeft, f_failed, f_choicesMade, f_allocsMade, f_visiting, f_position, f_environment, f_resultIsClosure, f_resultValue, f_depth, tk, ta, a_ends, a_locationVariable, a_locationOuter, a_locationIsClosure, a_locationValue, a_closureToken, a_closureEnvironment, a_frameToken, a_frameEnvironment, a_frameHasFirst, a_frameFirstIsClosure, a_frameFirstValue) ⟨f_steering, f_steeringLength, f_pathLeft, f_failed, f_choicesMade, f_allocsMade, f_visiting, f_position, f_environment, f_resultIsClosure, f_resultValue, f_depth, a_ends, a_locationVariable, a_locationOuter, a_locationIsClosure, a_locationValue, a_closureToken, a_closureEnvironment, a_frameToken, a_frameEnvironment, a_frameHasFirst, a_frameFirstIsClosure, a_frameFirstValue, rfl, fun _ => ⟨hen, x1, fun z => absurd z (by decide)⟩⟩
  refine br_f p0 ⟨1, ?_⟩
  rw [wX_next_11]
  exact br_f (by decide) (br_t x1 g)
theorem pe_N0_f0 (hC : mC ≤ 6) (hA : mA ≤ 16) (hn : n ≤ 32) (hK : ∀ i, i < n → am_kd (tk i)) (hV : am_V mC mA n tk ta b L0) (hr : (am_run n tk ta mC mA b).1 = false) (hq : am_la b (am_us (am_run n tk ta mC mA b).2.2.2) = 0) (h : pe_N0 mC mA n tk ta sols fails lK lV lA lc lb b L0 u) : pe_N1 mC mA n tk ta sols (fails + 1) lK lV lA lc lb u := by
  obtain ⟨i, f, hi, hf, hN⟩ := h
  have h64 := am_nm_le (b := b) (Nat.le_refl 6)
  obtain ⟨f, rfl⟩ : ∃ f', f = f' + 1 + 1 := ⟨f - 2, by omega⟩
  intro post h
  refine hN post ?_
  intro f_failed f_choicesMade f_allocsMade f_visiting f_position f_environment f_resultIsClosure f_resultValue f_depth en a_locationVariable a_locationOuter a_locationIsClosure a_locationValue a_closureToken a_closureEnvironment a_frameToken a_frameEnvironment a_frameHasFirst a_frameFirstIsClosure a_frameFirstValue hen
  refine am_xpF hC hA hn hK hV hen (by omega) hr ?_
  intro f_steering f_steeringLength f_pathLeft f_failed f_choicesMade f_allocsMade f_visiting f_position f_environment f_resultIsClosure f_resultValue f_depth a_locationVariable a_locationOuter a_locationIsClosure a_locationValue a_closureToken a_closureEnvironment a_frameToken a_frameEnvironment a_frameHasFirst a_frameFirstIsClosure a_frameFirstValue hh
  have e : f_pathLeft = am_pl true := by rw [hh.1, am_ov_t hq]
  have g := h (nI mC, nI mA, nI n, 2, sols, fails + 1, lK, lV, nI (am_nm lb lc), nI lc, lA, f_steering, f_steeringLength, f_pathLeft, f_failed, f_choicesMade, f_allocsMade, f_visiting, f_position, f_environment, f_resultIsClosure, f_resultValue, f_depth, tk, ta, en, a_locationVariable, a_locationOuter, a_locationIsClosure, a_locationValue, a_closureToken, a_closureEnvironment, a_frameToken, a_frameEnvironment, a_frameHasFirst, a_frameFirstIsClosure, a_frameFirstValue) ⟨f_steering, f_steeringLength, f_pathLeft, f_failed, f_choicesMade, f_allocsMade, f_visiting, f_position, f_environment, f_resultIsClosure, f_resultValue, f_depth, en, a_locationVariable, a_locationOuter, a_locationIsClosure, a_locationValue, a_closureToken, a_closureEnvironment, a_frameToken, a_frameEnvironment, a_frameHasFirst, a_frameFirstIsClosure, a_frameFirstValue, rfl, fun _ => ⟨hen, e, fun z => absurd z (by decide)⟩⟩
  rw [wX_next_11]
  exact br_c (fun _ => g) (fun _ => br_t e g)
theorem pe_N0_f1 {q : Nat} (hC : mC ≤ 6) (hA : mA ≤ 16) (hn : n ≤ 32) (hK : ∀ i, i < n → am_kd (tk i)) (hV : am_V mC mA n tk ta b L0) (hr : (am_run n tk ta mC mA b).1 = false) (hq : am_la b (am_us (am_run n tk ta mC mA b).2.2.2) = q + 1) (h : pe_N0 mC mA n tk ta sols fails lK lV lA lc lb b L0 u) : pe_N0 mC mA n tk ta sols (fails + 1) lK lV lA lc lb (am_sb b q) (q + 1) u := by
  obtain ⟨i, f, hi, hf, hN⟩ := h
  have h64 := am_nm_le (b := b) (Nat.le_refl 6)
  have hG := am_run_G (tk := tk) (ta := ta) (mC := mC) b hA hn
  have hg := am_V_grow (Nat.le_trans hG.1.1 hC) hq
  obtain ⟨f, rfl⟩ : ∃ f', f = f' + 1 := ⟨f - 1, by omega⟩
  refine ⟨i + 1, f, by omega, by omega, fun post h => hN post ?_⟩
  intro f_failed f_choicesMade f_allocsMade f_visiting f_position f_environment f_resultIsClosure f_resultValue f_depth en a_locationVariable a_locationOuter a_locationIsClosure a_locationValue a_closureToken a_closureEnvironment a_frameToken a_frameEnvironment a_frameHasFirst a_frameFirstIsClosure a_frameFirstValue hen
  refine am_xpF hC hA hn hK hV hen (by omega) hr ?_
  intro f_steering f_steeringLength f_pathLeft f_failed f_choicesMade f_allocsMade f_visiting f_position f_environment f_resultIsClosure f_resultValue f_depth a_locationVariable a_locationOuter a_locationIsClosure a_locationValue a_closureToken a_closureEnvironment a_frameToken a_frameEnvironment a_frameHasFirst a_frameFirstIsClosure a_frameFirstValue hh
  obtain ⟨e1, e2⟩ := hh
  obtain ⟨e3, e4⟩ := e2 (am_ov_f hq)
  rw [am_ov_f hq] at e1
  rw [am_nb_q hq, hq] at e3
  rw [hq] at e4
  subst e1
  subst e3
  subst e4
  exact h _ _ _ _ _ _ _ _ _ _ _ _ _ _ _ _ _ _ _ _ _ hen
theorem pe_N0_s {post : Int32 → St2 → Prop} {k : Nat} {x : Int32} {s' : am_S} (hC : mC ≤ 6) (hA : mA ≤ 16) (hn : n ≤ 32) (hK : ∀ i, i < n → am_kd (tk i)) (hV : am_V mC mA n tk ta b L0) (hr : (am_run n tk ta mC mA b) = (true, 1, x, s')) (hu : am_us s' = k) (hN : pe_N0 mC mA n tk ta sols fails lK lV lA lc lb b L0 u)
    (h : ∀ u', am_RX mC mA n tk ta 1 (sols + 1) fails 1 x (nI (am_al s')) k b (am_ov b k) (am_nb b k) (am_la b k) u' → post 1 u') : wpX_next post u := by
  obtain ⟨i, f, hi, hf, hN⟩ := hN
  have h64 := am_nm_le (b := b) (Nat.le_refl 6)
  obtain ⟨f, rfl⟩ : ∃ f', f = f' + 1 := ⟨f - 1, by omega⟩
  refine hN post ?_
  intro f_failed f_choicesMade f_allocsMade f_visiting f_position f_environment f_resultIsClosure f_resultValue f_depth en a_locationVariable a_locationOuter a_locationIsClosure a_locationValue a_closureToken a_closureEnvironment a_frameToken a_frameEnvironment a_frameHasFirst a_frameFirstIsClosure a_frameFirstValue hen
  refine am_xpS hC hA hn hK hV hen (by omega) (by rw [hr]) ?_
  intro u' hR
  rw [hr] at hR
  have el : am_lv s' 1 x = x := if_neg (by decide)
  refine h u' ?_
  have hR2 : am_RX mC mA n tk ta 1 (sols + 1) fails 1 (am_lv s' 1 x) (nI (am_al s')) (am_us s') b (am_ov b (am_us s')) (am_nb b (am_us s')) (am_la b (am_us s')) u' := hR
  rw [el, hu] at hR2
  exact hR2
end
end
section
/-! p18: the law's loop over the choice vectors -/
def pe_sk (k mC mA n : Nat) (tk ta : Nat → Int32) (v : Nat) : Prop := v % 2 ^ (k - am_us (am_run n tk ta mC mA (pe_b k v)).2.2.2) ≠ 0
theorem pe_vec {k mC mA n : Nat} {tk ta : Nat → Int32} {b : Nat → Bool} {L0 : Nat} (hV : am_V mC mA n tk ta b L0) (hu : am_us (am_run n tk ta mC mA b).2.2.2 ≤ k) :
    am_nm b k % 2 ^ (k - am_us (am_run n tk ta mC mA b).2.2.2) = 0 ∧ pe_b k (am_nm b k) = b ∧
    (am_la b (am_us (am_run n tk ta mC mA b).2.2.2) = 0 → ∀ v, am_nm b k < v → v < 2 ^ k → pe_sk k mC mA n tk ta v) ∧
    (∀ q, am_la b (am_us (am_run n tk ta mC mA b).2.2.2) = q + 1 → am_nm b k < am_nm (am_sb b q) k ∧ ∀ v, am_nm b k < v → v < am_nm (am_sb b q) k → pe_sk k mC mA n tk ta v) := by
  have hz : ∀ j, am_us (am_run n tk ta mC mA b).2.2.2 ≤ j → b j = false := fun j hj => hV.2.1 j (Nat.le_trans hV.2.2 hj)
  have ek : am_us (am_run n tk ta mC mA b).2.2.2 + (k - am_us (am_run n tk ta mC mA b).2.2.2) = k := by omega
  have e0 := pe_nm_z hz (k - am_us (am_run n tk ta mC mA b).2.2.2)
  rw [ek] at e0
  have hD : 0 < 2 ^ (k - am_us (am_run n tk ta mC mA b).2.2.2) := Nat.two_pow_pos _
  have key : ∀ v, am_nm b k < v → v < (am_nm b (am_us (am_run n tk ta mC mA b).2.2.2) + 1) * 2 ^ (k - am_us (am_run n tk ta mC mA b).2.2.2) → pe_sk k mC mA n tk ta v := by
    intro v h1 h2
    have hd := pe_div hD (by rw [← e0]; exact Nat.le_of_lt h1) h2
    have hs := pe_same (n := n) (tk := tk) (ta := ta) (mC := mC) (mA := mA) (b := b) (b2 := pe_b k v) (fun i hi => (pe_b_agree hu hd i hi).symm)
    unfold pe_sk
    rw [hs]
    exact pe_mod hd (by rw [← e0]; exact Nat.ne_of_gt h1)
  refine ⟨by rw [e0]; exact pe_mod0 _ _, pe_b_nm (fun j hj => hz j (by omega)), fun hl v h1 h2 => ?_, fun q hl => ?_⟩
  · have ht := pe_nm_top _ hl
    exact key v h1 (by rw [ht, ← Nat.pow_add, ek]; exact h2)
  · have hn2 := pe_nm_next _ hl
    have hq := (am_la_q _ hl).1
    have e1 := pe_nm_z (b := am_sb b q) (u := am_us (am_run n tk ta mC mA b).2.2.2) (fun j hj => am_sb_hi (by omega)) (k - am_us (am_run n tk ta mC mA b).2.2.2)
    rw [ek, hn2] at e1
    refine ⟨?_, fun v h1 h2 => key v h1 (by rw [← e1]; exact h2)⟩
    rw [e0, e1, Nat.add_mul]
    omega
/-- what stands throughout -/
def pe_H (L : Nat) (xs : Nat → Int32) (k mC mA c n : Nat) (tk ta : Nat → Int32) : Prop := L ≤ 260 ∧ 1 ≤ k ∧ k < 6 ∧ mC ≤ 6 ∧ 1 ≤ mA ∧ mA ≤ 16 ∧ c < 600 ∧ n ≤ 32 ∧ n = pe_P k (pe_f (pe_g L xs) (32 - (9 + 4 * k))) (pe_w L xs) k + 7 ∧ pe_at tk ta 0 (pe_fl k (pe_f (pe_g L xs) (32 - (9 + 4 * k))) (pe_w L xs) k ++ pe_E c) ∧ ∀ i, i < n → am_kd (tk i)
section
variable {L : Nat} {xs : Nat → Int32} {k mC mA c n : Nat} {tk ta : Nat → Int32}
theorem pe_res (H : pe_H L xs k mC mA c n tk ta) (b : Nat → Bool) :
    am_us (am_run n tk ta mC mA b).2.2.2 ≤ k ∧ ((am_run n tk ta mC mA b).1 = false → pe_enc mA k c (pe_M mC mA (pe_f (pe_g L xs) (32 - (9 + 4 * k))) (pe_w L xs) b k 0 1 0 0) = pe_ff (am_us (am_run n tk ta mC mA b).2.2.2)) ∧
    ((am_run n tk ta mC mA b).1 = true → ∃ (x : Nat) (s' : am_S), (am_run n tk ta mC mA b) = (true, 1, nI x, s') ∧ am_us s' = k ∧ am_al s' < 18 ∧ x < 600 ∧ pe_enc mA k c (pe_M mC mA (pe_f (pe_g L xs) (32 - (9 + 4 * k))) (pe_w L xs) b k 0 1 0 0) = pe_ok k (am_al s') x) := by
  obtain ⟨hL, hk1, hk, hC, h1, hA, hc, hn, en, hat, hK⟩ := H
  obtain ⟨b1, b2, b3, b4⟩ := pe_M_b (mC := mC) (mA := mA) (k := k) (f := pe_f (pe_g L xs) (32 - (9 + 4 * k))) (w := pe_w L xs) (b := b) (pe_w_lt L xs) k 0 1 0 0 (by omega) h1 (by omega) (by omega)
  obtain ⟨t1, t2, t3⟩ := pe_top (b := b) (mC := mC) hat en hk1 (by omega) h1 hA (by omega) (by omega)
  unfold pe_enc
  cases hR : (pe_M mC mA (pe_f (pe_g L xs) (32 - (9 + 4 * k))) (pe_w L xs) b k 0 1 0 0).1 with
  | false =>
    obtain ⟨r1, r2⟩ := t1 hR
    refine ⟨by omega, fun _ => ?_, fun z => absurd (r1.symm.trans z) (by decide)⟩
    rw [if_neg (by decide), r2]
  | true =>
    rw [if_pos rfl]
    by_cases q : mA ≤ (pe_M mC mA (pe_f (pe_g L xs) (32 - (9 + 4 * k))) (pe_w L xs) b k 0 1 0 0).2.2.1
    · obtain ⟨r1, r2⟩ := t2 hR (Or.inl q)
      refine ⟨by omega, fun _ => ?_, fun z => absurd (r1.symm.trans z) (by decide)⟩
      rw [if_pos q, r2]
    by_cases q2 : (pe_M mC mA (pe_f (pe_g L xs) (32 - (9 + 4 * k))) (pe_w L xs) b k 0 1 0 0).2.2.2.2 < c
    · obtain ⟨s', r1, r2, r3⟩ := t3 hR q q2
      rw [r1]
      refine ⟨by show am_us s' ≤ k; omega, fun z => absurd z (by show ¬ (true = false); decide), fun _ => ⟨_, s', rfl, r2, by omega, by omega, ?_⟩⟩
      rw [if_neg q, if_pos q2, r3]
    · obtain ⟨r1, r2⟩ := t2 hR (Or.inr (by omega))
      refine ⟨by omega, fun _ => ?_, fun z => absurd (r1.symm.trans z) (by decide)⟩
      rw [if_neg q, if_neg q2, r2]
def pe_Inv (k mC mA n : Nat) (tk ta : Nat → Int32) (v : Nat) (fails sols : Int32) (u : St2) : Prop :=
  ∃ (lK lV lA : Int32) (lc : Nat) (lb : Nat → Bool),
    (∃ (b : Nat → Bool) (L0 : Nat), am_V mC mA n tk ta b L0 ∧ v ≤ am_nm b k ∧ (∀ v', v ≤ v' → v' < am_nm b k → pe_sk k mC mA n tk ta v') ∧ pe_N0 mC mA n tk ta sols fails lK lV lA lc lb b L0 u) ∨
    ((∀ v', v ≤ v' → v' < 2 ^ k → pe_sk k mC mA n tk ta v') ∧ pe_N1 mC mA n tk ta sols fails lK lV lA lc lb u)
variable {v : Nat} {fails sols : Int32} {u : St2}
theorem pe_Inv_sk (h : pe_Inv k mC mA n tk ta v fails sols u) (H : pe_H L xs k mC mA c n tk ta) (hs : pe_sk k mC mA n tk ta v) : pe_Inv k mC mA n tk ta (v + 1) fails sols u := by
  obtain ⟨lK, lV, lA, lc, lb, h⟩ := h
  refine ⟨lK, lV, lA, lc, lb, ?_⟩
  rcases h with ⟨b, L0, hV, h1, h2, h3⟩ | ⟨h1, h2⟩
  · have hne : v ≠ am_nm b k := by
      intro z
      obtain ⟨p1, p2, _⟩ := pe_vec hV (pe_res H b).1
      unfold pe_sk at hs
      rw [z, p2] at hs
      exact hs p1
    exact Or.inl ⟨b, L0, hV, by omega, fun v' a1 a2 => h2 v' (by omega) a2, h3⟩
  · exact Or.inr ⟨fun v' a1 a2 => h1 v' (by omega) a2, h2⟩
/-- a vector that isn't skipped is the component's next one -/
theorem pe_Inv_at (h : pe_Inv k mC mA n tk ta v fails sols u) (hv : v < 2 ^ k) (hs : ¬ pe_sk k mC mA n tk ta v) : ∃ (lK lV lA : Int32) (lc : Nat) (lb : Nat → Bool) (b : Nat → Bool) (L0 : Nat), am_V mC mA n tk ta b L0 ∧ v = am_nm b k ∧ pe_N0 mC mA n tk ta sols fails lK lV lA lc lb b L0 u := by
  obtain ⟨lK, lV, lA, lc, lb, h⟩ := h
  rcases h with ⟨b, L0, hV, h1, h2, h3⟩ | ⟨h1, h2⟩
  · refine ⟨lK, lV, lA, lc, lb, b, L0, hV, ?_, h3⟩
    rcases Nat.lt_or_ge v (am_nm b k) with z | z
    · exact absurd (h2 v (Nat.le_refl v) z) hs
    · omega
  · exact absurd (h1 v (Nat.le_refl v) hv) hs
theorem pe_Inv_f {lK lV lA : Int32} {lc : Nat} {lb b : Nat → Bool} {L0 : Nat} (H : pe_H L xs k mC mA c n tk ta) (hV : am_V mC mA n tk ta b L0) (hr : (am_run n tk ta mC mA b).1 = false) (h : pe_N0 mC mA n tk ta sols fails lK lV lA lc lb b L0 u) : pe_Inv k mC mA n tk ta (am_nm b k + 1) (fails + 1) sols u := by
  obtain ⟨_, _, p3, p4⟩ := pe_vec hV (pe_res H b).1
  obtain ⟨hL, hk1, hk, hC, h1, hA, hc, hn, en, hat, hK⟩ := H
  refine ⟨lK, lV, lA, lc, lb, ?_⟩
  cases hq : am_la b (am_us (am_run n tk ta mC mA b).2.2.2) with
  | zero => exact Or.inr ⟨fun v' a1 a2 => p3 hq v' (by omega) a2, pe_N0_f0 hC hA hn hK hV hr hq h⟩
  | succ q =>
    obtain ⟨p5, p6⟩ := p4 q hq
    exact Or.inl ⟨am_sb b q, q + 1, am_V_nb hA hn hq, by omega, fun v' a1 a2 => p6 v' (by omega) a2, pe_N0_f1 hC hA hn hK hV hr hq h⟩
/-- behind a solution -/
theorem pe_Inv_s {lK lV lA : Int32} {lc : Nat} {lb b : Nat → Bool} {L0 : Nat} (H : pe_H L xs k mC mA c n tk ta) (hV : am_V mC mA n tk ta b L0) (hu : am_us (am_run n tk ta mC mA b).2.2.2 = k) (h : am_RX mC mA n tk ta 1 sols fails lK lV lA lc lb (am_ov b k) (am_nb b k) (am_la b k) u) : pe_Inv k mC mA n tk ta (am_nm b k + 1) fails sols u := by
  obtain ⟨_, _, p3, p4⟩ := pe_vec hV (pe_res H b).1
  obtain ⟨hL, hk1, hk, hC, h1, hA, hc, hn, en, hat, hK⟩ := H
  refine ⟨lK, lV, lA, lc, lb, ?_⟩
  cases hq : am_la b k with
  | zero =>
    rw [am_ov_t hq] at h
    exact Or.inr ⟨fun v' a1 a2 => p3 (by rw [hu]; exact hq) v' (by omega) a2, pe_N1_of (by decide) h⟩
  | succ q =>
    rw [am_ov_f hq, am_nb_q hq, hq] at h
    have hq2 : am_la b (am_us (am_run n tk ta mC mA b).2.2.2) = q + 1 := by rw [hu]; exact hq
    obtain ⟨p5, p6⟩ := p4 q hq2
    exact Or.inl ⟨am_sb b q, q + 1, am_V_nb hA hn hq2, by omega, fun v' a1 a2 => p6 v' (by omega) a2, pe_N0_of h⟩
theorem pe_nm00 : ∀ k, am_nm (fun _ => false) k = 0 := by
  intro k
  induction k with
  | zero => rfl
  | succ k ih => rw [am_nm_s, ih]; rfl
theorem pe_Inv_0 {lK lV lA : Int32} {lb : Nat → Bool} (h : am_RX mC mA n tk ta 1 sols fails lK lV lA 0 lb false (fun _ => false) 0 u) : pe_Inv k mC mA n tk ta 0 fails sols u :=
  ⟨_, _, _, _, _, Or.inl ⟨(fun _ => false), 0, am_V0 mC mA n tk ta, Nat.zero_le _, fun v' _ a2 => absurd a2 (by rw [pe_nm00]; omega), pe_N0_of h⟩⟩
end
end
section
/-! p18: the loops of the search -/
theorem pe_sh1 : ∀ k, k < 6 → (1 : Int32) <<< (nI k &&& 31) = nI (2 ^ k) := by decide +kernel
theorem pe_msk : ∀ k, k < 6 → ∀ l, l < k + 1 → ∀ v, v < 32 → nI v &&& (((1 : Int32) <<< ((nI k - nI l) &&& 31)) - 1) = nI (v % 2 ^ (k - l)) := by decide +kernel
section
variable {f_maxChoices f_maxAlloc f_held f_stage f_solutions f_failures f_lastKind f_lastValue f_lastChoices f_lastChoiceCount f_lastAllocCount f_steering f_steeringLength f_pathLeft f_failed f_choicesMade f_allocsMade f_visiting f_position f_environment f_resultIsClosure f_resultValue f_depth : Int32} {a_kinds a_args a_ends a_locationVariable a_locationOuter a_locationIsClosure a_locationValue a_closureToken a_closureEnvironment a_frameToken a_frameEnvironment a_frameHasFirst a_frameFirstIsClosure a_frameFirstValue : Nat → Int32}
theorem pe_623 {post : Int32 → Prop} {L : Nat} {xs : Nat → Int32} {J : Int32 → Int32 → Int32 → Int32 → Int32 → Int32 → Int32 → Int32 → Int32 → Int32 → Int32 → Int32 → Int32 → Int32 → Int32 → Int32 → Int32 → Int32 → Int32 → Int32 → Int32 → Int32 → Int32 → Int32 → (Nat → Int32) → (Nat → Int32) → (Nat → Int32) → (Nat → Int32) → (Nat → Int32) → (Nat → Int32) → (Nat → Int32) → (Nat → Int32) → (Nat → Int32) → (Nat → Int32) → (Nat → Int32) → (Nat → Int32) → (Nat → Int32) → (Nat → Int32) → Prop} {J2 : Int32 → Int32 → Int32 → Int32 → Int32 → Int32 → Int32 → Int32 → Int32 → Int32 → Int32 → Int32 → Int32 → Int32 → Int32 → Int32 → Int32 → Int32 → Int32 → Int32 → Int32 → Int32 → Int32 → Int32 → Int32 → Int32 → (Nat → Int32) → (Nat → Int32) → (Nat → Int32) → (Nat → Int32) → (Nat → Int32) → (Nat → Int32) → (Nat → Int32) → (Nat → Int32) → (Nat → Int32) → (Nat → Int32) → (Nat → Int32) → (Nat → Int32) → (Nat → Int32) → (Nat → Int32) → Prop} {k v : Nat} {x4 x5 x6 x9 : Int32} {kc ks : Nat} (hk : k < 6) (h : J2 f_failures f_solutions (nI (v + 1)) f_maxChoices f_maxAlloc f_held 1 f_solutions f_failures f_lastKind f_lastValue (nI v) (nI k) f_lastAllocCount f_steering f_steeringLength f_pathLeft f_failed f_choicesMade f_allocsMade f_visiting f_position f_environment f_resultIsClosure f_resultValue f_depth a_kinds a_args a_ends a_locationVariable a_locationOuter a_locationIsClosure a_locationValue a_closureToken a_closureEnvironment a_frameToken a_frameEnvironment a_frameHasFirst a_frameFirstIsClosure a_frameFirstValue) : ∀ d i : Nat, i + d = k → wL_law_623 post L xs J J2 (nI k) x4 x5 x6 x9 f_failures f_solutions (nI v) kc ks f_maxChoices f_maxAlloc f_held 1 f_solutions f_failures f_lastKind f_lastValue (nI v) (nI k) f_lastAllocCount f_steering f_steeringLength f_pathLeft f_failed f_choicesMade f_allocsMade f_visiting f_position f_environment f_resultIsClosure f_resultValue f_depth a_kinds a_args a_ends a_locationVariable a_locationOuter a_locationIsClosure a_locationValue a_closureToken a_closureEnvironment a_frameToken a_frameEnvironment a_frameHasFirst a_frameFirstIsClosure a_frameFirstValue (d + 1) (nI i) := by
  intro d
  induction d with
  | zero =>
    intro i hi
    rw [wL_law_623]
    exact br_t (nI_le (by omega) (by omega)) (br_t rfl (br_t rfl (br_t rfl (nm_r (nI_1 v) h))))
  | succ d ih =>
    intro i hi
    rw [wL_law_623]
    exact br_f (nI_ge (by omega) (by omega)) (br_f (nI_pos (by omega)) (br_t (nI_lt (by omega) (by omega)) (br_t rfl (nm_r (nI_1 i) (ih (i + 1) (by omega))))))
end
section
variable {L : Nat} {xs : Nat → Int32} {k mC mA c n : Nat} {tk ta : Nat → Int32} {post : Int32 → Prop} {J : Int32 → Int32 → Int32 → Int32 → Int32 → Int32 → Int32 → Int32 → Int32 → Int32 → Int32 → Int32 → Int32 → Int32 → Int32 → Int32 → Int32 → Int32 → Int32 → Int32 → Int32 → Int32 → Int32 → Int32 → (Nat → Int32) → (Nat → Int32) → (Nat → Int32) → (Nat → Int32) → (Nat → Int32) → (Nat → Int32) → (Nat → Int32) → (Nat → Int32) → (Nat → Int32) → (Nat → Int32) → (Nat → Int32) → (Nat → Int32) → (Nat → Int32) → (Nat → Int32) → Prop} {x9 : Int32} {kc ks : Nat}
theorem pe_467z (H : pe_H L xs k mC mA c n tk ta) (hJ0 : x9 = 0 → ∀ (f_maxChoices f_maxAlloc f_held f_stage f_solutions f_failures f_lastKind f_lastValue f_lastChoices f_lastChoiceCount f_lastAllocCount f_steering f_steeringLength f_pathLeft f_failed f_choicesMade f_allocsMade f_visiting f_position f_environment f_resultIsClosure f_resultValue f_depth : Int32) (a_kinds a_args a_ends a_locationVariable a_locationOuter a_locationIsClosure a_locationValue a_closureToken a_closureEnvironment a_frameToken a_frameEnvironment a_frameHasFirst a_frameFirstIsClosure a_frameFirstValue : Nat → Int32), am_RX mC mA n tk ta 1 0 0 0 0 0 0 (fun _ => false) false (fun _ => false) 0 (f_maxChoices, f_maxAlloc, f_held, f_stage, f_solutions, f_failures, f_lastKind, f_lastValue, f_lastChoices, f_lastChoiceCount, f_lastAllocCount, f_steering, f_steeringLength, f_pathLeft, f_failed, f_choicesMade, f_allocsMade, f_visiting, f_position, f_environment, f_resultIsClosure, f_resultValue, f_depth, a_kinds, a_args, a_ends, a_locationVariable, a_locationOuter, a_locationIsClosure, a_locationValue, a_closureToken, a_closureEnvironment, a_frameToken, a_frameEnvironment, a_frameHasFirst, a_frameFirstIsClosure, a_frameFirstValue) → ∀ y, y = x9 + 1 → J y f_maxChoices f_maxAlloc f_held f_stage f_solutions f_failures f_lastKind f_lastValue f_lastChoices f_lastChoiceCount f_lastAllocCount f_steering f_steeringLength f_pathLeft f_failed f_choicesMade f_allocsMade f_visiting f_position f_environment f_resultIsClosure f_resultValue f_depth a_kinds a_args a_ends a_locationVariable a_locationOuter a_locationIsClosure a_locationValue a_closureToken a_closureEnvironment a_frameToken a_frameEnvironment a_frameHasFirst a_frameFirstIsClosure a_frameFirstValue) (hJ1 : ¬ x9 = 0 → ∀ (f_maxChoices f_maxAlloc f_held f_stage f_solutions f_failures f_lastKind f_lastValue f_lastChoices f_lastChoiceCount f_lastAllocCount f_steering f_steeringLength f_pathLeft f_failed f_choicesMade f_allocsMade f_visiting f_position f_environment f_resultIsClosure f_resultValue f_depth : Int32) (a_kinds a_args a_ends a_locationVariable a_locationOuter a_locationIsClosure a_locationValue a_closureToken a_closureEnvironment a_frameToken a_frameEnvironment a_frameHasFirst a_frameFirstIsClosure a_frameFirstValue : Nat → Int32), ∀ y, y = x9 + 1 → J y f_maxChoices f_maxAlloc f_held f_stage f_solutions f_failures f_lastKind f_lastValue f_lastChoices f_lastChoiceCount f_lastAllocCount f_steering f_steeringLength f_pathLeft f_failed f_choicesMade f_allocsMade f_visiting f_position f_environment f_resultIsClosure f_resultValue f_depth a_kinds a_args a_ends a_locationVariable a_locationOuter a_locationIsClosure a_locationValue a_closureToken a_closureEnvironment a_frameToken a_frameEnvironment a_frameHasFirst a_frameFirstIsClosure a_frameFirstValue) {f : Nat} {fails sols : Int32} {lK lV lA : Int32} {lc : Nat} {lb : Nat → Bool} {f_maxChoices f_maxAlloc f_held f_stage f_solutions f_failures f_lastKind f_lastValue f_lastChoices f_lastChoiceCount f_lastAllocCount f_steering f_steeringLength f_pathLeft f_failed f_choicesMade f_allocsMade f_visiting f_position f_environment f_resultIsClosure f_resultValue f_depth : Int32} {a_kinds a_args a_ends a_locationVariable a_locationOuter a_locationIsClosure a_locationValue a_closureToken a_closureEnvironment a_frameToken a_frameEnvironment a_frameHasFirst a_frameFirstIsClosure a_frameFirstValue : Nat → Int32} (hN : pe_N1 mC mA n tk ta sols fails lK lV lA lc lb (f_maxChoices, f_maxAlloc, f_held, f_stage, f_solutions, f_failures, f_lastKind, f_lastValue, f_lastChoices, f_lastChoiceCount, f_lastAllocCount, f_steering, f_steeringLength, f_pathLeft, f_failed, f_choicesMade, f_allocsMade, f_visiting, f_position, f_environment, f_resultIsClosure, f_resultValue, f_depth, a_kinds, a_args, a_ends, a_locationVariable, a_locationOuter, a_locationIsClosure, a_locationValue, a_closureToken, a_closureEnvironment, a_frameToken, a_frameEnvironment, a_frameHasFirst, a_frameFirstIsClosure, a_frameFirstValue)) : wL_law_467 post L xs J (nI k) (nI mC) (nI mA) (nI c) x9 kc ks (f + 1) fails sols (nI (2 ^ k)) f_maxChoices f_maxAlloc f_held f_stage f_solutions f_failures f_lastKind f_lastValue f_lastChoices f_lastChoiceCount f_lastAllocCount f_steering f_steeringLength f_pathLeft f_failed f_choicesMade f_allocsMade f_visiting f_position f_environment f_resultIsClosure f_resultValue f_depth a_kinds a_args a_ends a_locationVariable a_locationOuter a_locationIsClosure a_locationValue a_closureToken a_closureEnvironment a_frameToken a_frameEnvironment a_frameHasFirst a_frameFirstIsClosure a_frameFirstValue := by
  obtain ⟨hL, hk1, hk, hC, h1, hA, hc, hn, en, hat, hK⟩ := H
  have h32 : 2 ^ k ≤ 2 ^ 5 := Nat.pow_le_pow_right (by decide) (by omega)
  rw [wL_law_467]
  refine br_t (by rw [pe_sh1 k hk]; exact Int32.le_refl _) (hN _ (fun u' hR => ?_))
  have hN2 := pe_N1_of (by decide) hR
  obtain ⟨f_steering, f_steeringLength, f_pathLeft, f_failed, f_choicesMade, f_allocsMade, f_visiting, f_position, f_environment, f_resultIsClosure, f_resultValue, f_depth, a_ends, a_locationVariable, a_locationOuter, a_locationIsClosure, a_locationValue, a_closureToken, a_closureEnvironment, a_frameToken, a_frameEnvironment, a_frameHasFirst, a_frameFirstIsClosure, a_frameFirstValue, rfl, hx⟩ := hR
  refine br_t rfl (br_t rfl (br_t rfl (br_t rfl (hN2 _ (fun u'' hR2 => ?_)))))
  obtain ⟨f_steering, f_steeringLength, f_pathLeft, f_failed, f_choicesMade, f_allocsMade, f_visiting, f_position, f_environment, f_resultIsClosure, f_resultValue, f_depth, a_ends, a_locationVariable, a_locationOuter, a_locationIsClosure, a_locationValue, a_closureToken, a_closureEnvironment, a_frameToken, a_frameEnvironment, a_frameHasFirst, a_frameFirstIsClosure, a_frameFirstValue, rfl, hx2⟩ := hR2
  have hen := (hx2 (by decide)).1
  refine br_t rfl (br_c (fun z => ?_) (fun z => hJ1 z _ _ _ _ _ _ _ _ _ _ _ _ _ _ _ _ _ _ _ _ _ _ _ _ _ _ _ _ _ _ _ _ _ _ _ _ _))
  exact br_f (by decide) (br_f (by decide) (br_t rfl (br_t rfl (br_t rfl (br_t rfl (hJ0 z _ _ _ _ _ _ _ _ _ _ _ _ _ _ _ _ _ _ _ _ _ _ _ _ _ _ _ _ _ _ _ _ _ _ _ _ _ ⟨_, _, _, _, _, _, _, _, _, _, _, _, _, _, _, _, _, _, _, _, _, _, _, _, rfl, fun _ => ⟨hen, rfl, fun _ => ⟨rfl, rfl⟩⟩⟩))))))
theorem pe_467 (H : pe_H L xs k mC mA c n tk ta) (hJ0 : x9 = 0 → ∀ (f_maxChoices f_maxAlloc f_held f_stage f_solutions f_failures f_lastKind f_lastValue f_lastChoices f_lastChoiceCount f_lastAllocCount f_steering f_steeringLength f_pathLeft f_failed f_choicesMade f_allocsMade f_visiting f_position f_environment f_resultIsClosure f_resultValue f_depth : Int32) (a_kinds a_args a_ends a_locationVariable a_locationOuter a_locationIsClosure a_locationValue a_closureToken a_closureEnvironment a_frameToken a_frameEnvironment a_frameHasFirst a_frameFirstIsClosure a_frameFirstValue : Nat → Int32), am_RX mC mA n tk ta 1 0 0 0 0 0 0 (fun _ => false) false (fun _ => false) 0 (f_maxChoices, f_maxAlloc, f_held, f_stage, f_solutions, f_failures, f_lastKind, f_lastValue, f_lastChoices, f_lastChoiceCount, f_lastAllocCount, f_steering, f_steeringLength, f_pathLeft, f_failed, f_choicesMade, f_allocsMade, f_visiting, f_position, f_environment, f_resultIsClosure, f_resultValue, f_depth, a_kinds, a_args, a_ends, a_locationVariable, a_locationOuter, a_locationIsClosure, a_locationValue, a_closureToken, a_closureEnvironment, a_frameToken, a_frameEnvironment, a_frameHasFirst, a_frameFirstIsClosure, a_frameFirstValue) → ∀ y, y = x9 + 1 → J y f_maxChoices f_maxAlloc f_held f_stage f_solutions f_failures f_lastKind f_lastValue f_lastChoices f_lastChoiceCount f_lastAllocCount f_steering f_steeringLength f_pathLeft f_failed f_choicesMade f_allocsMade f_visiting f_position f_environment f_resultIsClosure f_resultValue f_depth a_kinds a_args a_ends a_locationVariable a_locationOuter a_locationIsClosure a_locationValue a_closureToken a_closureEnvironment a_frameToken a_frameEnvironment a_frameHasFirst a_frameFirstIsClosure a_frameFirstValue) (hJ1 : ¬ x9 = 0 → ∀ (f_maxChoices f_maxAlloc f_held f_stage f_solutions f_failures f_lastKind f_lastValue f_lastChoices f_lastChoiceCount f_lastAllocCount f_steering f_steeringLength f_pathLeft f_failed f_choicesMade f_allocsMade f_visiting f_position f_environment f_resultIsClosure f_resultValue f_depth : Int32) (a_kinds a_args a_ends a_locationVariable a_locationOuter a_locationIsClosure a_locationValue a_closureToken a_closureEnvironment a_frameToken a_frameEnvironment a_frameHasFirst a_frameFirstIsClosure a_frameFirstValue : Nat → Int32), ∀ y, y = x9 + 1 → J y f_maxChoices f_maxAlloc f_held f_stage f_solutions f_failures f_lastKind f_lastValue f_lastChoices f_lastChoiceCount f_lastAllocCount f_steering f_steeringLength f_pathLeft f_failed f_choicesMade f_allocsMade f_visiting f_position f_environment f_resultIsClosure f_resultValue f_depth a_kinds a_args a_ends a_locationVariable a_locationOuter a_locationIsClosure a_locationValue a_closureToken a_closureEnvironment a_frameToken a_frameEnvironment a_frameHasFirst a_frameFirstIsClosure a_frameFirstValue) : ∀ (d v : Nat) (fails sols : Int32) (f_maxChoices f_maxAlloc f_held f_stage f_solutions f_failures f_lastKind f_lastValue f_lastChoices f_lastChoiceCount f_lastAllocCount f_steering f_steeringLength f_pathLeft f_failed f_choicesMade f_allocsMade f_visiting f_position f_environment f_resultIsClosure f_resultValue f_depth : Int32) (a_kinds a_args a_ends a_locationVariable a_locationOuter a_locationIsClosure a_locationValue a_closureToken a_closureEnvironment a_frameToken a_frameEnvironment a_frameHasFirst a_frameFirstIsClosure a_frameFirstValue : Nat → Int32), v + d = 2 ^ k → pe_Inv k mC mA n tk ta v fails sols (f_maxChoices, f_maxAlloc, f_held, f_stage, f_solutions, f_failures, f_lastKind, f_lastValue, f_lastChoices, f_lastChoiceCount, f_lastAllocCount, f_steering, f_steeringLength, f_pathLeft, f_failed, f_choicesMade, f_allocsMade, f_visiting, f_position, f_environment, f_resultIsClosure, f_resultValue, f_depth, a_kinds, a_args, a_ends, a_locationVariable, a_locationOuter, a_locationIsClosure, a_locationValue, a_closureToken, a_closureEnvironment, a_frameToken, a_frameEnvironment, a_frameHasFirst, a_frameFirstIsClosure, a_frameFirstValue) → wL_law_467 post L xs J (nI k) (nI mC) (nI mA) (nI c) x9 kc ks (d + 1) fails sols (nI v) f_maxChoices f_maxAlloc f_held f_stage f_solutions f_failures f_lastKind f_lastValue f_lastChoices f_lastChoiceCount f_lastAllocCount f_steering f_steeringLength f_pathLeft f_failed f_choicesMade f_allocsMade f_visiting f_position f_environment f_resultIsClosure f_resultValue f_depth a_kinds a_args a_ends a_locationVariable a_locationOuter a_locationIsClosure a_locationValue a_closureToken a_closureEnvironment a_frameToken a_frameEnvironment a_frameHasFirst a_frameFirstIsClosure a_frameFirstValue := by
  intro d
  induction d with
  | zero =>
    intro v fails sols f_maxChoices f_maxAlloc f_held f_stage f_solutions f_failures f_lastKind f_lastValue f_lastChoices f_lastChoiceCount f_lastAllocCount f_steering f_steeringLength f_pathLeft f_failed f_choicesMade f_allocsMade f_visiting f_position f_environment f_resultIsClosure f_resultValue f_depth a_kinds a_args a_ends a_locationVariable a_locationOuter a_locationIsClosure a_locationValue a_closureToken a_closureEnvironment a_frameToken a_frameEnvironment a_frameHasFirst a_frameFirstIsClosure a_frameFirstValue hv hI
    obtain ⟨lK, lV, lA, lc, lb, hI⟩ := hI
    rcases hI with ⟨b, L0, hV, q1, q2, q3⟩ | ⟨q1, q2⟩
    · have := am_nm_lt b k
      omega
    · have ev : v = 2 ^ k := by omega
      rw [ev]
      exact pe_467z H hJ0 hJ1 q2
  | succ d ih =>
    intro v fails sols f_maxChoices f_maxAlloc f_held f_stage f_solutions f_failures f_lastKind f_lastValue f_lastChoices f_lastChoiceCount f_lastAllocCount f_steering f_steeringLength f_pathLeft f_failed f_choicesMade f_allocsMade f_visiting f_position f_environment f_resultIsClosure f_resultValue f_depth a_kinds a_args a_ends a_locationVariable a_locationOuter a_locationIsClosure a_locationValue a_closureToken a_closureEnvironment a_frameToken a_frameEnvironment a_frameHasFirst a_frameFirstIsClosure a_frameFirstValue hv hI
    have hv2 : v < 2 ^ k := by omega
    obtain ⟨hu, rF, rT⟩ := pe_res H (pe_b k v)
    have HH := H
    obtain ⟨hL, hk1, hk, hC, h1, hA, hc, hn, en, hat, hK⟩ := H
    have h32 : 2 ^ k ≤ 2 ^ 5 := Nat.pow_le_pow_right (by decide) (by omega)
    have hv32 : v < 32 := by omega
    rw [wL_law_467]
    refine br_f (by rw [pe_sh1 k hk]; exact nI_ge hv2 (by omega)) (pe_path hL hk hC h1 hA (by omega) hv32 ?_)
    cases hr : (am_run n tk ta mC mA (pe_b k v)).1 with
    | false =>
      rw [rF hr]
      refine nm_r (pe_ff_len _ (by omega)) ?_
      by_cases s : pe_sk k mC mA n tk ta v
      · have hm : v % 2 ^ (k - am_us (am_run n tk ta mC mA (pe_b k v)).2.2.2) ≤ v := Nat.mod_le _ _
        have s' : v % 2 ^ (k - am_us (am_run n tk ta mC mA (pe_b k v)).2.2.2) ≠ 0 := s
        exact br_f (by rw [pe_msk k hk _ (by omega) v hv32]; exact nI_ne0 (by omega) (by omega)) (nm_r (nI_1 v) (ih (v + 1) fails sols _ _ _ _ _ _ _ _ _ _ _ _ _ _ _ _ _ _ _ _ _ _ _ _ _ _ _ _ _ _ _ _ _ _ _ _ _ (by omega) (pe_Inv_sk hI HH s)))
      · have s' : v % 2 ^ (k - am_us (am_run n tk ta mC mA (pe_b k v)).2.2.2) = 0 := Classical.byContradiction (fun z => s z)
        obtain ⟨lK, lV, lA, lc, lb, b, L0, hV, ev, hN⟩ := pe_Inv_at hI hv2 s
        have eb : pe_b k v = b := by rw [ev]; exact (pe_vec hV (pe_res HH b).1).2.1
        have hr2 : (am_run n tk ta mC mA b).1 = false := by rw [← eb]; exact hr
        have hI2 := pe_Inv_f HH hV hr2 hN
        rw [← ev] at hI2
        exact br_t (by rw [pe_msk k hk _ (by omega) v hv32, s']; rfl) (br_t (pe_ff_bit _ (by omega)) (nm_e (nm_r (nI_1 v) (ih (v + 1) (fails + 1) sols _ _ _ _ _ _ _ _ _ _ _ _ _ _ _ _ _ _ _ _ _ _ _ _ _ _ _ _ _ _ _ _ _ _ _ _ _ (by omega) hI2))))
    | true =>
      obtain ⟨x, s', e1, e2, e3, e4, e5⟩ := rT hr
      rw [e5]
      refine nm_r (pe_ok_len hk e3 e4) ?_
      have s0 : ¬ pe_sk k mC mA n tk ta v := by
        unfold pe_sk
        rw [e1]
        show ¬ (v % 2 ^ (k - am_us s') ≠ 0)
        rw [e2, Nat.sub_self, Nat.pow_zero, Nat.mod_one]
        exact fun z => z rfl
      obtain ⟨lK, lV, lA, lc, lb, b, L0, hV, ev, hN⟩ := pe_Inv_at hI hv2 s0
      have eb : pe_b k v = b := by rw [ev]; exact (pe_vec hV (pe_res HH b).1).2.1
      rw [eb] at e1
      refine br_t (by rw [pe_msk k hk k (by omega) v hv32, Nat.sub_self, Nat.pow_zero, Nat.mod_one]; rfl) (br_f (pe_ok_bit hk e3 e4) (pe_N0_s hC hA hn hK hV e1 e2 hN (fun u' hR => ?_)))
      have hI2 := pe_Inv_s HH hV (by rw [e1]; exact e2) hR
      rw [← ev] at hI2
      obtain ⟨f_steering, f_steeringLength, f_pathLeft, f_failed, f_choicesMade, f_allocsMade, f_visiting, f_position, f_environment, f_resultIsClosure, f_resultValue, f_depth, a_ends, a_locationVariable, a_locationOuter, a_locationIsClosure, a_locationValue, a_closureToken, a_closureEnvironment, a_frameToken, a_frameEnvironment, a_frameHasFirst, a_frameFirstIsClosure, a_frameFirstValue, rfl, hx⟩ := hR
      rw [← ev] at hI2 ⊢
      exact br_t rfl (nm_e (br_t rfl (br_t (pe_ok_val hk e3 e4).symm (br_t (pe_ok_al hk e3 e4).symm (br_t rfl (br_f (nI_pos (by omega)) (br_f (nI_nlt (Nat.le_refl _) (by omega)) (br_t rfl ⟨k + 1, pe_623 hk (ih (v + 1) fails (sols + 1) _ _ _ _ _ _ _ _ _ _ _ _ _ _ _ _ _ _ _ _ _ _ _ _ _ _ _ _ _ _ _ _ _ _ _ _ _ (by omega) hI2) k 0 (by omega)⟩))))))))
theorem pe_452 (H : pe_H L xs k mC mA c n tk ta) (f_maxChoices f_maxAlloc f_held f_stage f_solutions f_failures f_lastKind f_lastValue f_lastChoices f_lastChoiceCount f_lastAllocCount f_steering f_steeringLength f_pathLeft f_failed f_choicesMade f_allocsMade f_visiting f_position f_environment f_resultIsClosure f_resultValue f_depth : Int32) (a_kinds a_args a_ends a_locationVariable a_locationOuter a_locationIsClosure a_locationValue a_closureToken a_closureEnvironment a_frameToken a_frameEnvironment a_frameHasFirst a_frameFirstIsClosure a_frameFirstValue : Nat → Int32) (h : am_RX mC mA n tk ta 1 0 0 0 0 0 0 (fun _ => false) false (fun _ => false) 0 (f_maxChoices, f_maxAlloc, f_held, f_stage, f_solutions, f_failures, f_lastKind, f_lastValue, f_lastChoices, f_lastChoiceCount, f_lastAllocCount, f_steering, f_steeringLength, f_pathLeft, f_failed, f_choicesMade, f_allocsMade, f_visiting, f_position, f_environment, f_resultIsClosure, f_resultValue, f_depth, a_kinds, a_args, a_ends, a_locationVariable, a_locationOuter, a_locationIsClosure, a_locationValue, a_closureToken, a_closureEnvironment, a_frameToken, a_frameEnvironment, a_frameHasFirst, a_frameFirstIsClosure, a_frameFirstValue)) : wL_law_452 (fun r => r = 1) L xs (nI k) (nI mC) (nI mA) (nI c) kc ks 3 0 f_maxChoices f_maxAlloc f_held f_stage f_solutions f_failures f_lastKind f_lastValue f_lastChoices f_lastChoiceCount f_lastAllocCount f_steering f_steeringLength f_pathLeft f_failed f_choicesMade f_allocsMade f_visiting f_position f_environment f_resultIsClosure f_resultValue f_depth a_kinds a_args a_ends a_locationVariable a_locationOuter a_locationIsClosure a_locationValue a_closureToken a_closureEnvironment a_frameToken a_frameEnvironment a_frameHasFirst a_frameFirstIsClosure a_frameFirstValue := by
  have h2 : ∀ (f_maxChoices f_maxAlloc f_held f_stage f_solutions f_failures f_lastKind f_lastValue f_lastChoices f_lastChoiceCount f_lastAllocCount f_steering f_steeringLength f_pathLeft f_failed f_choicesMade f_allocsMade f_visiting f_position f_environment f_resultIsClosure f_resultValue f_depth : Int32) (a_kinds a_args a_ends a_locationVariable a_locationOuter a_locationIsClosure a_locationValue a_closureToken a_closureEnvironment a_frameToken a_frameEnvironment a_frameHasFirst a_frameFirstIsClosure a_frameFirstValue : Nat → Int32), wL_law_452 (fun r => r = 1) L xs (nI k) (nI mC) (nI mA) (nI c) kc ks 1 2 f_maxChoices f_maxAlloc f_held f_stage f_solutions f_failures f_lastKind f_lastValue f_lastChoices f_lastChoiceCount f_lastAllocCount f_steering f_steeringLength f_pathLeft f_failed f_choicesMade f_allocsMade f_visiting f_position f_environment f_resultIsClosure f_resultValue f_depth a_kinds a_args a_ends a_locationVariable a_locationOuter a_locationIsClosure a_locationValue a_closureToken a_closureEnvironment a_frameToken a_frameEnvironment a_frameHasFirst a_frameFirstIsClosure a_frameFirstValue := by
    intro f_maxChoices f_maxAlloc f_held f_stage f_solutions f_failures f_lastKind f_lastValue f_lastChoices f_lastChoiceCount f_lastAllocCount f_steering f_steeringLength f_pathLeft f_failed f_choicesMade f_allocsMade f_visiting f_position f_environment f_resultIsClosure f_resultValue f_depth a_kinds a_args a_ends a_locationVariable a_locationOuter a_locationIsClosure a_locationValue a_closureToken a_closureEnvironment a_frameToken a_frameEnvironment a_frameHasFirst a_frameFirstIsClosure a_frameFirstValue
    rw [wL_law_452]
    exact br_t (by decide) rfl
  have h1 : ∀ (f_maxChoices f_maxAlloc f_held f_stage f_solutions f_failures f_lastKind f_lastValue f_lastChoices f_lastChoiceCount f_lastAllocCount f_steering f_steeringLength f_pathLeft f_failed f_choicesMade f_allocsMade f_visiting f_position f_environment f_resultIsClosure f_resultValue f_depth : Int32) (a_kinds a_args a_ends a_locationVariable a_locationOuter a_locationIsClosure a_locationValue a_closureToken a_closureEnvironment a_frameToken a_frameEnvironment a_frameHasFirst a_frameFirstIsClosure a_frameFirstValue : Nat → Int32), am_RX mC mA n tk ta 1 0 0 0 0 0 0 (fun _ => false) false (fun _ => false) 0 (f_maxChoices, f_maxAlloc, f_held, f_stage, f_solutions, f_failures, f_lastKind, f_lastValue, f_lastChoices, f_lastChoiceCount, f_lastAllocCount, f_steering, f_steeringLength, f_pathLeft, f_failed, f_choicesMade, f_allocsMade, f_visiting, f_position, f_environment, f_resultIsClosure, f_resultValue, f_depth, a_kinds, a_args, a_ends, a_locationVariable, a_locationOuter, a_locationIsClosure, a_locationValue, a_closureToken, a_closureEnvironment, a_frameToken, a_frameEnvironment, a_frameHasFirst, a_frameFirstIsClosure, a_frameFirstValue) → wL_law_452 (fun r => r = 1) L xs (nI k) (nI mC) (nI mA) (nI c) kc ks 2 1 f_maxChoices f_maxAlloc f_held f_stage f_solutions f_failures f_lastKind f_lastValue f_lastChoices f_lastChoiceCount f_lastAllocCount f_steering f_steeringLength f_pathLeft f_failed f_choicesMade f_allocsMade f_visiting f_position f_environment f_resultIsClosure f_resultValue f_depth a_kinds a_args a_ends a_locationVariable a_locationOuter a_locationIsClosure a_locationValue a_closureToken a_closureEnvironment a_frameToken a_frameEnvironment a_frameHasFirst a_frameFirstIsClosure a_frameFirstValue := by
    intro f_maxChoices f_maxAlloc f_held f_stage f_solutions f_failures f_lastKind f_lastValue f_lastChoices f_lastChoiceCount f_lastAllocCount f_steering f_steeringLength f_pathLeft f_failed f_choicesMade f_allocsMade f_visiting f_position f_environment f_resultIsClosure f_resultValue f_depth a_kinds a_args a_ends a_locationVariable a_locationOuter a_locationIsClosure a_locationValue a_closureToken a_closureEnvironment a_frameToken a_frameEnvironment a_frameHasFirst a_frameFirstIsClosure a_frameFirstValue h
    rw [wL_law_452]
    exact br_f (by decide) ⟨2 ^ k + 1, pe_467 H (fun z => absurd z (by decide)) (fun _ f_maxChoices f_maxAlloc f_held f_stage f_solutions f_failures f_lastKind f_lastValue f_lastChoices f_lastChoiceCount f_lastAllocCount f_steering f_steeringLength f_pathLeft f_failed f_choicesMade f_allocsMade f_visiting f_position f_environment f_resultIsClosure f_resultValue f_depth a_kinds a_args a_ends a_locationVariable a_locationOuter a_locationIsClosure a_locationValue a_closureToken a_closureEnvironment a_frameToken a_frameEnvironment a_frameHasFirst a_frameFirstIsClosure a_frameFirstValue => nm_r (show (1 : Int32) + 1 = 2 by decide) (h2 f_maxChoices f_maxAlloc f_held f_stage f_solutions f_failures f_lastKind f_lastValue f_lastChoices f_lastChoiceCount f_lastAllocCount f_steering f_steeringLength f_pathLeft f_failed f_choicesMade f_allocsMade f_visiting f_position f_environment f_resultIsClosure f_resultValue f_depth a_kinds a_args a_ends a_locationVariable a_locationOuter a_locationIsClosure a_locationValue a_closureToken a_closureEnvironment a_frameToken a_frameEnvironment a_frameHasFirst a_frameFirstIsClosure a_frameFirstValue)) (2 ^ k) 0 0 0 _ _ _ _ _ _ _ _ _ _ _ _ _ _ _ _ _ _ _ _ _ _ _ _ _ _ _ _ _ _ _ _ _ _ _ _ _ (by omega) (pe_Inv_0 h)⟩
  rw [wL_law_452]
  exact br_f (by decide) ⟨2 ^ k + 1, pe_467 H (fun _ f_maxChoices f_maxAlloc f_held f_stage f_solutions f_failures f_lastKind f_lastValue f_lastChoices f_lastChoiceCount f_lastAllocCount f_steering f_steeringLength f_pathLeft f_failed f_choicesMade f_allocsMade f_visiting f_position f_environment f_resultIsClosure f_resultValue f_depth a_kinds a_args a_ends a_locationVariable a_locationOuter a_locationIsClosure a_locationValue a_closureToken a_closureEnvironment a_frameToken a_frameEnvironment a_frameHasFirst a_frameFirstIsClosure a_frameFirstValue hR => nm_r (show (0 : Int32) + 1 = 1 by decide) (h1 f_maxChoices f_maxAlloc f_held f_stage f_solutions f_failures f_lastKind f_lastValue f_lastChoices f_lastChoiceCount f_lastAllocCount f_steering f_steeringLength f_pathLeft f_failed f_choicesMade f_allocsMade f_visiting f_position f_environment f_resultIsClosure f_resultValue f_depth a_kinds a_args a_ends a_locationVariable a_locationOuter a_locationIsClosure a_locationValue a_closureToken a_closureEnvironment a_frameToken a_frameEnvironment a_frameHasFirst a_frameFirstIsClosure a_frameFirstValue hR)) (fun z => absurd rfl z) (2 ^ k) 0 0 0 _ _ _ _ _ _ _ _ _ _ _ _ _ _ _ _ _ _ _ _ _ _ _ _ _ _ _ _ _ _ _ _ _ _ _ _ _ (by omega) (pe_Inv_0 h)⟩
end
end
section
/-! p18: the tokens, compile, and the law -/
def pe_okT (x y : Int32) : Prop := ((x = 1 ∨ x = 11 ∨ x = 14) ∧ ¬ y < 0 ∧ y < 8) ∨ x = 0 ∨ ((x = 2 ∨ x = 5 ∨ x = 8 ∨ x = 10 ∨ x = 15) ∧ y = 0)
theorem pe_okT_kd {x y : Int32} (h : pe_okT x y) : am_kd x := by
  unfold am_kd
  rcases h with ⟨h | h | h, _⟩ | h | ⟨h | h | h | h | h, _⟩ <;> subst h <;> decide
/-- the tokens held are those of l -/
def pe_L (tk ta : Nat → Int32) (l : List (Int32 × Int32)) : Prop := pe_at tk ta 0 l ∧ ∀ i, i < l.length → am_kd (tk i)
theorem pe_L_snoc {tk ta : Nat → Int32} {l : List (Int32 × Int32)} {x y : Int32} (h : pe_L tk ta l) (ho : pe_okT x y) : pe_L (upd tk l.length x) (upd ta l.length y) (l ++ [(x, y)]) := by
  refine ⟨?_, fun i hi => ?_⟩
  · have := pe_at_snoc (x := x) (y := y) l 0 h.1
    rw [Nat.zero_add] at this
    exact this
  · rw [List.length_append] at hi
    have hi2 : i < l.length + 1 := hi
    by_cases q : i = l.length
    · rw [q, am_up_s]
      exact pe_okT_kd ho
    · rw [am_up_n q]
      exact h.2 i (by omega)
section
variable {f_maxChoices f_maxAlloc f_held f_stage f_solutions f_failures f_lastKind f_lastValue f_lastChoices f_lastChoiceCount f_lastAllocCount f_steering f_steeringLength f_pathLeft f_failed f_choicesMade f_allocsMade f_visiting f_position f_environment f_resultIsClosure f_resultValue f_depth : Int32} {a_kinds a_args a_ends a_locationVariable a_locationOuter a_locationIsClosure a_locationValue a_closureToken a_closureEnvironment a_frameToken a_frameEnvironment a_frameHasFirst a_frameFirstIsClosure a_frameFirstValue : Nat → Int32}
theorem pe_tok {post : Int32 → St2 → Prop} {l : List (Int32 × Int32)} {x y hd : Int32} (ehd : hd = nI l.length) (hl : l.length < 32) (ho : pe_okT x y) (hat : pe_L a_kinds a_args l) (h : ∀ tk' ta' : Nat → Int32, pe_L tk' ta' (l ++ [(x, y)]) → post 1 (f_maxChoices, f_maxAlloc, nI (l ++ [(x, y)]).length, 0, f_solutions, f_failures, f_lastKind, f_lastValue, f_lastChoices, f_lastChoiceCount, f_lastAllocCount, f_steering, f_steeringLength, f_pathLeft, f_failed, f_choicesMade, f_allocsMade, f_visiting, f_position, f_environment, f_resultIsClosure, f_resultValue, f_depth, tk', ta', a_ends, a_locationVariable, a_locationOuter, a_locationIsClosure, a_locationValue, a_closureToken, a_closureEnvironment, a_frameToken, a_frameEnvironment, a_frameHasFirst, a_frameFirstIsClosure, a_frameFirstValue)) : wpX_token post (f_maxChoices, f_maxAlloc, hd, 0, f_solutions, f_failures, f_lastKind, f_lastValue, f_lastChoices, f_lastChoiceCount, f_lastAllocCount, f_steering, f_steeringLength, f_pathLeft, f_failed, f_choicesMade, f_allocsMade, f_visiting, f_position, f_environment, f_resultIsClosure, f_resultValue, f_depth, a_kinds, a_args, a_ends, a_locationVariable, a_locationOuter, a_locationIsClosure, a_locationValue, a_closureToken, a_closureEnvironment, a_frameToken, a_frameEnvironment, a_frameHasFirst, a_frameFirstIsClosure, a_frameFirstValue) x y := by
  subst ehd
  have hh := h _ _ (pe_L_snoc hat ho)
  have el : (l ++ [(x, y)]).length = l.length + 1 := by rw [List.length_append]; rfl
  rw [el] at hh
  have f1 : nI l.length < 32 := nI_lt (b := 32) hl (by decide)
  rcases ho with ⟨hx, y0, y8⟩ | hx | ⟨hx, hy⟩
  · have h51 : ((1 : Int32) = 0 → wX_token_51 post x y 1 f_maxChoices f_maxAlloc (nI l.length) 0 f_solutions f_failures f_lastKind f_lastValue f_lastChoices f_lastChoiceCount f_lastAllocCount f_steering f_steeringLength f_pathLeft f_failed f_choicesMade f_allocsMade f_visiting f_position f_environment f_resultIsClosure f_resultValue f_depth a_kinds a_args a_ends a_locationVariable a_locationOuter a_locationIsClosure a_locationValue a_closureToken a_closureEnvironment a_frameToken a_frameEnvironment a_frameHasFirst a_frameFirstIsClosure a_frameFirstValue) ∧ (¬ (1 : Int32) = 0 → (y < 0 → post 0 (f_maxChoices, f_maxAlloc, nI l.length, 0, f_solutions, f_failures, f_lastKind, f_lastValue, f_lastChoices, f_lastChoiceCount, f_lastAllocCount, f_steering, f_steeringLength, f_pathLeft, f_failed, f_choicesMade, f_allocsMade, f_visiting, f_position, f_environment, f_resultIsClosure, f_resultValue, f_depth, a_kinds, a_args, a_ends, a_locationVariable, a_locationOuter, a_locationIsClosure, a_locationValue, a_closureToken, a_closureEnvironment, a_frameToken, a_frameEnvironment, a_frameHasFirst, a_frameFirstIsClosure, a_frameFirstValue)) ∧ (¬ y < 0 → (y < 8 → wX_token_51 post x y 1 f_maxChoices f_maxAlloc (nI l.length) 0 f_solutions f_failures f_lastKind f_lastValue f_lastChoices f_lastChoiceCount f_lastAllocCount f_steering f_steeringLength f_pathLeft f_failed f_choicesMade f_allocsMade f_visiting f_position f_environment f_resultIsClosure f_resultValue f_depth a_kinds a_args a_ends a_locationVariable a_locationOuter a_locationIsClosure a_locationValue a_closureToken a_closureEnvironment a_frameToken a_frameEnvironment a_frameHasFirst a_frameFirstIsClosure a_frameFirstValue) ∧ (¬ y < 8 → post 0 (f_maxChoices, f_maxAlloc, nI l.length, 0, f_solutions, f_failures, f_lastKind, f_lastValue, f_lastChoices, f_lastChoiceCount, f_lastAllocCount, f_steering, f_steeringLength, f_pathLeft, f_failed, f_choicesMade, f_allocsMade, f_visiting, f_position, f_environment, f_resultIsClosure, f_resultValue, f_depth, a_kinds, a_args, a_ends, a_locationVariable, a_locationOuter, a_locationIsClosure, a_locationValue, a_closureToken, a_closureEnvironment, a_frameToken, a_frameEnvironment, a_frameHasFirst, a_frameFirstIsClosure, a_frameFirstValue)))) := br_f (by decide) (br_f y0 (br_t y8 (am_tok51 hl (fun z => absurd z (by decide)) (fun z => absurd z (by decide)) (fun _ => rfl) hh)))
    rcases hx with q | q | q
    · subst q
      exact br_t rfl (br_t f1 (br_f (by decide) (br_t (by decide) (br_t rfl h51))))
    · subst q
      exact br_t rfl (br_t f1 (br_f (by decide) (br_t (by decide) (br_f (by decide) (br_t rfl h51)))))
    · subst q
      exact br_t rfl (br_t f1 (br_f (by decide) (br_t (by decide) (br_f (by decide) (br_f (by decide) (br_f (by decide) (br_t rfl h51)))))))
  · subst hx
    exact br_t rfl (br_t f1 (br_f (by decide) (br_t (by decide) (br_f (by decide) (br_f (by decide) (br_f (by decide) (br_f (by decide) (br_t rfl (am_tok51 hl (fun _ _ => rfl) (fun _ z => absurd rfl z) (fun z => absurd rfl z) hh)))))))))
  · subst hy
    have x0 : ¬ x = 0 := by rcases hx with q | q | q | q | q <;> rw [q] <;> decide
    have xn : ¬ x < 0 := by rcases hx with q | q | q | q | q <;> rw [q] <;> decide
    have xl : x ≤ 15 := by rcases hx with q | q | q | q | q <;> rw [q] <;> decide
    have x1 : ¬ x = 1 := by rcases hx with q | q | q | q | q <;> rw [q] <;> decide
    have x11 : ¬ x = 11 := by rcases hx with q | q | q | q | q <;> rw [q] <;> decide
    have x12 : ¬ x = 12 := by rcases hx with q | q | q | q | q <;> rw [q] <;> decide
    have x14 : ¬ x = 14 := by rcases hx with q | q | q | q | q <;> rw [q] <;> decide
    exact br_t rfl (br_t f1 (br_f xn (br_t xl (br_f x1 (br_f x11 (br_f x12 (br_f x14 (br_t rfl (am_tok51 hl (fun _ z => absurd z x0) (fun _ _ => rfl) (fun z => absurd rfl z) hh)))))))))
theorem pe_comp {post : Int32 → St2 → Prop} {mC mA n : Nat} {tk ta : Nat → Int32} (n0 : ¬ n = 0) (hn : n ≤ 32) (hK : ∀ i, i < n → am_kd (tk i)) (es : am_sh tk n 1 0 = 0) (ha : am_ab tk ta n n 0 = true) (h : ∀ u', am_RX mC mA n tk ta 1 0 0 0 0 0 0 (fun _ => false) false (fun _ => false) 0 u' → post 0 u') : wpX_compile post (nI mC, nI mA, nI n, 0, f_solutions, f_failures, f_lastKind, f_lastValue, f_lastChoices, f_lastChoiceCount, f_lastAllocCount, f_steering, f_steeringLength, f_pathLeft, f_failed, f_choicesMade, f_allocsMade, f_visiting, f_position, f_environment, f_resultIsClosure, f_resultValue, f_depth, tk, ta, a_ends, a_locationVariable, a_locationOuter, a_locationIsClosure, a_locationValue, a_closureToken, a_closureEnvironment, a_frameToken, a_frameEnvironment, a_frameHasFirst, a_frameFirstIsClosure, a_frameFirstValue) := by
  refine br_t rfl (am_xcs hn hK (fun z => absurd z n0) (fun _ => ?_))
  rw [es]
  refine br_t rfl (am_xfinds hn hK (fun en' hen => ⟨n + 1, am_xab hn hen n 0 (Nat.zero_add n) ?_⟩))
  rw [ha]
  exact br_f (by decide) (h _ ⟨_, _, _, _, _, _, _, _, _, _, _, _, _, _, _, _, _, _, _, _, _, _, _, _, rfl, fun _ => ⟨hen, rfl, fun _ => ⟨rfl, rfl⟩⟩⟩)
end
theorem pe_ok0 (w : Int32) : pe_okT 0 w := Or.inr (Or.inl rfl)
theorem pe_ok112 : pe_okT 11 2 := by unfold pe_okT; decide
theorem pe_ok111 : pe_okT 11 1 := by unfold pe_okT; decide
theorem pe_ok110 : pe_okT 11 0 := by unfold pe_okT; decide
theorem pe_ok12 : pe_okT 1 2 := by unfold pe_okT; decide
theorem pe_ok11 : pe_okT 1 1 := by unfold pe_okT; decide
theorem pe_ok10 : pe_okT 1 0 := by unfold pe_okT; decide
theorem pe_ok141 : pe_okT 14 1 := by unfold pe_okT; decide
theorem pe_okb {x : Int32} (h : x = 2 ∨ x = 5 ∨ x = 8 ∨ x = 10 ∨ x = 15) : pe_okT x 0 := Or.inr (Or.inr ⟨h, rfl⟩)
theorem pe_aa : (1 : Int32) &&& 1 = 1 := by decide
section
variable {f_maxChoices f_maxAlloc f_held f_stage f_solutions f_failures f_lastKind f_lastValue f_lastChoices f_lastChoiceCount f_lastAllocCount f_steering f_steeringLength f_pathLeft f_failed f_choicesMade f_allocsMade f_visiting f_position f_environment f_resultIsClosure f_resultValue f_depth : Int32} {a_kinds a_args a_ends a_locationVariable a_locationOuter a_locationIsClosure a_locationValue a_closureToken a_closureEnvironment a_frameToken a_frameEnvironment a_frameHasFirst a_frameFirstIsClosure a_frameFirstValue : Nat → Int32}
variable {L : Nat} {xs : Nat → Int32} {k i : Nat} {post : Int32 → Prop} {x4 x5 x6 : Int32} {kc ks : Nat}
theorem pe_146 {J : Int32 → Int32 → Int32 → Int32 → Int32 → Int32 → Int32 → Int32 → Int32 → Int32 → Int32 → Int32 → Int32 → Int32 → Int32 → Int32 → Int32 → Int32 → Int32 → Int32 → Int32 → Int32 → Int32 → Int32 → Int32 → (Nat → Int32) → (Nat → Int32) → (Nat → Int32) → (Nat → Int32) → (Nat → Int32) → (Nat → Int32) → (Nat → Int32) → (Nat → Int32) → (Nat → Int32) → (Nat → Int32) → (Nat → Int32) → (Nat → Int32) → (Nat → Int32) → (Nat → Int32) → Prop} {l : List (Int32 × Int32)} (hL : L ≤ 260) (hk : k < 6) (hi : i < k) (el : pe_fl k (pe_f (pe_g L xs) (32 - (9 + 4 * k))) (pe_w L xs) (i + 1) = l ++ (8, 0) :: (0, 0) :: pe_W (pe_f (pe_g L xs) (32 - (9 + 4 * k)) i) (nI (pe_w L xs i))) (hlen : (pe_fl k (pe_f (pe_g L xs) (32 - (9 + 4 * k))) (pe_w L xs) (i + 1)).length ≤ 32) (hat : pe_L a_kinds a_args l)
    (h : ∀ tk' ta' : Nat → Int32, pe_L tk' ta' (pe_fl k (pe_f (pe_g L xs) (32 - (9 + 4 * k))) (pe_w L xs) (i + 1)) → J 1 (nI (i + 1)) f_maxChoices f_maxAlloc (nI (pe_fl k (pe_f (pe_g L xs) (32 - (9 + 4 * k))) (pe_w L xs) (i + 1)).length) 0 f_solutions f_failures f_lastKind f_lastValue f_lastChoices f_lastChoiceCount f_lastAllocCount f_steering f_steeringLength f_pathLeft f_failed f_choicesMade f_allocsMade f_visiting f_position f_environment f_resultIsClosure f_resultValue f_depth tk' ta' a_ends a_locationVariable a_locationOuter a_locationIsClosure a_locationValue a_closureToken a_closureEnvironment a_frameToken a_frameEnvironment a_frameHasFirst a_frameFirstIsClosure a_frameFirstValue) : wL_law_146 post L xs J (nI k) x4 x5 x6 1 (nI i) kc ks f_maxChoices f_maxAlloc (nI l.length) 0 f_solutions f_failures f_lastKind f_lastValue f_lastChoices f_lastChoiceCount f_lastAllocCount f_steering f_steeringLength f_pathLeft f_failed f_choicesMade f_allocsMade f_visiting f_position f_environment f_resultIsClosure f_resultValue f_depth a_kinds a_args a_ends a_locationVariable a_locationOuter a_locationIsClosure a_locationValue a_closureToken a_closureEnvironment a_frameToken a_frameEnvironment a_frameHasFirst a_frameFirstIsClosure a_frameFirstValue := by
  have hf : ∀ l' : List (Int32 × Int32), l' = pe_fl k (pe_f (pe_g L xs) (32 - (9 + 4 * k))) (pe_w L xs) (i + 1) → ∀ tk' ta' : Nat → Int32, pe_L tk' ta' l' → J 1 (nI (i + 1)) f_maxChoices f_maxAlloc (nI l'.length) 0 f_solutions f_failures f_lastKind f_lastValue f_lastChoices f_lastChoiceCount f_lastAllocCount f_steering f_steeringLength f_pathLeft f_failed f_choicesMade f_allocsMade f_visiting f_position f_environment f_resultIsClosure f_resultValue f_depth tk' ta' a_ends a_locationVariable a_locationOuter a_locationIsClosure a_locationValue a_closureToken a_closureEnvironment a_frameToken a_frameEnvironment a_frameHasFirst a_frameFirstIsClosure a_frameFirstValue := by
    intro l' e
    subst e
    exact h
  rw [el, List.length_append, List.length_cons, List.length_cons] at hlen
  have hf3 := pe_f_lt L xs (32 - (9 + 4 * k)) i
  unfold wL_law_146
  refine pe_tok rfl (by omega) (pe_okb (Or.inr (Or.inr (Or.inl rfl)))) hat (fun t1 r1 a1 => nm_r pe_aa ?_)
  refine pe_tok rfl (by simp only [List.length_append, List.length_cons, List.length_nil]; omega) (pe_ok0 0) a1 (fun t2 r2 a2 => nm_r pe_aa ?_)
  refine pe_eff hL (by omega) hk (pe_wt hL (by omega) ?_)
  have hc : pe_f (pe_g L xs) (32 - (9 + 4 * k)) i = 0 ∨ pe_f (pe_g L xs) (32 - (9 + 4 * k)) i = 1 ∨ pe_f (pe_g L xs) (32 - (9 + 4 * k)) i = 2 := by omega
  rcases hc with z | z | z
  · rw [z] at el hlen ⊢
    have eW : pe_W 0 (nI (pe_w L xs i)) = [(0, nI (pe_w L xs i))] := rfl
    rw [eW] at el hlen
    rw [List.length_cons, List.length_nil] at hlen
    refine br_t rfl (pe_tok rfl (by simp only [List.length_append, List.length_cons, List.length_nil]; omega) (pe_ok0 _) a2 (fun t3 r3 a3 => nm_r pe_aa (nm_r (nI_1 i) (hf _ ?_ t3 r3 a3))))
    rw [el]
    simp only [List.append_assoc, List.cons_append, List.nil_append]
  · rw [z] at el hlen ⊢
    have eW : pe_W 1 (nI (pe_w L xs i)) = [(11, 2), (0, nI (pe_w L xs i)), (1, 2)] := rfl
    rw [eW] at el hlen
    rw [List.length_cons, List.length_cons, List.length_cons, List.length_nil] at hlen
    refine br_f (by decide) (br_t rfl (pe_tok rfl (by simp only [List.length_append, List.length_cons, List.length_nil]; omega) pe_ok112 a2 (fun t3 r3 a3 => nm_r pe_aa ?_)))
    refine pe_tok rfl (by simp only [List.length_append, List.length_cons, List.length_nil]; omega) (pe_ok0 _) a3 (fun t4 r4 a4 => nm_r pe_aa ?_)
    refine pe_tok rfl (by simp only [List.length_append, List.length_cons, List.length_nil]; omega) pe_ok12 a4 (fun t5 r5 a5 => nm_r pe_aa (nm_r (nI_1 i) (hf _ ?_ t5 r5 a5)))
    rw [el]
    simp only [List.append_assoc, List.cons_append, List.nil_append]
  · rw [z] at el hlen ⊢
    have eW : pe_W 2 (nI (pe_w L xs i)) = [(15, 0), (14, 1), (2, 0), (1, 1), (0, 1), (0, nI (pe_w L xs i))] := rfl
    rw [eW] at el hlen
    rw [List.length_cons, List.length_cons, List.length_cons, List.length_cons, List.length_cons, List.length_cons, List.length_nil] at hlen
    refine br_f (by decide) (br_f (by decide) (pe_tok rfl (by simp only [List.length_append, List.length_cons, List.length_nil]; omega) (pe_okb (Or.inr (Or.inr (Or.inr (Or.inr rfl))))) a2 (fun t3 r3 a3 => nm_r pe_aa ?_)))
    refine pe_tok rfl (by simp only [List.length_append, List.length_cons, List.length_nil]; omega) pe_ok141 a3 (fun t4 r4 a4 => nm_r pe_aa ?_)
    refine pe_tok rfl (by simp only [List.length_append, List.length_cons, List.length_nil]; omega) (pe_okb (Or.inl rfl)) a4 (fun t5 r5 a5 => nm_r pe_aa ?_)
    refine pe_tok rfl (by simp only [List.length_append, List.length_cons, List.length_nil]; omega) pe_ok11 a5 (fun t6 r6 a6 => nm_r pe_aa ?_)
    refine pe_tok rfl (by simp only [List.length_append, List.length_cons, List.length_nil]; omega) (pe_ok0 1) a6 (fun t7 r7 a7 => nm_r pe_aa ?_)
    refine pe_tok rfl (by simp only [List.length_append, List.length_cons, List.length_nil]; omega) (pe_ok0 _) a7 (fun t8 r8 a8 => nm_r pe_aa (nm_r (nI_1 i) (hf _ ?_ t8 r8 a8)))
    rw [el]
    simp only [List.append_assoc, List.cons_append, List.nil_append]
end
section
variable {L : Nat} {xs : Nat → Int32} {k mC mA c : Nat} {kc ks : Nat}
theorem pe_120 (hL : L ≤ 260) (hk1 : 1 ≤ k) (hk : k < 6) (hC : mC ≤ 6) (h1 : 1 ≤ mA) (hA : mA ≤ 16) (hc : c < 600) : ∀ (d i : Nat) (f_solutions f_failures f_lastKind f_lastValue f_lastChoices f_lastChoiceCount f_lastAllocCount f_steering f_steeringLength f_pathLeft f_failed f_choicesMade f_allocsMade f_visiting f_position f_environment f_resultIsClosure f_resultValue f_depth : Int32) (a_kinds a_args a_ends a_locationVariable a_locationOuter a_locationIsClosure a_locationValue a_closureToken a_closureEnvironment a_frameToken a_frameEnvironment a_frameHasFirst a_frameFirstIsClosure a_frameFirstValue : Nat → Int32), i + d = k → pe_L a_kinds a_args (pe_fl k (pe_f (pe_g L xs) (32 - (9 + 4 * k))) (pe_w L xs) i) → wL_law_120 (fun r => r = 1) L xs (nI k) (nI mC) (nI mA) (nI c) kc ks (d + 1) 1 (nI i) (nI mC) (nI mA) (nI (pe_fl k (pe_f (pe_g L xs) (32 - (9 + 4 * k))) (pe_w L xs) i).length) 0 f_solutions f_failures f_lastKind f_lastValue f_lastChoices f_lastChoiceCount f_lastAllocCount f_steering f_steeringLength f_pathLeft f_failed f_choicesMade f_allocsMade f_visiting f_position f_environment f_resultIsClosure f_resultValue f_depth a_kinds a_args a_ends a_locationVariable a_locationOuter a_locationIsClosure a_locationValue a_closureToken a_closureEnvironment a_frameToken a_frameEnvironment a_frameHasFirst a_frameFirstIsClosure a_frameFirstValue := by
  have hn32 := pe_n_le (g := pe_g L xs) (w := pe_w L xs) hk1 (by omega : k ≤ 5)
  intro d
  induction d with
  | zero =>
    intro i f_solutions f_failures f_lastKind f_lastValue f_lastChoices f_lastChoiceCount f_lastAllocCount f_steering f_steeringLength f_pathLeft f_failed f_choicesMade f_allocsMade f_visiting f_position f_environment f_resultIsClosure f_resultValue f_depth a_kinds a_args a_ends a_locationVariable a_locationOuter a_locationIsClosure a_locationValue a_closureToken a_closureEnvironment a_frameToken a_frameEnvironment a_frameHasFirst a_frameFirstIsClosure a_frameFirstValue hi hat
    have ei : i = k := by omega
    subst ei
    have hl : (pe_fl i (pe_f (pe_g L xs) (32 - (9 + 4 * i))) (pe_w L xs) i).length + 7 ≤ 32 := hn32
    rw [wL_law_120]
    refine br_t (Int32.le_refl _) ?_
    refine pe_tok rfl (by omega) (pe_okb (Or.inr (Or.inr (Or.inr (Or.inl rfl))))) hat (fun t1 r1 a1 => nm_r pe_aa ?_)
    refine pe_tok rfl (by simp only [List.length_append, List.length_cons, List.length_nil]; omega) (pe_okb (Or.inr (Or.inl rfl))) a1 (fun t2 r2 a2 => nm_r pe_aa ?_)
    refine pe_tok rfl (by simp only [List.length_append, List.length_cons, List.length_nil]; omega) pe_ok10 a2 (fun t3 r3 a3 => nm_r pe_aa ?_)
    refine pe_tok rfl (by simp only [List.length_append, List.length_cons, List.length_nil]; omega) (pe_ok0 _) a3 (fun t4 r4 a4 => nm_r pe_aa ?_)
    refine pe_tok rfl (by simp only [List.length_append, List.length_cons, List.length_nil]; omega) (pe_okb (Or.inl rfl)) a4 (fun t5 r5 a5 => nm_r pe_aa ?_)
    refine pe_tok rfl (by simp only [List.length_append, List.length_cons, List.length_nil]; omega) pe_ok10 a5 (fun t6 r6 a6 => nm_r pe_aa ?_)
    refine pe_tok rfl (by simp only [List.length_append, List.length_cons, List.length_nil]; omega) pe_ok11 a6 (fun t7 r7 a7 => nm_r pe_aa (br_f (by decide) ?_))
    have eE : pe_fl i (pe_f (pe_g L xs) (32 - (9 + 4 * i))) (pe_w L xs) i ++ [(10, 0)] ++ [(5, 0)] ++ [(1, 0)] ++ [(0, nI c)] ++ [(2, 0)] ++ [(1, 0)] ++ [(1, 1)] = pe_fl i (pe_f (pe_g L xs) (32 - (9 + 4 * i))) (pe_w L xs) i ++ pe_E c := by
      unfold pe_E
      simp only [List.append_assoc, List.cons_append, List.nil_append]
    have a8 := a7
    rw [eE] at a8
    have en : (pe_fl i (pe_f (pe_g L xs) (32 - (9 + 4 * i))) (pe_w L xs) i ++ pe_E c).length = pe_P i (pe_f (pe_g L xs) (32 - (9 + 4 * i))) (pe_w L xs) i + 7 := by
      rw [List.length_append]
      rfl
    rw [eE, en]
    have hK := a8.2
    rw [en] at hK
    refine pe_comp (n := pe_P i (pe_f (pe_g L xs) (32 - (9 + 4 * i))) (pe_w L xs) i + 7) (by omega) hn32 hK (pe_shape hk1 a8.1) (pe_bound hk1 a8.1) (fun u' hR => ?_)
    have HH : pe_H L xs i mC mA c (pe_P i (pe_f (pe_g L xs) (32 - (9 + 4 * i))) (pe_w L xs) i + 7) t7 r7 := ⟨hL, hk1, hk, hC, h1, hA, hc, hn32, rfl, a8.1, hK⟩
    have hR2 := hR
    obtain ⟨f_steering, f_steeringLength, f_pathLeft, f_failed, f_choicesMade, f_allocsMade, f_visiting, f_position, f_environment, f_resultIsClosure, f_resultValue, f_depth, a_ends, a_locationVariable, a_locationOuter, a_locationIsClosure, a_locationValue, a_closureToken, a_closureEnvironment, a_frameToken, a_frameEnvironment, a_frameHasFirst, a_frameFirstIsClosure, a_frameFirstValue, rfl, hx⟩ := hR
    exact br_t rfl (br_t rfl ⟨3, pe_452 HH _ _ _ _ _ _ _ _ _ _ _ _ _ _ _ _ _ _ _ _ _ _ _ _ _ _ _ _ _ _ _ _ _ _ _ _ _ hR2⟩)
  | succ d ih =>
    intro i f_solutions f_failures f_lastKind f_lastValue f_lastChoices f_lastChoiceCount f_lastAllocCount f_steering f_steeringLength f_pathLeft f_failed f_choicesMade f_allocsMade f_visiting f_position f_environment f_resultIsClosure f_resultValue f_depth a_kinds a_args a_ends a_locationVariable a_locationOuter a_locationIsClosure a_locationValue a_closureToken a_closureEnvironment a_frameToken a_frameEnvironment a_frameHasFirst a_frameFirstIsClosure a_frameFirstValue hi hat
    have hPs := pe_P_s k (pe_f (pe_g L xs) (32 - (9 + 4 * k))) (pe_w L xs) i
    have hPk := pe_P_le (k := k) (f := pe_f (pe_g L xs) (32 - (9 + 4 * k))) (w := pe_w L xs) (k - (i + 1)) (i + 1)
    have ek : i + 1 + (k - (i + 1)) = k := by omega
    rw [ek] at hPk
    have hlen : (pe_fl k (pe_f (pe_g L xs) (32 - (9 + 4 * k))) (pe_w L xs) (i + 1)).length ≤ 25 := by
      have : pe_P k (pe_f (pe_g L xs) (32 - (9 + 4 * k))) (pe_w L xs) (i + 1) ≤ 25 := by omega
      exact this
    have ep : nI k - 1 = nI (k - 1) := am_sub (b := 1) hk1
    rw [wL_law_120]
    refine br_f (nI_ge (by omega) (by omega)) ?_
    by_cases q : i < k - 1
    · have el : pe_fl k (pe_f (pe_g L xs) (32 - (9 + 4 * k))) (pe_w L xs) (i + 1) = (pe_fl k (pe_f (pe_g L xs) (32 - (9 + 4 * k))) (pe_w L xs) i ++ [(2, 0)]) ++ (8, 0) :: (0, 0) :: pe_W (pe_f (pe_g L xs) (32 - (9 + 4 * k)) i) (nI (pe_w L xs i)) := by
        show pe_fl k (pe_f (pe_g L xs) (32 - (9 + 4 * k))) (pe_w L xs) i ++ pe_T k (pe_f (pe_g L xs) (32 - (9 + 4 * k))) (pe_w L xs) i = _
        rw [pe_T_in q, List.append_assoc]
        rfl
      have hl2 : (pe_fl k (pe_f (pe_g L xs) (32 - (9 + 4 * k))) (pe_w L xs) i).length < 32 := by
        rw [el, List.length_append, List.length_append] at hlen
        omega
      refine br_f (by rw [ep]; exact nI_ge q (by omega)) (pe_tok rfl hl2 (pe_okb (Or.inl rfl)) hat (fun t1 r1 a1 => nm_r pe_aa ?_))
      exact pe_146 hL hk (by omega) el (by omega) a1 (fun t2 r2 a2 => ih (i + 1) _ _ _ _ _ _ _ _ _ _ _ _ _ _ _ _ _ _ _ _ _ _ _ _ _ _ _ _ _ _ _ _ _ (by omega) a2)
    · have el : pe_fl k (pe_f (pe_g L xs) (32 - (9 + 4 * k))) (pe_w L xs) (i + 1) = pe_fl k (pe_f (pe_g L xs) (32 - (9 + 4 * k))) (pe_w L xs) i ++ (8, 0) :: (0, 0) :: pe_W (pe_f (pe_g L xs) (32 - (9 + 4 * k)) i) (nI (pe_w L xs i)) := by
        show pe_fl k (pe_f (pe_g L xs) (32 - (9 + 4 * k))) (pe_w L xs) i ++ pe_T k (pe_f (pe_g L xs) (32 - (9 + 4 * k))) (pe_w L xs) i = _
        rw [pe_T_last q]
      exact br_t (by rw [ep]; exact nI_le (by omega) (by omega)) (pe_146 hL hk (by omega) el (by omega) hat (fun t2 r2 a2 => ih (i + 1) _ _ _ _ _ _ _ _ _ _ _ _ _ _ _ _ _ _ _ _ _ _ _ _ _ _ _ _ _ _ _ _ _ (by omega) a2))
end
def pe_clm (m g : Nat) : Nat := if m < 1 then 1 else if g < m then g else m
theorem pe_clm_b {m g : Nat} (hg : 1 ≤ g) : 1 ≤ pe_clm m g ∧ pe_clm m g ≤ g := by
  unfold pe_clm
  by_cases a : m < 1
  · rw [if_pos a]; omega
  · rw [if_neg a]
    by_cases b : g < m
    · rw [if_pos b]; omega
    · rw [if_neg b]; omega
theorem pe_clL {post : Int32 → Prop} {m g : Nat} {x : Int32} (ex : x = nI g) (hm : m < 1000) (hg : g < 1000) (h : post (nI (pe_clm m g))) : wpL_clamp post () (nI m) 1 x := by
  subst ex
  unfold pe_clm at h
  by_cases a : m < 1
  · rw [if_pos a] at h
    exact br_f (nI_ge (b := 1) a (by decide)) h
  · rw [if_neg a] at h
    refine br_t (nI_le (a := 1) (by omega) (by omega)) ?_
    by_cases b : g < m
    · rw [if_pos b] at h
      exact br_f (nI_ge b (by omega)) h
    · rw [if_neg b] at h
      exact br_t (nI_le (by omega) (by omega)) h
theorem pe_clX {post : Int32 → Prop} {m g : Nat} {x : Int32} (ex : x = nI g) (hm : m < 1000) (hg : g < 1000) (h : post (nI (pe_clm m g))) : wpX_clamp post () (nI m) x := by
  subst ex
  unfold pe_clm at h
  by_cases a : m < 1
  · rw [if_pos a] at h
    exact br_f (nI_ge (b := 1) a (by decide)) h
  · rw [if_neg a] at h
    refine br_t (nI_le (a := 1) (by omega) (by omega)) ?_
    by_cases b : g < m
    · rw [if_pos b] at h
      exact br_f (nI_ge b (by omega)) h
    · rw [if_neg b] at h
      exact br_t (nI_le (by omega) (by omega)) h
theorem pe_L0 : pe_L (fun _ => 0) (fun _ => 0) [] := ⟨True.intro, fun i hi => absurd hi (Nat.not_lt_zero i)⟩
theorem i_vc (xs : Nat → Int32) (L : Nat) (hL : L ≤ 260) : wpL_law (fun r => r = 1) L xs := by
  have m0 := pe_mn_lt (d := 5) (x := pe_c L xs 0) (D := 5) (by decide) (by decide)
  have m1 := pe_mn_lt (d := 8) (x := pe_c L xs 1) (D := 8) (by decide) (by decide)
  have m2 := pe_mn_lt (d := 18) (x := pe_c L xs 2) (D := 18) (by decide) (by decide)
  have m3 := pe_mn_lt (d := 600) (x := pe_c L xs 3) (D := 600) (by decide) (by decide)
  have ek : (1 : Int32) + nI (pe_mn 5 (pe_c L xs 0)) = nI (1 + pe_mn 5 (pe_c L xs 0)) := nI_add 1 _
  obtain ⟨c1, c2⟩ := pe_clm_b (m := pe_mn 8 (pe_c L xs 1)) (g := 6) (by decide)
  obtain ⟨c3, c4⟩ := pe_clm_b (m := pe_mn 18 (pe_c L xs 2)) (g := 16) (by decide)
  unfold wpL_law
  refine pe_cell (i := 0) hL (by omega) rfl (pe_mod' (by decide) (nm_r ek ?_))
  refine pe_cell (i := 1) hL (by omega) rfl (pe_mod' (by decide) ?_)
  refine pe_cell (i := 2) hL (by omega) rfl (pe_mod' (by decide) ?_)
  refine pe_clL (g := 6) rfl (by omega) (by decide) (pe_clL (g := 16) rfl (by omega) (by decide) ?_)
  refine pe_cell (i := 3) hL (by omega) rfl (pe_mod' (by decide) ⟨14, 2912, by omega, by omega, ?_⟩)
  refine ⟨by decide, by decide, by decide, by decide, by decide, by decide, by decide, by decide, by decide, by decide, by decide, by decide, by decide, by decide, by decide, by decide, by decide, by decide, by decide, by decide, by decide, by decide, by decide, by decide, by decide, by decide, by decide, by decide, pe_clX (g := 6) rfl (by omega) (by decide) (pe_clX (g := 16) rfl (by omega) (by decide) ?_)⟩
  refine pe_tok (l := []) rfl (by decide) pe_ok111 pe_L0 (fun t1 r1 a1 => nm_r pe_aa ?_)
  refine pe_tok rfl (by decide) (pe_ok0 0) a1 (fun t2 r2 a2 => nm_r pe_aa ?_)
  refine pe_tok rfl (by decide) pe_ok110 a2 (fun t3 r3 a3 => nm_r pe_aa ⟨1 + pe_mn 5 (pe_c L xs 0) + 1, ?_⟩)
  exact pe_120 hL (by omega) (by omega) c2 c3 c4 m3 (1 + pe_mn 5 (pe_c L xs 0)) 0 _ _ _ _ _ _ _ _ _ _ _ _ _ _ _ _ _ _ _ _ _ _ _ _ _ _ _ _ _ _ _ _ _ (by omega) a3
end
