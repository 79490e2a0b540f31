section
/-! the program: arity, ends -/
def am_ar (k : Int32) : Nat := if k = 0 then 0 else if k = 1 then 0 else if k = 9 then 0 else if k = 12 then 1 else if k = 14 then 1 else if k = 7 then 3 else 2
theorem am_ar_le (k : Int32) : am_ar k ≤ 3 := by
  unfold am_ar
  repeat' split
  all_goals omega
/-- where a scan ends that begins at i with q expressions wanted and d tokens left -/
def am_sE (tk : Nat → Int32) : Nat → Nat → Nat → Nat
  | 0, _, i => i
  | _ + 1, 0, i => i
  | d + 1, q + 1, i => am_sE tk d (q + am_ar (tk i)) (i + 1)
theorem am_sE_z (tk : Nat → Int32) (d i : Nat) : am_sE tk d 0 i = i := by cases d <;> rfl
theorem am_sE_0 (tk : Nat → Int32) (q i : Nat) : am_sE tk 0 q i = i := by cases q <;> rfl
theorem am_sE_s (tk : Nat → Int32) (d q i : Nat) : am_sE tk (d + 1) (q + 1) i = am_sE tk d (q + am_ar (tk i)) (i + 1) := rfl
theorem am_sE_le (tk : Nat → Int32) : ∀ d q i, am_sE tk d q i ≤ i + d := by
  intro d
  induction d with
  | zero => intro q i; rw [am_sE_0]; omega
  | succ d ih =>
    intro q i
    cases q with
    | zero => rw [am_sE_z]; omega
    | succ q =>
      rw [am_sE_s]
      have := ih (q + am_ar (tk i)) (i + 1)
      omega
theorem am_sE_ge (tk : Nat → Int32) : ∀ d q i, i ≤ am_sE tk d q i := by
  intro d
  induction d with
  | zero => intro q i; rw [am_sE_0]; omega
  | succ d ih =>
    intro q i
    cases q with
    | zero => rw [am_sE_z]; omega
    | succ q =>
      rw [am_sE_s]
      have := ih (q + am_ar (tk i)) (i + 1)
      omega
theorem am_sE_add (tk : Nat → Int32) : ∀ d i x y, am_sE tk d (x + y) i = am_sE tk (i + d - am_sE tk d x i) y (am_sE tk d x i) := by
  intro d
  induction d with
  | zero =>
    intro i x y
    rw [am_sE_0, am_sE_0, Nat.add_zero, Nat.sub_self, am_sE_0]
  | succ d ih =>
    intro i x y
    cases x with
    | zero =>
      rw [am_sE_z, Nat.zero_add, Nat.add_sub_cancel_left]
    | succ x =>
      have e : x + 1 + y = (x + y) + 1 := by omega
      have e2 : x + y + am_ar (tk i) = (x + am_ar (tk i)) + y := by omega
      have e3 : i + 1 + d = i + (d + 1) := by omega
      rw [e, am_sE_s, am_sE_s, e2, ih (i + 1) (x + am_ar (tk i)) y, e3]
/-- where the expression at p ends -/
def am_eN (tk : Nat → Int32) (n p : Nat) : Nat := am_sE tk (n - p) 1 p
theorem am_eN_le {tk : Nat → Int32} {n p : Nat} (h : p ≤ n) : am_eN tk n p ≤ n := by
  have := am_sE_le tk (n - p) 1 p
  unfold am_eN
  omega
theorem am_eN_ge (tk : Nat → Int32) (n p : Nat) : p ≤ am_eN tk n p := am_sE_ge tk (n - p) 1 p
theorem am_eN_n (tk : Nat → Int32) (n : Nat) : am_eN tk n n = n := by
  unfold am_eN
  rw [Nat.sub_self, am_sE_0]
def am_it (tk : Nat → Int32) (n : Nat) : Nat → Nat → Nat
  | 0, i => i
  | q + 1, i => am_it tk n q (am_eN tk n i)
theorem am_sE_it (tk : Nat → Int32) (n : Nat) : ∀ q i, i ≤ n → am_sE tk (n - i) q i = am_it tk n q i := by
  intro q
  induction q with
  | zero => intro i _; rw [am_sE_z]; rfl
  | succ q ih =>
    intro i hi
    have e : q + 1 = 1 + q := by omega
    have e2 : i + (n - i) = n := by omega
    have h := am_sE_add tk (n - i) i 1 q
    rw [e2] at h
    rw [e, h]
    have h2 := ih (am_eN tk n i) (am_eN_le hi)
    have e3 : 1 + q = q + 1 := by omega
    rw [e3]
    exact h2
theorem am_eN_s {tk : Nat → Int32} {n p : Nat} (h : p < n) : am_eN tk n p = am_it tk n (am_ar (tk p)) (p + 1) := by
  have e : n - p = (n - (p + 1)) + 1 := by omega
  have h2 : am_eN tk n p = am_sE tk (n - (p + 1) + 1) (0 + 1) p := by
    unfold am_eN
    rw [e]
  rw [h2, am_sE_s, Nat.zero_add, am_sE_it tk n _ _ h]
theorem am_eN_gt {tk : Nat → Int32} {n p : Nat} (h : p < n) : p < am_eN tk n p := by
  have e : n - p = (n - (p + 1)) + 1 := by omega
  have h2 : am_eN tk n p = am_sE tk (n - (p + 1) + 1) (0 + 1) p := by
    unfold am_eN
    rw [e]
  rw [h2, am_sE_s]
  have := am_sE_ge tk (n - (p + 1)) (0 + am_ar (tk p)) (p + 1)
  omega
theorem am_eN_0 {tk : Nat → Int32} {n p : Nat} (h : p < n) (ha : am_ar (tk p) = 0) : am_eN tk n p = p + 1 := by rw [am_eN_s h, ha]; rfl
theorem am_eN_1 {tk : Nat → Int32} {n p : Nat} (h : p < n) (ha : am_ar (tk p) = 1) : am_eN tk n p = am_eN tk n (p + 1) := by rw [am_eN_s h, ha]; rfl
theorem am_eN_2 {tk : Nat → Int32} {n p : Nat} (h : p < n) (ha : am_ar (tk p) = 2) : am_eN tk n p = am_eN tk n (am_eN tk n (p + 1)) := by rw [am_eN_s h, ha]; rfl
theorem am_eN_3 {tk : Nat → Int32} {n p : Nat} (h : p < n) (ha : am_ar (tk p) = 3) : am_eN tk n p = am_eN tk n (am_eN tk n (am_eN tk n (p + 1))) := by rw [am_eN_s h, ha]; rfl
/-! choice vectors: bits, their number with the first bit on top -/
def am_b1 : Bool → Nat
  | true => 1
  | false => 0
theorem am_b1_le (x : Bool) : am_b1 x ≤ 1 := by cases x <;> decide
def am_nm (b : Nat → Bool) : Nat → Nat
  | 0 => 0
  | L + 1 => 2 * am_nm b L + am_b1 (b L)
theorem am_nm_s (b : Nat → Bool) (L : Nat) : am_nm b (L + 1) = 2 * am_nm b L + am_b1 (b L) := rfl
theorem am_nm_lt (b : Nat → Bool) : ∀ L, am_nm b L < 2 ^ L := by
  intro L
  induction L with
  | zero => exact Nat.one_pos
  | succ L ih =>
    rw [am_nm_s, Nat.pow_succ]
    have := am_b1_le (b L)
    omega
theorem am_nm_le {b : Nat → Bool} {L : Nat} (h : L ≤ 6) : am_nm b L < 64 := by
  have h1 := am_nm_lt b L
  have h2 : 2 ^ L ≤ 2 ^ 6 := Nat.pow_le_pow_right (by decide) h
  have h3 : 2 ^ 6 = 64 := by decide
  omega
theorem am_nm_sh (b : Nat → Bool) (j : Nat) : ∀ d, am_nm b (j + d) / 2 ^ d = am_nm b j := by
  intro d
  induction d with
  | zero => rw [Nat.pow_zero, Nat.div_one, Nat.add_zero]
  | succ d ih =>
    have e : j + (d + 1) = (j + d) + 1 := by omega
    have h := am_b1_le (b (j + d))
    have h2 : (2 * am_nm b (j + d) + am_b1 (b (j + d))) / 2 = am_nm b (j + d) := by omega
    rw [e, am_nm_s, Nat.pow_succ', ← Nat.div_div_eq_div_mul, h2, ih]
theorem am_nm_odd (b : Nat → Bool) (j : Nat) : am_nm b (j + 1) % 2 = am_b1 (b j) := by
  rw [am_nm_s]
  have := am_b1_le (b j)
  omega
theorem am_nm_half (b : Nat → Bool) (j : Nat) : am_nm b (j + 1) / 2 = am_nm b j := by
  rw [am_nm_s]
  have := am_b1_le (b j)
  omega
theorem am_nm_congr {b c : Nat → Bool} : ∀ L, (∀ i, i < L → b i = c i) → am_nm b L = am_nm c L := by
  intro L
  induction L with
  | zero => intro _; rfl
  | succ L ih =>
    intro h
    rw [am_nm_s, am_nm_s, ih (fun i hi => h i (by omega)), h L (by omega)]
/-- the last 0 below k, counted from 1; 0 if there is none -/
def am_la (b : Nat → Bool) : Nat → Nat
  | 0 => 0
  | k + 1 => match b k with
    | true => am_la b k
    | false => k + 1
theorem am_la_t {b : Nat → Bool} {k : Nat} (h : b k = true) : am_la b (k + 1) = am_la b k := by
  show (match b k with
    | true => am_la b k
    | false => k + 1) = am_la b k
  rw [h]
theorem am_la_f {b : Nat → Bool} {k : Nat} (h : b k = false) : am_la b (k + 1) = k + 1 := by
  show (match b k with
    | true => am_la b k
    | false => k + 1) = k + 1
  rw [h]
theorem am_la_le (b : Nat → Bool) : ∀ k, am_la b k ≤ k := by
  intro k
  induction k with
  | zero => exact Nat.le_refl 0
  | succ k ih =>
    cases h : b k with
    | true => rw [am_la_t h]; omega
    | false => rw [am_la_f h]; omega
theorem am_la_q {b : Nat → Bool} {q : Nat} : ∀ k, am_la b k = q + 1 → q < k ∧ b q = false := by
  intro k
  induction k with
  | zero => intro h; exact absurd h (by show ¬ (0 = q + 1); omega)
  | succ k ih =>
    intro h
    cases hb : b k with
    | true =>
      rw [am_la_t hb] at h
      exact ⟨by have := (ih h).1; omega, (ih h).2⟩
    | false =>
      rw [am_la_f hb] at h
      have e : k = q := by omega
      rw [← e]
      exact ⟨by omega, hb⟩
/-- the bits below q, then a 1, then 0s -/
def am_sb (b : Nat → Bool) (q : Nat) : Nat → Bool := fun j => if j < q then b j else decide (j = q)
theorem am_sb_lo {b : Nat → Bool} {q j : Nat} (h : j < q) : am_sb b q j = b j := if_pos h
theorem am_sb_at (b : Nat → Bool) (q : Nat) : am_sb b q q = true := by
  unfold am_sb
  rw [if_neg (Nat.lt_irrefl q)]
  exact decide_eq_true rfl
theorem am_sb_hi {b : Nat → Bool} {q j : Nat} (h : q < j) : am_sb b q j = false := by
  unfold am_sb
  rw [if_neg (by omega)]
  exact decide_eq_false (by omega)
theorem am_nm_sb (b : Nat → Bool) (q : Nat) : am_nm (am_sb b q) (q + 1) = 2 * am_nm b q + 1 := by
  rw [am_nm_s, am_sb_at, am_nm_congr q (fun i hi => am_sb_lo (b := b) hi)]
  rfl
theorem am_nm_grow {b c : Nat → Bool} {q : Nat} (h : ∀ i, i < q → b i = c i) (hb : b q = false) (hc : c q = true) : ∀ d, am_nm b (q + 1 + d) < am_nm c (q + 1 + d) := by
  intro d
  induction d with
  | zero =>
    rw [Nat.add_zero, am_nm_s, am_nm_s, am_nm_congr q h, hb, hc]
    show 2 * am_nm c q + 0 < 2 * am_nm c q + 1
    omega
  | succ d ih =>
    have e : q + 1 + (d + 1) = (q + 1 + d) + 1 := by omega
    rw [e, am_nm_s, am_nm_s]
    have h1 := am_b1_le (b (q + 1 + d))
    omega
end
section
/-! the store of a path: us choices made, nf locations (variable, outer, kind, value), nc closures (token, environment); xl, xc: the component's names of them -/
abbrev am_S : Type := Nat × Nat × Nat × (Nat → Int32) × (Nat → Int32) × (Nat → Int32) × (Nat → Int32) × (Nat → Int32) × (Nat → Int32) × (Nat → Nat) × (Nat → Nat)
def am_us (s : am_S) : Nat := s.1
def am_nf (s : am_S) : Nat := s.2.1
def am_nc (s : am_S) : Nat := s.2.2.1
def am_fVar (s : am_S) : Nat → Int32 := s.2.2.2.1
def am_fPar (s : am_S) : Nat → Int32 := s.2.2.2.2.1
def am_fK (s : am_S) : Nat → Int32 := s.2.2.2.2.2.1
def am_fV (s : am_S) : Nat → Int32 := s.2.2.2.2.2.2.1
def am_cPos (s : am_S) : Nat → Int32 := s.2.2.2.2.2.2.2.1
def am_cEnv (s : am_S) : Nat → Int32 := s.2.2.2.2.2.2.2.2.1
def am_xl (s : am_S) : Nat → Nat := s.2.2.2.2.2.2.2.2.2.1
def am_xc (s : am_S) : Nat → Nat := s.2.2.2.2.2.2.2.2.2.2
def am_al (s : am_S) : Nat := am_nf s + am_nc s
def am_un (f : Nat → Nat) (k x : Nat) : Nat → Nat := fun j => if j = k then x else f j
theorem am_un_s {f : Nat → Nat} {k x : Nat} : am_un f k x k = x := if_pos rfl
theorem am_un_n {f : Nat → Nat} {k j x : Nat} (h : j ≠ k) : am_un f k x j = f j := if_neg h
theorem am_up_s {f : Nat → Int32} {k : Nat} {x : Int32} : upd f k x k = x := if_pos rfl
theorem am_up_n {f : Nat → Int32} {k j : Nat} {x : Int32} (h : j ≠ k) : upd f k x j = f j := if_neg h
def am_s0 : am_S := (0, 0, 0, fun _ => 0, fun _ => 0, fun _ => 0, fun _ => 0, fun _ => 0, fun _ => 0, fun _ => 0, fun _ => 0)
/-- a choice made -/
def am_tick (s : am_S) : am_S := (am_us s + 1, am_nf s, am_nc s, am_fVar s, am_fPar s, am_fK s, am_fV s, am_cPos s, am_cEnv s, am_xl s, am_xc s)
/-- a new location -/
def am_nl (x e k v : Int32) (s : am_S) : am_S := (am_us s, am_nf s + 1, am_nc s, upd (am_fVar s) (am_nf s) x, upd (am_fPar s) (am_nf s) e, upd (am_fK s) (am_nf s) k, upd (am_fV s) (am_nf s) v, am_cPos s, am_cEnv s, am_un (am_xl s) (am_nf s) (am_al s), am_xc s)
/-- a new closure -/
def am_nk (p : Nat) (e : Int32) (s : am_S) : am_S := (am_us s, am_nf s, am_nc s + 1, am_fVar s, am_fPar s, am_fK s, am_fV s, upd (am_cPos s) (am_nc s) (nI p), upd (am_cEnv s) (am_nc s) e, am_xl s, am_un (am_xc s) (am_nc s) (am_al s))
/-- location f set -/
def am_sl (f : Nat) (k v : Int32) (s : am_S) : am_S := (am_us s, am_nf s, am_nc s, am_fVar s, am_fPar s, upd (am_fK s) f k, upd (am_fV s) f v, am_cPos s, am_cEnv s, am_xl s, am_xc s)
/-- the location of a variable -/
def am_lk (s : am_S) (v : Int32) : Nat → Int32 → Int32
  | 0, _ => -1
  | k + 1, e => if e < 0 then -1 else if am_fVar s e.toNatClampNeg = v then e else am_lk s v k (am_fPar s e.toNatClampNeg)
theorem am_lk_s (s : am_S) (v : Int32) (k : Nat) (e : Int32) : am_lk s v (k + 1) e = if e < 0 then -1 else if am_fVar s e.toNatClampNeg = v then e else am_lk s v k (am_fPar s e.toNatClampNeg) := rfl
theorem am_lk_m (s : am_S) (v : Int32) : ∀ k, am_lk s v k (-1) = -1 := by
  intro k
  cases k with
  | zero => rfl
  | succ k => rw [am_lk_s, if_pos (by decide)]
/-- an evaluation's end: did it succeed, kind and value, the store -/
abbrev am_R : Type := Bool × Int32 × Int32 × am_S
def am_fl (s : am_S) : am_R := (false, 0, 0, s)
def am_bd (r : am_R) (f : Int32 → Int32 → am_S → am_R) : am_R := if r.1 = true then f r.2.1 r.2.2.1 r.2.2.2 else am_fl r.2.2.2
theorem am_bd_t {r : am_R} {f : Int32 → Int32 → am_S → am_R} (h : r.1 = true) : am_bd r f = f r.2.1 r.2.2.1 r.2.2.2 := if_pos h
theorem am_bd_f {r : am_R} {f : Int32 → Int32 → am_S → am_R} (h : r.1 = false) : am_bd r f = am_fl r.2.2.2 := if_neg (by rw [h]; decide)
def am_rd (f : Int32) (s : am_S) : am_R := if f < 0 then am_fl s else (true, am_fK s f.toNatClampNeg, am_fV s f.toNatClampNeg, s)
def am_wr (f k v : Int32) (s : am_S) : am_R := if f < 0 then am_fl s else (true, k, v, am_sl f.toNatClampNeg k v s)
def am_op (k x y : Int32) : Int32 := if k = 2 then x + y else if k = 3 then x - y else if k = 4 then x * y else if k = 5 then (if x < y then 1 else 0) else (if x = y then 1 else 0)
section
variable (n : Nat) (tk ta : Nat → Int32) (mC mA : Nat) (b : Nat → Bool) (E : Nat → Int32 → am_S → am_R) (p : Nat) (e : Int32) (s : am_S)
def am_q7 (v : Int32) : Nat := if v = 0 then am_eN tk n (am_eN tk n (p + 1)) else am_eN tk n (p + 1)
def am_c7 (k v : Int32) (s1 : am_S) : am_R := if k = 1 then E (am_q7 n tk p v) e s1 else am_fl s1
def am_e7 : am_R := am_bd (E (p + 1) e s) (am_c7 n tk E p e)
def am_q8 (x : Bool) : Nat := if x = true then am_eN tk n (p + 1) else p + 1
def am_e8 : am_R := if mC ≤ am_us s then am_fl s else E (am_q8 n tk p (b (am_us s))) e (am_tick s)
def am_c10 (k v : Int32) (s1 : am_S) : am_R := if k = 1 ∧ ¬ v = 0 then E (am_eN tk n (p + 1)) e s1 else am_fl s1
def am_e10 : am_R := am_bd (E (p + 1) e s) (am_c10 n tk E p e)
def am_c11 (k v : Int32) (s1 : am_S) : am_R := if mA ≤ am_al s1 then am_fl s1 else E (am_eN tk n (p + 1)) (nI (am_nf s1)) (am_nl (ta p) e k v s1)
def am_e11 : am_R := am_bd (E (p + 1) e s) (am_c11 n tk ta mA E p e)
def am_e12 : am_R := if mA ≤ am_al s then am_fl s else (true, 2, nI (am_nc s), am_nk p e s)
def am_ap (k v k2 v2 : Int32) (s2 : am_S) : am_R := if k = 2 then (if mA ≤ am_al s2 then am_fl s2 else E ((am_cPos s2 v.toNatClampNeg).toNatClampNeg + 1) (nI (am_nf s2)) (am_nl (ta (am_cPos s2 v.toNatClampNeg).toNatClampNeg) (am_cEnv s2 v.toNatClampNeg) k2 v2 s2)) else am_fl s2
def am_c13 (k v : Int32) (s1 : am_S) : am_R := am_bd (E (am_eN tk n (p + 1)) e s1) (am_ap ta mA E k v)
def am_e13 : am_R := am_bd (E (p + 1) e s) (am_c13 n tk ta mA E p e)
def am_c14 (k v : Int32) (s1 : am_S) : am_R := am_wr (am_lk s1 (ta p) 17 e) k v s1
def am_e14 : am_R := am_bd (E (p + 1) e s) (am_c14 ta p e)
def am_c15 (_ _ : Int32) (s1 : am_S) : am_R := E (am_eN tk n (p + 1)) e s1
def am_e15 : am_R := am_bd (E (p + 1) e s) (am_c15 n tk E p e)
def am_ca (c k v k2 v2 : Int32) (s2 : am_S) : am_R := if k = 1 ∧ k2 = 1 then (true, 1, am_op c v v2, s2) else am_fl s2
def am_c2 (k v : Int32) (s1 : am_S) : am_R := am_bd (E (am_eN tk n (p + 1)) e s1) (am_ca (tk p) k v)
def am_e2 : am_R := am_bd (E (p + 1) e s) (am_c2 n tk E p e)
/-- one visit, with the evaluator E for the operands -/
def am_stp : am_R :=
  if n ≤ p then am_fl s
  else if tk p = 0 then (true, 1, ta p, s)
  else if tk p = 1 then am_rd (am_lk s (ta p) 17 e) s
  else if tk p = 7 then am_e7 n tk E p e s
  else if tk p = 8 then am_e8 n tk mC b E p e s
  else if tk p = 9 then am_fl s
  else if tk p = 10 then am_e10 n tk E p e s
  else if tk p = 11 then am_e11 n tk ta mA E p e s
  else if tk p = 12 then am_e12 mA p e s
  else if tk p = 13 then am_e13 n tk ta mA E p e s
  else if tk p = 14 then am_e14 ta E p e s
  else if tk p = 15 then am_e15 n tk E p e s
  else am_e2 n tk E p e s
end
/-- the kinds of tokens -/
def am_kd (k : Int32) : Prop := k = 0 ∨ k = 1 ∨ k = 2 ∨ k = 3 ∨ k = 4 ∨ k = 5 ∨ k = 6 ∨ k = 7 ∨ k = 8 ∨ k = 9 ∨ k = 10 ∨ k = 11 ∨ k = 12 ∨ k = 13 ∨ k = 14 ∨ k = 15
def am_bin (k : Int32) : Prop := k = 2 ∨ k = 3 ∨ k = 4 ∨ k = 5 ∨ k = 6
theorem am_cases {n : Nat} {tk ta : Nat → Int32} {mC mA : Nat} {b : Nat → Bool} {E : Nat → Int32 → am_S → am_R} {p : Nat} {e : Int32} {s : am_S} {P : am_R → Prop}
    (hn : n ≤ p → P (am_fl s))
    (h0 : p < n → tk p = 0 → P (true, 1, ta p, s))
    (h1 : p < n → tk p = 1 → P (am_rd (am_lk s (ta p) 17 e) s))
    (h7 : p < n → tk p = 7 → P (am_e7 n tk E p e s))
    (h8 : p < n → tk p = 8 → P (am_e8 n tk mC b E p e s))
    (h9 : p < n → tk p = 9 → P (am_fl s))
    (h10 : p < n → tk p = 10 → P (am_e10 n tk E p e s))
    (h11 : p < n → tk p = 11 → P (am_e11 n tk ta mA E p e s))
    (h12 : p < n → tk p = 12 → P (am_e12 mA p e s))
    (h13 : p < n → tk p = 13 → P (am_e13 n tk ta mA E p e s))
    (h14 : p < n → tk p = 14 → P (am_e14 ta E p e s))
    (h15 : p < n → tk p = 15 → P (am_e15 n tk E p e s))
    (h2 : p < n → (¬ tk p = 0 ∧ ¬ tk p = 1 ∧ ¬ tk p = 7 ∧ ¬ tk p = 8 ∧ ¬ tk p = 9 ∧ ¬ tk p = 10 ∧ ¬ tk p = 11 ∧ ¬ tk p = 12 ∧ ¬ tk p = 13 ∧ ¬ tk p = 14 ∧ ¬ tk p = 15) → P (am_e2 n tk E p e s)) :
    P (am_stp n tk ta mC mA b E p e s) := by
  unfold am_stp
  by_cases q : n ≤ p
  · rw [if_pos q]; exact hn q
  rw [if_neg q]
  have hp : p < n := Nat.lt_of_not_le q
  by_cases k0 : tk p = 0
  · rw [if_pos k0]; exact h0 hp k0
  rw [if_neg k0]
  by_cases k1 : tk p = 1
  · rw [if_pos k1]; exact h1 hp k1
  rw [if_neg k1]
  by_cases k7 : tk p = 7
  · rw [if_pos k7]; exact h7 hp k7
  rw [if_neg k7]
  by_cases k8 : tk p = 8
  · rw [if_pos k8]; exact h8 hp k8
  rw [if_neg k8]
  by_cases k9 : tk p = 9
  · rw [if_pos k9]; exact h9 hp k9
  rw [if_neg k9]
  by_cases k10 : tk p = 10
  · rw [if_pos k10]; exact h10 hp k10
  rw [if_neg k10]
  by_cases k11 : tk p = 11
  · rw [if_pos k11]; exact h11 hp k11
  rw [if_neg k11]
  by_cases k12 : tk p = 12
  · rw [if_pos k12]; exact h12 hp k12
  rw [if_neg k12]
  by_cases k13 : tk p = 13
  · rw [if_pos k13]; exact h13 hp k13
  rw [if_neg k13]
  by_cases k14 : tk p = 14
  · rw [if_pos k14]; exact h14 hp k14
  rw [if_neg k14]
  by_cases k15 : tk p = 15
  · rw [if_pos k15]; exact h15 hp k15
  rw [if_neg k15]
  exact h2 hp ⟨k0, k1, k7, k8, k9, k10, k11, k12, k13, k14, k15⟩
theorem am_binOf {k : Int32} (h : am_kd k) (g : ¬ k = 0 ∧ ¬ k = 1 ∧ ¬ k = 7 ∧ ¬ k = 8 ∧ ¬ k = 9 ∧ ¬ k = 10 ∧ ¬ k = 11 ∧ ¬ k = 12 ∧ ¬ k = 13 ∧ ¬ k = 14 ∧ ¬ k = 15) : am_bin k := by
  obtain ⟨g0, g1, g7, g8, g9, g10, g11, g12, g13, g14, g15⟩ := g
  rcases h with h | h | h | h | h | h | h | h | h | h | h | h | h | h | h | h
  · exact absurd h g0
  · exact absurd h g1
  · exact Or.inl h
  · exact Or.inr (Or.inl h)
  · exact Or.inr (Or.inr (Or.inl h))
  · exact Or.inr (Or.inr (Or.inr (Or.inl h)))
  · exact Or.inr (Or.inr (Or.inr (Or.inr h)))
  · exact absurd h g7
  · exact absurd h g8
  · exact absurd h g9
  · exact absurd h g10
  · exact absurd h g11
  · exact absurd h g12
  · exact absurd h g13
  · exact absurd h g14
  · exact absurd h g15
def am_ev (n : Nat) (tk ta : Nat → Int32) (mC mA : Nat) (b : Nat → Bool) : Nat → Nat → Int32 → am_S → am_R
  | 0 => fun _ _ s => am_fl s
  | F + 1 => am_stp n tk ta mC mA b (am_ev n tk ta mC mA b F)
theorem am_ev_s (n : Nat) (tk ta : Nat → Int32) (mC mA : Nat) (b : Nat → Bool) (F p : Nat) (e : Int32) (s : am_S) : am_ev n tk ta mC mA b (F + 1) p e s = am_stp n tk ta mC mA b (am_ev n tk ta mC mA b F) p e s := rfl
end
section
/-! what holds of a store, and what an evaluation keeps -/
def am_okE (s : am_S) (e : Int32) : Prop := e = -1 ∨ ∃ f, f < am_nf s ∧ e = nI f
def am_okV (s : am_S) (k v : Int32) : Prop := k = 1 ∨ (k = 2 ∧ ∃ c, c < am_nc s ∧ v = nI c)
def am_ext (s t : am_S) : Prop := am_us s ≤ am_us t ∧ am_nf s ≤ am_nf t ∧ am_nc s ≤ am_nc t ∧ (∀ f, f < am_nf s → am_xl t f = am_xl s f) ∧ (∀ c, c < am_nc s → am_xc t c = am_xc s c)
theorem am_ext_r (s : am_S) : am_ext s s := ⟨Nat.le_refl _, Nat.le_refl _, Nat.le_refl _, fun _ _ => rfl, fun _ _ => rfl⟩
theorem am_ext_t {s t w : am_S} (h : am_ext s t) (g : am_ext t w) : am_ext s w :=
  ⟨Nat.le_trans h.1 g.1, Nat.le_trans h.2.1 g.2.1, Nat.le_trans h.2.2.1 g.2.2.1, fun f hf => (g.2.2.2.1 f (Nat.lt_of_lt_of_le hf h.2.1)).trans (h.2.2.2.1 f hf), fun c hc => (g.2.2.2.2 c (Nat.lt_of_lt_of_le hc h.2.2.1)).trans (h.2.2.2.2 c hc)⟩
theorem am_ext_al {s t : am_S} (h : am_ext s t) : am_al s ≤ am_al t := Nat.add_le_add h.2.1 h.2.2.1
theorem am_ext_tick (s : am_S) : am_ext s (am_tick s) := ⟨Nat.le_succ _, Nat.le_refl _, Nat.le_refl _, fun _ _ => rfl, fun _ _ => rfl⟩
theorem am_ext_nl (x e k v : Int32) (s : am_S) : am_ext s (am_nl x e k v s) := ⟨Nat.le_refl _, Nat.le_succ _, Nat.le_refl _, fun _ hf => am_un_n (Nat.ne_of_lt hf), fun _ _ => rfl⟩
theorem am_ext_nk (p : Nat) (e : Int32) (s : am_S) : am_ext s (am_nk p e s) := ⟨Nat.le_refl _, Nat.le_refl _, Nat.le_succ _, fun _ _ => rfl, fun _ hc => am_un_n (Nat.ne_of_lt hc)⟩
theorem am_ext_sl (f : Nat) (k v : Int32) (s : am_S) : am_ext s (am_sl f k v s) := ⟨Nat.le_refl _, Nat.le_refl _, Nat.le_refl _, fun _ _ => rfl, fun _ _ => rfl⟩
theorem am_okE_x {s t : am_S} {e : Int32} (h : am_ext s t) (g : am_okE s e) : am_okE t e := by
  rcases g with g | ⟨f, hf, g⟩
  · exact Or.inl g
  · exact Or.inr ⟨f, Nat.lt_of_lt_of_le hf h.2.1, g⟩
theorem am_okV_x {s t : am_S} {k v : Int32} (h : am_ext s t) (g : am_okV s k v) : am_okV t k v := by
  rcases g with g | ⟨g, c, hc, gv⟩
  · exact Or.inl g
  · exact Or.inr ⟨g, c, Nat.lt_of_lt_of_le hc h.2.2.1, gv⟩
def am_wL (s : am_S) (f : Nat) : Prop := (am_fPar s f = -1 ∨ ∃ g, g < f ∧ am_fPar s f = nI g) ∧ am_okV s (am_fK s f) (am_fV s f) ∧ am_xl s f < am_al s ∧ ∀ g, g < f → am_xl s g < am_xl s f
def am_wC (n : Nat) (s : am_S) (c : Nat) : Prop := (∃ p, p < n ∧ am_cPos s c = nI p) ∧ am_okE s (am_cEnv s c) ∧ am_xc s c < am_al s
def am_WF (n mC mA : Nat) (s : am_S) : Prop := am_us s ≤ mC ∧ am_al s ≤ mA ∧ (∀ f, f < am_nf s → am_wL s f) ∧ (∀ c, c < am_nc s → am_wC n s c)
theorem am_WF_0 (n mC mA : Nat) : am_WF n mC mA am_s0 := ⟨Nat.zero_le _, Nat.zero_le _, fun f hf => absurd hf (Nat.not_lt_zero f), fun c hc => absurd hc (Nat.not_lt_zero c)⟩
section
variable {n mC mA : Nat} {s : am_S}
theorem am_WF_tick (h : am_WF n mC mA s) (hu : am_us s < mC) : am_WF n mC mA (am_tick s) := ⟨hu, h.2.1, h.2.2.1, h.2.2.2⟩
theorem am_WF_sl {f0 : Nat} {k v : Int32} (h : am_WF n mC mA s) (hv : am_okV s k v) : am_WF n mC mA (am_sl f0 k v s) := by
  refine ⟨h.1, h.2.1, fun f hf => ?_, h.2.2.2⟩
  have hw := h.2.2.1 f hf
  refine ⟨hw.1, ?_, hw.2.2.1, hw.2.2.2⟩
  show am_okV s (upd (am_fK s) f0 k f) (upd (am_fV s) f0 v f)
  by_cases e : f = f0
  · rw [e, am_up_s, am_up_s]; exact hv
  · rw [am_up_n e, am_up_n e]; exact hw.2.1
theorem am_WF_nl {x e k v : Int32} (h : am_WF n mC mA s) (ha : am_al s < mA) (he : am_okE s e) (hv : am_okV s k v) : am_WF n mC mA (am_nl x e k v s) := by
  have hx := am_ext_nl x e k v s
  have hal : am_al (am_nl x e k v s) = am_al s + 1 := by
    show am_nf s + 1 + am_nc s = am_nf s + am_nc s + 1
    omega
  refine ⟨h.1, by rw [hal]; exact ha, fun f hf => ?_, fun c hc => ?_⟩
  · have hf' : f < am_nf s + 1 := hf
    by_cases q : f = am_nf s
    · subst q
      refine ⟨?_, ?_, ?_, ?_⟩
      · show (upd (am_fPar s) (am_nf s) e (am_nf s) = -1 ∨ ∃ g, g < am_nf s ∧ upd (am_fPar s) (am_nf s) e (am_nf s) = nI g)
        rw [am_up_s]
        exact he
      · show am_okV (am_nl x e k v s) (upd (am_fK s) (am_nf s) k (am_nf s)) (upd (am_fV s) (am_nf s) v (am_nf s))
        rw [am_up_s, am_up_s]
        exact am_okV_x hx hv
      · rw [hal]
        show am_un (am_xl s) (am_nf s) (am_al s) (am_nf s) < am_al s + 1
        rw [am_un_s]
        exact Nat.lt_succ_self _
      · intro g hg
        show am_un (am_xl s) (am_nf s) (am_al s) g < am_un (am_xl s) (am_nf s) (am_al s) (am_nf s)
        rw [am_un_s, am_un_n (Nat.ne_of_lt hg)]
        exact (h.2.2.1 g hg).2.2.1
    · have hf2 : f < am_nf s := by omega
      have hw := h.2.2.1 f hf2
      refine ⟨?_, ?_, ?_, ?_⟩
      · show (upd (am_fPar s) (am_nf s) e f = -1 ∨ ∃ g, g < f ∧ upd (am_fPar s) (am_nf s) e f = nI g)
        rw [am_up_n q]
        exact hw.1
      · show am_okV (am_nl x e k v s) (upd (am_fK s) (am_nf s) k f) (upd (am_fV s) (am_nf s) v f)
        rw [am_up_n q, am_up_n q]
        exact am_okV_x hx hw.2.1
      · rw [hal]
        show am_un (am_xl s) (am_nf s) (am_al s) f < am_al s + 1
        rw [am_un_n q]
        exact Nat.lt_succ_of_lt hw.2.2.1
      · intro g hg
        show am_un (am_xl s) (am_nf s) (am_al s) g < am_un (am_xl s) (am_nf s) (am_al s) f
        rw [am_un_n q, am_un_n (by omega)]
        exact hw.2.2.2 g hg
  · have hw := h.2.2.2 c hc
    refine ⟨hw.1, am_okE_x hx hw.2.1, ?_⟩
    rw [hal]
    exact Nat.lt_succ_of_lt hw.2.2
theorem am_WF_nk {p : Nat} {e : Int32} (h : am_WF n mC mA s) (hp : p < n) (ha : am_al s < mA) (he : am_okE s e) : am_WF n mC mA (am_nk p e s) := by
  have hx := am_ext_nk p e s
  have hal : am_al (am_nk p e s) = am_al s + 1 := by
    show am_nf s + (am_nc s + 1) = am_nf s + am_nc s + 1
    omega
  refine ⟨h.1, by rw [hal]; exact ha, fun f hf => ?_, fun c hc => ?_⟩
  · have hw := h.2.2.1 f hf
    refine ⟨hw.1, am_okV_x hx hw.2.1, ?_, hw.2.2.2⟩
    rw [hal]
    exact Nat.lt_succ_of_lt hw.2.2.1
  · have hc' : c < am_nc s + 1 := hc
    by_cases q : c = am_nc s
    · subst q
      refine ⟨⟨p, hp, ?_⟩, ?_, ?_⟩
      · show upd (am_cPos s) (am_nc s) (nI p) (am_nc s) = nI p
        rw [am_up_s]
      · show am_okE (am_nk p e s) (upd (am_cEnv s) (am_nc s) e (am_nc s))
        rw [am_up_s]
        exact am_okE_x hx he
      · rw [hal]
        show am_un (am_xc s) (am_nc s) (am_al s) (am_nc s) < am_al s + 1
        rw [am_un_s]
        exact Nat.lt_succ_self _
    · have hc2 : c < am_nc s := by omega
      have hw := h.2.2.2 c hc2
      refine ⟨?_, ?_, ?_⟩
      · show ∃ p', p' < n ∧ upd (am_cPos s) (am_nc s) (nI p) c = nI p'
        rw [am_up_n q]
        exact hw.1
      · show am_okE (am_nk p e s) (upd (am_cEnv s) (am_nc s) e c)
        rw [am_up_n q]
        exact am_okE_x hx hw.2.1
      · rw [hal]
        show am_un (am_xc s) (am_nc s) (am_al s) c < am_al s + 1
        rw [am_un_n q]
        exact Nat.lt_succ_of_lt hw.2.2
theorem am_WF_f (h : am_WF n mC mA s) (hA : mA ≤ 16) {f : Nat} (hf : f < am_nf s) : f < 16 := by
  have h1 := h.2.1
  unfold am_al at h1
  omega
theorem am_WF_c (h : am_WF n mC mA s) (hA : mA ≤ 16) {c : Nat} (hc : c < am_nc s) : c < 16 := by
  have h1 := h.2.1
  unfold am_al at h1
  omega
theorem am_lk_ok {v : Int32} (h : am_WF n mC mA s) (hA : mA ≤ 16) : ∀ k e, am_okE s e → am_okE s (am_lk s v k e) := by
  intro k
  induction k with
  | zero => intro e _; exact Or.inl rfl
  | succ k ih =>
    intro e he
    rw [am_lk_s]
    rcases he with he | ⟨f, hf, he⟩
    · rw [he, if_pos (by decide)]
      exact Or.inl rfl
    · have hb : f < 2 ^ 31 := by have := am_WF_f h hA hf; omega
      rw [he, if_neg (nI_pos hb), nI_clamp hb]
      by_cases q : am_fVar s f = v
      · rw [if_pos q]
        exact Or.inr ⟨f, hf, rfl⟩
      · rw [if_neg q]
        apply ih
        rcases (h.2.2.1 f hf).1 with g | ⟨g, hg, eg⟩
        · exact Or.inl g
        · exact Or.inr ⟨g, by omega, eg⟩
theorem am_lk_st {v : Int32} (h : am_WF n mC mA s) (hA : mA ≤ 16) : ∀ k f, f < k → f < am_nf s → am_lk s v (k + 1) (nI f) = am_lk s v k (nI f) := by
  intro k
  induction k with
  | zero => intro f hk; omega
  | succ k ih =>
    intro f hk hf
    have hb : f < 2 ^ 31 := by have := am_WF_f h hA hf; omega
    rw [am_lk_s s v (k + 1) (nI f), am_lk_s s v k (nI f), if_neg (nI_pos hb), if_neg (nI_pos hb), nI_clamp hb]
    by_cases q : am_fVar s f = v
    · rw [if_pos q, if_pos q]
    · rw [if_neg q, if_neg q]
      rcases (h.2.2.1 f hf).1 with g | ⟨g, hg, eg⟩
      · rw [g, am_lk_m, am_lk_m]
      · rw [eg]
        exact ih g (by omega) (by omega)
theorem am_lk_16 {v e : Int32} (h : am_WF n mC mA s) (hA : mA ≤ 16) (he : am_okE s e) : am_lk s v 17 e = am_lk s v 16 e := by
  rcases he with he | ⟨f, hf, he⟩
  · rw [he, am_lk_m, am_lk_m]
  · rw [he]
    exact am_lk_st h hA 16 f (am_WF_f h hA hf) hf
end
/-- an evaluation that began at s: its end is a good store that extends s -/
def am_G (n mC mA : Nat) (s : am_S) (r : am_R) : Prop := am_WF n mC mA r.2.2.2 ∧ am_ext s r.2.2.2 ∧ (r.1 = true → am_okV r.2.2.2 r.2.1 r.2.2.1)
section
variable {n mC mA : Nat}
theorem am_G_fl {s : am_S} (h : am_WF n mC mA s) : am_G n mC mA s (am_fl s) := ⟨h, am_ext_r s, fun z => absurd z (by show ¬ (false = true); decide)⟩
theorem am_G_ok {s t : am_S} {k v : Int32} (h : am_WF n mC mA t) (hx : am_ext s t) (hv : am_okV t k v) : am_G n mC mA s (true, k, v, t) := ⟨h, hx, fun _ => hv⟩
theorem am_G_x {s t : am_S} {r : am_R} (hx : am_ext s t) (g : am_G n mC mA t r) : am_G n mC mA s r := ⟨g.1, am_ext_t hx g.2.1, g.2.2⟩
theorem am_G_bd {s : am_S} {r : am_R} {f : Int32 → Int32 → am_S → am_R} (g : am_G n mC mA s r) (hf : ∀ k v s1, am_WF n mC mA s1 → am_ext s s1 → am_okV s1 k v → am_G n mC mA s1 (f k v s1)) : am_G n mC mA s (am_bd r f) := by
  cases h : r.1 with
  | true =>
    rw [am_bd_t h]
    exact am_G_x g.2.1 (hf _ _ _ g.1 g.2.1 (g.2.2 h))
  | false =>
    rw [am_bd_f h]
    exact am_G_x g.2.1 (am_G_fl g.1)
theorem am_G_rd {s : am_S} {f : Int32} (h : am_WF n mC mA s) (hA : mA ≤ 16) (hf : am_okE s f) : am_G n mC mA s (am_rd f s) := by
  unfold am_rd
  rcases hf with hf | ⟨g, hg, hf⟩
  · rw [hf, if_pos (by decide)]
    exact am_G_fl h
  · have hb : g < 2 ^ 31 := by have := am_WF_f h hA hg; omega
    rw [hf, if_neg (nI_pos hb), nI_clamp hb]
    exact am_G_ok h (am_ext_r s) (h.2.2.1 g hg).2.1
theorem am_G_wr {s : am_S} {f k v : Int32} (h : am_WF n mC mA s) (hA : mA ≤ 16) (hf : am_okE s f) (hv : am_okV s k v) : am_G n mC mA s (am_wr f k v s) := by
  unfold am_wr
  rcases hf with hf | ⟨g, hg, hf⟩
  · rw [hf, if_pos (by decide)]
    exact am_G_fl h
  · have hb : g < 2 ^ 31 := by have := am_WF_f h hA hg; omega
    rw [hf, if_neg (nI_pos hb), nI_clamp hb]
    exact am_G_ok (am_WF_sl h hv) (am_ext_sl g k v s) (am_okV_x (am_ext_sl g k v s) hv)
end
theorem am_okE_nf (x e k v : Int32) (s : am_S) : am_okE (am_nl x e k v s) (nI (am_nf s)) := Or.inr ⟨am_nf s, Nat.lt_succ_self _, rfl⟩
theorem am_ev_G {n : Nat} {tk ta : Nat → Int32} {mC mA : Nat} {b : Nat → Bool} (hA : mA ≤ 16) (hn : n ≤ 32) : ∀ F p e s, am_WF n mC mA s → am_okE s e → am_G n mC mA s (am_ev n tk ta mC mA b F p e s) := by
  intro F
  induction F with
  | zero => intro p e s h _; exact am_G_fl h
  | succ F ih =>
    intro p e s h he
    rw [am_ev_s]
    refine am_cases (P := am_G n mC mA s) ?_ ?_ ?_ ?_ ?_ ?_ ?_ ?_ ?_ ?_ ?_ ?_ ?_
    · intro _; exact am_G_fl h
    · intro _ _; exact am_G_ok h (am_ext_r s) (Or.inl rfl)
    · intro _ _; exact am_G_rd h hA (am_lk_ok h hA _ _ he)
    · intro _ _
      refine am_G_bd (ih _ _ _ h he) (fun k v s1 w x _ => ?_)
      unfold am_c7
      split
      · exact ih _ _ _ w (am_okE_x x he)
      · exact am_G_fl w
    · intro _ _
      unfold am_e8
      split
      · exact am_G_fl h
      · rename_i q
        exact am_G_x (am_ext_tick s) (ih _ _ _ (am_WF_tick h (Nat.lt_of_not_le q)) (am_okE_x (am_ext_tick s) he))
    · intro _ _; exact am_G_fl h
    · intro _ _
      refine am_G_bd (ih _ _ _ h he) (fun k v s1 w x _ => ?_)
      unfold am_c10
      split
      · exact ih _ _ _ w (am_okE_x x he)
      · exact am_G_fl w
    · intro _ _
      refine am_G_bd (ih _ _ _ h he) (fun k v s1 w x hv => ?_)
      unfold am_c11
      split
      · exact am_G_fl w
      · rename_i q
        exact am_G_x (am_ext_nl _ _ _ _ s1) (ih _ _ _ (am_WF_nl w (Nat.lt_of_not_le q) (am_okE_x x he) hv) (am_okE_nf _ _ _ _ s1))
    · intro hp _
      unfold am_e12
      split
      · exact am_G_fl h
      · rename_i q
        exact am_G_ok (am_WF_nk h hp (Nat.lt_of_not_le q) he) (am_ext_nk p e s) (Or.inr ⟨rfl, am_nc s, Nat.lt_succ_self _, rfl⟩)
    · intro _ _
      refine am_G_bd (ih _ _ _ h he) (fun k v s1 w x hv => ?_)
      refine am_G_bd (ih _ _ _ w (am_okE_x x he)) (fun k2 v2 s2 w2 x2 hv2 => ?_)
      unfold am_ap
      split
      · rename_i hk
        split
        · exact am_G_fl w2
        · rename_i q
          rcases am_okV_x x2 hv with hv' | ⟨_, c, hc, hv'⟩
          · rw [hv'] at hk
            exact absurd hk (by decide)
          · have hb : c < 2 ^ 31 := by have := am_WF_c w2 hA hc; omega
            rw [hv', nI_clamp hb]
            exact am_G_x (am_ext_nl _ _ _ _ s2) (ih _ _ _ (am_WF_nl w2 (Nat.lt_of_not_le q) (w2.2.2.2 c hc).2.1 hv2) (am_okE_nf _ _ _ _ s2))
      · exact am_G_fl w2
    · intro _ _
      refine am_G_bd (ih _ _ _ h he) (fun k v s1 w x hv => ?_)
      exact am_G_wr w hA (am_lk_ok w hA _ _ (am_okE_x x he)) hv
    · intro _ _
      refine am_G_bd (ih _ _ _ h he) (fun k v s1 w x _ => ?_)
      exact ih _ _ _ w (am_okE_x x he)
    · intro _ _
      refine am_G_bd (ih _ _ _ h he) (fun k v s1 w x _ => ?_)
      refine am_G_bd (ih _ _ _ w (am_okE_x x he)) (fun k2 v2 s2 w2 x2 _ => ?_)
      unfold am_ca
      split
      · exact am_G_ok w2 (am_ext_r s2) (Or.inl rfl)
      · exact am_G_fl w2
/-! choices grow; two vectors that agree below j lead to the same, up to choice j -/
def am_M (s : am_S) (r : am_R) : Prop := am_us s ≤ am_us r.2.2.2
theorem am_M_r {r : am_R} {f : Int32 → Int32 → am_S → am_R} (hf : ∀ k v s1, am_M s1 (f k v s1)) : am_us r.2.2.2 ≤ am_us (am_bd r f).2.2.2 := by
  cases h : r.1 with
  | true => rw [am_bd_t h]; exact hf _ _ _
  | false => rw [am_bd_f h]; exact Nat.le_refl _
theorem am_M_bd {s : am_S} {r : am_R} {f : Int32 → Int32 → am_S → am_R} (g : am_M s r) (hf : ∀ k v s1, am_M s1 (f k v s1)) : am_M s (am_bd r f) := Nat.le_trans g (am_M_r hf)
theorem am_M_fl (s : am_S) : am_M s (am_fl s) := Nat.le_refl _
section
variable {n : Nat} {tk ta : Nat → Int32} {mC mA : Nat} {E : Nat → Int32 → am_S → am_R} {p : Nat} {e : Int32}
theorem am_M_7 (hE : ∀ p e s, am_M s (E p e s)) (k v : Int32) (s : am_S) : am_M s (am_c7 n tk E p e k v s) := by
  unfold am_c7
  split
  · exact hE _ _ _
  · exact am_M_fl s
theorem am_M_10 (hE : ∀ p e s, am_M s (E p e s)) (k v : Int32) (s : am_S) : am_M s (am_c10 n tk E p e k v s) := by
  unfold am_c10
  split
  · exact hE _ _ _
  · exact am_M_fl s
theorem am_M_11 (hE : ∀ p e s, am_M s (E p e s)) (k v : Int32) (s : am_S) : am_M s (am_c11 n tk ta mA E p e k v s) := by
  unfold am_c11
  split
  · exact am_M_fl s
  · exact hE _ _ (am_nl (ta p) e k v s)
theorem am_M_ap (hE : ∀ p e s, am_M s (E p e s)) (k v k2 v2 : Int32) (s : am_S) : am_M s (am_ap ta mA E k v k2 v2 s) := by
  unfold am_ap
  split
  · split
    · exact am_M_fl s
    · exact hE _ _ (am_nl _ _ _ _ s)
  · exact am_M_fl s
theorem am_M_wr (f k v : Int32) (s : am_S) : am_M s (am_wr f k v s) := by
  unfold am_wr
  split
  · exact am_M_fl s
  · exact Nat.le_refl _
theorem am_M_rd (f : Int32) (s : am_S) : am_M s (am_rd f s) := by
  unfold am_rd
  split
  · exact am_M_fl s
  · exact Nat.le_refl _
theorem am_M_ca (c k v k2 v2 : Int32) (s : am_S) : am_M s (am_ca c k v k2 v2 s) := by
  unfold am_ca
  split
  · exact Nat.le_refl _
  · exact am_M_fl s
theorem am_M_13 (hE : ∀ p e s, am_M s (E p e s)) (k v : Int32) (s : am_S) : am_M s (am_c13 n tk ta mA E p e k v s) := am_M_bd (hE _ _ _) (fun k2 v2 s2 => am_M_ap hE k v k2 v2 s2)
theorem am_M_14 (k v : Int32) (s : am_S) : am_M s (am_c14 ta p e k v s) := am_M_wr _ k v s
theorem am_M_15 (hE : ∀ p e s, am_M s (E p e s)) (k v : Int32) (s : am_S) : am_M s (am_c15 n tk E p e k v s) := hE _ _ _
theorem am_M_2 (hE : ∀ p e s, am_M s (E p e s)) (k v : Int32) (s : am_S) : am_M s (am_c2 n tk E p e k v s) := am_M_bd (hE _ _ _) (fun k2 v2 s2 => am_M_ca _ k v k2 v2 s2)
end
theorem am_ev_M {n : Nat} {tk ta : Nat → Int32} {mC mA : Nat} {b : Nat → Bool} : ∀ F p e s, am_M s (am_ev n tk ta mC mA b F p e s) := by
  intro F
  induction F with
  | zero => intro p e s; exact am_M_fl s
  | succ F ih =>
    intro p e s
    rw [am_ev_s]
    refine am_cases (P := am_M s) ?_ ?_ ?_ ?_ ?_ ?_ ?_ ?_ ?_ ?_ ?_ ?_ ?_
    · intro _; exact am_M_fl s
    · intro _ _; exact Nat.le_refl _
    · intro _ _; exact am_M_rd _ s
    · intro _ _; exact am_M_bd (ih _ _ _) (fun k v s1 => am_M_7 ih k v s1)
    · intro _ _
      unfold am_e8
      split
      · exact am_M_fl s
      · exact Nat.le_trans (Nat.le_succ _) (ih _ _ (am_tick s))
    · intro _ _; exact am_M_fl s
    · intro _ _; exact am_M_bd (ih _ _ _) (fun k v s1 => am_M_10 ih k v s1)
    · intro _ _; exact am_M_bd (ih _ _ _) (fun k v s1 => am_M_11 ih k v s1)
    · intro _ _
      unfold am_e12
      split
      · exact am_M_fl s
      · exact Nat.le_refl _
    · intro _ _; exact am_M_bd (ih _ _ _) (fun k v s1 => am_M_13 ih k v s1)
    · intro _ _; exact am_M_bd (ih _ _ _) (fun k v s1 => am_M_14 k v s1)
    · intro _ _; exact am_M_bd (ih _ _ _) (fun k v s1 => am_M_15 ih k v s1)
    · intro _ _; exact am_M_bd (ih _ _ _) (fun k v s1 => am_M_2 ih k v s1)
def am_D (j : Nat) (r t : am_R) : Prop := (am_us r.2.2.2 ≤ j ∧ t = r) ∨ (j < am_us r.2.2.2 ∧ j < am_us t.2.2.2)
theorem am_D_r (j : Nat) (r : am_R) : am_D j r r := by
  by_cases h : am_us r.2.2.2 ≤ j
  · exact Or.inl ⟨h, rfl⟩
  · exact Or.inr ⟨Nat.lt_of_not_le h, Nat.lt_of_not_le h⟩
theorem am_D_bd {j : Nat} {r t : am_R} {f g : Int32 → Int32 → am_S → am_R} (h : am_D j r t) (hf : ∀ k v s1, am_D j (f k v s1) (g k v s1)) (mf : ∀ k v s1, am_M s1 (f k v s1)) (mg : ∀ k v s1, am_M s1 (g k v s1)) : am_D j (am_bd r f) (am_bd t g) := by
  rcases h with ⟨_, e⟩ | ⟨h, h'⟩
  · rw [e]
    cases hr : r.1 with
    | true => rw [am_bd_t hr, am_bd_t hr]; exact hf _ _ _
    | false => rw [am_bd_f hr, am_bd_f hr]; exact am_D_r j _
  · exact Or.inr ⟨Nat.lt_of_lt_of_le h (am_M_r mf), Nat.lt_of_lt_of_le h' (am_M_r mg)⟩
theorem am_cases2 {n : Nat} {tk ta : Nat → Int32} {mC mA : Nat} {b b2 : Nat → Bool} {E E2 : Nat → Int32 → am_S → am_R} {p : Nat} {e : Int32} {s : am_S} {P : am_R → am_R → Prop}
    (hs : ∀ r : am_R, P r r)
    (h7 : P (am_e7 n tk E p e s) (am_e7 n tk E2 p e s))
    (h8 : P (am_e8 n tk mC b E p e s) (am_e8 n tk mC b2 E2 p e s))
    (h10 : P (am_e10 n tk E p e s) (am_e10 n tk E2 p e s))
    (h11 : P (am_e11 n tk ta mA E p e s) (am_e11 n tk ta mA E2 p e s))
    (h13 : P (am_e13 n tk ta mA E p e s) (am_e13 n tk ta mA E2 p e s))
    (h14 : P (am_e14 ta E p e s) (am_e14 ta E2 p e s))
    (h15 : P (am_e15 n tk E p e s) (am_e15 n tk E2 p e s))
    (h2 : P (am_e2 n tk E p e s) (am_e2 n tk E2 p e s)) :
    P (am_stp n tk ta mC mA b E p e s) (am_stp n tk ta mC mA b2 E2 p e s) := by
  unfold am_stp
  by_cases q : n ≤ p
  · rw [if_pos q, if_pos q]; exact hs _
  rw [if_neg q, if_neg q]
  by_cases k0 : tk p = 0
  · rw [if_pos k0, if_pos k0]; exact hs _
  rw [if_neg k0, if_neg k0]
  by_cases k1 : tk p = 1
  · rw [if_pos k1, if_pos k1]; exact hs _
  rw [if_neg k1, if_neg k1]
  by_cases k7 : tk p = 7
  · rw [if_pos k7, if_pos k7]; exact h7
  rw [if_neg k7, if_neg k7]
  by_cases k8 : tk p = 8
  · rw [if_pos k8, if_pos k8]; exact h8
  rw [if_neg k8, if_neg k8]
  by_cases k9 : tk p = 9
  · rw [if_pos k9, if_pos k9]; exact hs _
  rw [if_neg k9, if_neg k9]
  by_cases k10 : tk p = 10
  · rw [if_pos k10, if_pos k10]; exact h10
  rw [if_neg k10, if_neg k10]
  by_cases k11 : tk p = 11
  · rw [if_pos k11, if_pos k11]; exact h11
  rw [if_neg k11, if_neg k11]
  by_cases k12 : tk p = 12
  · rw [if_pos k12, if_pos k12]; exact hs _
  rw [if_neg k12, if_neg k12]
  by_cases k13 : tk p = 13
  · rw [if_pos k13, if_pos k13]; exact h13
  rw [if_neg k13, if_neg k13]
  by_cases k14 : tk p = 14
  · rw [if_pos k14, if_pos k14]; exact h14
  rw [if_neg k14, if_neg k14]
  by_cases k15 : tk p = 15
  · rw [if_pos k15, if_pos k15]; exact h15
  rw [if_neg k15, if_neg k15]
  exact h2
theorem am_ev_D {n : Nat} {tk ta : Nat → Int32} {mC mA : Nat} {b b2 : Nat → Bool} {j : Nat} (hb : ∀ i, i < j → b i = b2 i) : ∀ F p e s, am_D j (am_ev n tk ta mC mA b F p e s) (am_ev n tk ta mC mA b2 F p e s) := by
  intro F
  induction F with
  | zero => intro p e s; exact am_D_r j _
  | succ F ih =>
    intro p e s
    have m1 := am_ev_M (n := n) (tk := tk) (ta := ta) (mC := mC) (mA := mA) (b := b) F
    have m2 := am_ev_M (n := n) (tk := tk) (ta := ta) (mC := mC) (mA := mA) (b := b2) F
    rw [am_ev_s, am_ev_s]
    refine am_cases2 (P := am_D j) (am_D_r j) ?_ ?_ ?_ ?_ ?_ ?_ ?_ ?_
    · refine am_D_bd (ih _ _ _) (fun k v s1 => ?_) (fun k v s1 => am_M_7 m1 k v s1) (fun k v s1 => am_M_7 m2 k v s1)
      unfold am_c7
      by_cases k1 : k = 1
      · rw [if_pos k1, if_pos k1]
        exact ih _ _ _
      · rw [if_neg k1, if_neg k1]
        exact am_D_r j _
    · unfold am_e8
      by_cases q : mC ≤ am_us s
      · rw [if_pos q, if_pos q]
        exact am_D_r j _
      · rw [if_neg q, if_neg q]
        by_cases u : am_us s < j
        · rw [hb _ u]
          exact ih _ _ _
        · have h1 := m1 (am_q8 n tk p (b (am_us s))) e (am_tick s)
          have h2 := m2 (am_q8 n tk p (b2 (am_us s))) e (am_tick s)
          have h3 : am_us (am_tick s) = am_us s + 1 := rfl
          unfold am_M at h1 h2
          rw [h3] at h1 h2
          exact Or.inr ⟨by omega, by omega⟩
    · refine am_D_bd (ih _ _ _) (fun k v s1 => ?_) (fun k v s1 => am_M_10 m1 k v s1) (fun k v s1 => am_M_10 m2 k v s1)
      unfold am_c10
      by_cases k1 : k = 1 ∧ ¬ v = 0
      · rw [if_pos k1, if_pos k1]
        exact ih _ _ _
      · rw [if_neg k1, if_neg k1]
        exact am_D_r j _
    · refine am_D_bd (ih _ _ _) (fun k v s1 => ?_) (fun k v s1 => am_M_11 m1 k v s1) (fun k v s1 => am_M_11 m2 k v s1)
      unfold am_c11
      by_cases q : mA ≤ am_al s1
      · rw [if_pos q, if_pos q]
        exact am_D_r j _
      · rw [if_neg q, if_neg q]
        exact ih _ _ _
    · refine am_D_bd (ih _ _ _) (fun k v s1 => ?_) (fun k v s1 => am_M_13 m1 k v s1) (fun k v s1 => am_M_13 m2 k v s1)
      refine am_D_bd (ih _ _ _) (fun k2 v2 s2 => ?_) (fun k2 v2 s2 => am_M_ap m1 k v k2 v2 s2) (fun k2 v2 s2 => am_M_ap m2 k v k2 v2 s2)
      unfold am_ap
      by_cases k1 : k = 2
      · rw [if_pos k1, if_pos k1]
        by_cases q : mA ≤ am_al s2
        · rw [if_pos q, if_pos q]
          exact am_D_r j _
        · rw [if_neg q, if_neg q]
          exact ih _ _ _
      · rw [if_neg k1, if_neg k1]
        exact am_D_r j _
    · exact am_D_bd (ih _ _ _) (fun k v s1 => am_D_r j _) (fun k v s1 => am_M_14 k v s1) (fun k v s1 => am_M_14 k v s1)
    · exact am_D_bd (ih _ _ _) (fun k v s1 => ih _ _ _) (fun k v s1 => am_M_15 m1 k v s1) (fun k v s1 => am_M_15 m2 k v s1)
    · refine am_D_bd (ih _ _ _) (fun k v s1 => ?_) (fun k v s1 => am_M_2 m1 k v s1) (fun k v s1 => am_M_2 m2 k v s1)
      exact am_D_bd (ih _ _ _) (fun k2 v2 s2 => am_D_r j _) (fun k2 v2 s2 => am_M_ca _ k v k2 v2 s2) (fun k2 v2 s2 => am_M_ca _ k v k2 v2 s2)
/-- a path's whole run -/
def am_run (n : Nat) (tk ta : Nat → Int32) (mC mA : Nat) (b : Nat → Bool) : am_R := am_ev n tk ta mC mA b 545 0 (-1) am_s0
theorem am_reach {n : Nat} {tk ta : Nat → Int32} {mC mA : Nat} {b b2 : Nat → Bool} {q : Nat} (hb : ∀ i, i < q → b i = b2 i) (h : q < am_us (am_run n tk ta mC mA b).2.2.2) : q < am_us (am_run n tk ta mC mA b2).2.2.2 := by
  rcases am_ev_D (n := n) (tk := tk) (ta := ta) (mC := mC) (mA := mA) hb 545 0 (-1) am_s0 with ⟨h1, _⟩ | ⟨_, h2⟩
  · unfold am_run at h
    omega
  · exact h2
theorem am_run_G {n : Nat} {tk ta : Nat → Int32} {mC mA : Nat} (b : Nat → Bool) (hA : mA ≤ 16) (hn : n ≤ 32) : am_G n mC mA am_s0 (am_run n tk ta mC mA b) := am_ev_G hA hn 545 0 (-1) am_s0 (am_WF_0 n mC mA) (Or.inl rfl)
end
section
/-! a machine of frames (token, environment, state, first kind, first value), by its rules; a is the number of steps left over 128 for each allocation that may still come -/
abbrev am_F : Type := Nat × Int32 × Int32 × Int32 × Int32
def am_psh (k : Int32) : Prop := k = 7 ∨ k = 10 ∨ k = 11 ∨ k = 13 ∨ k = 14 ∨ k = 15 ∨ am_bin k
def am_tl (k st : Int32) : Prop := (k = 7 ∧ st = 2) ∨ (k = 8 ∧ st = 1) ∨ (k = 10 ∧ st = 2) ∨ (k = 11 ∧ st = 2) ∨ (k = 13 ∧ st = 3) ∨ (k = 15 ∧ st = 2)
def am_nz : List am_F → Prop
  | [] => True
  | (_, _, st, _, _) :: r => ¬ st = 0 ∧ am_nz r
def am_H (n mC mA : Nat) (s : am_S) (e : Int32) (p : Nat) (stk : List am_F) : Prop := am_WF n mC mA s ∧ am_okE s e ∧ p < n ∧ stk.length < 544 ∧ am_nz stk
def am_I (n : Nat) (tk ta : Nat → Int32) (mC mA : Nat) (b : Nat → Bool) (L : Nat → List am_F → Int32 → Int32 → am_S → Prop) (Q : am_S → Prop) : Prop :=
  (∀ (a a' : Nat) (stk : List am_F) (rk rv : Int32) (s : am_S), a ≤ a' → L a stk rk rv s → L a' stk rk rv s) ∧
  (∀ (a : Nat) (e : Int32) (stk : List am_F) (rk rv : Int32) (s : am_S), am_WF n mC mA s → am_okE s e → stk.length < 545 → Q s → L (a + 1) ((n, e, 0, 0, 0) :: stk) rk rv s) ∧
  (∀ (a p : Nat) (e : Int32) (stk : List am_F) (rk rv : Int32) (s : am_S), am_H n mC mA s e p stk → tk p = 0 → L a stk 1 (ta p) s → L (a + 1) ((p, e, 0, 0, 0) :: stk) rk rv s) ∧
  (∀ (a p : Nat) (e : Int32) (stk : List am_F) (rk rv : Int32) (s : am_S) (f : Nat), am_H n mC mA s e p stk → tk p = 1 → f < am_nf s → am_lk s (ta p) 17 e = nI f → L a stk (am_fK s f) (am_fV s f) s → L (a + 1) ((p, e, 0, 0, 0) :: stk) rk rv s) ∧
  (∀ (a p : Nat) (e : Int32) (stk : List am_F) (rk rv : Int32) (s : am_S), am_H n mC mA s e p stk → tk p = 1 → am_lk s (ta p) 17 e = -1 → Q s → L (a + 1) ((p, e, 0, 0, 0) :: stk) rk rv s) ∧
  (∀ (a p : Nat) (e : Int32) (stk : List am_F) (rk rv : Int32) (s : am_S), am_H n mC mA s e p stk → am_psh (tk p) → L a ((p + 1, e, 0, 0, 0) :: (p, e, 1, 0, 0) :: stk) rk rv s → L (a + 1) ((p, e, 0, 0, 0) :: stk) rk rv s) ∧
  (∀ (a p : Nat) (e : Int32) (stk : List am_F) (rk rv : Int32) (s : am_S), am_H n mC mA s e p stk → tk p = 8 → am_us s < mC → L a ((am_q8 n tk p (b (am_us s)), e, 0, 0, 0) :: (p, e, 1, 0, 0) :: stk) rk rv (am_tick s) → L (a + 1) ((p, e, 0, 0, 0) :: stk) rk rv s) ∧
  (∀ (a p : Nat) (e : Int32) (stk : List am_F) (rk rv : Int32) (s : am_S), am_H n mC mA s e p stk → tk p = 8 → mC ≤ am_us s → Q s → L (a + 1) ((p, e, 0, 0, 0) :: stk) rk rv s) ∧
  (∀ (a p : Nat) (e : Int32) (stk : List am_F) (rk rv : Int32) (s : am_S), am_H n mC mA s e p stk → tk p = 9 → Q s → L (a + 1) ((p, e, 0, 0, 0) :: stk) rk rv s) ∧
  (∀ (a p : Nat) (e : Int32) (stk : List am_F) (rk rv : Int32) (s : am_S), am_H n mC mA s e p stk → tk p = 12 → am_al s < mA → L a stk 2 (nI (am_nc s)) (am_nk p e s) → L (a + 1) ((p, e, 0, 0, 0) :: stk) rk rv s) ∧
  (∀ (a p : Nat) (e : Int32) (stk : List am_F) (rk rv : Int32) (s : am_S), am_H n mC mA s e p stk → tk p = 12 → mA ≤ am_al s → Q s → L (a + 1) ((p, e, 0, 0, 0) :: stk) rk rv s) ∧
  (∀ (a p : Nat) (e : Int32) (stk : List am_F) (rk rv : Int32) (s : am_S), am_H n mC mA s e p stk → am_okV s rk rv → (tk p = 13 ∨ am_bin (tk p)) → L a ((am_eN tk n (p + 1), e, 0, 0, 0) :: (p, e, 2, rk, rv) :: stk) rk rv s → L (a + 1) ((p, e, 1, 0, 0) :: stk) rk rv s) ∧
  (∀ (a p : Nat) (e : Int32) (stk : List am_F) (v rv : Int32) (s : am_S), am_H n mC mA s e p stk → am_bin (tk p) → L a stk 1 (am_op (tk p) v rv) s → L (a + 1) ((p, e, 2, 1, v) :: stk) 1 rv s) ∧
  (∀ (a p : Nat) (e : Int32) (stk : List am_F) (k v rk rv : Int32) (s : am_S), am_H n mC mA s e p stk → am_bin (tk p) → am_okV s k v → am_okV s rk rv → ¬ (k = 1 ∧ rk = 1) → Q s → L (a + 1) ((p, e, 2, k, v) :: stk) rk rv s) ∧
  (∀ (a p : Nat) (e : Int32) (stk : List am_F) (rv : Int32) (s : am_S), am_H n mC mA s e p stk → tk p = 7 → L a ((am_q7 n tk p rv, e, 0, 0, 0) :: (p, e, 2, 0, 0) :: stk) 1 rv s → L (a + 1) ((p, e, 1, 0, 0) :: stk) 1 rv s) ∧
  (∀ (a p : Nat) (e : Int32) (stk : List am_F) (rk rv : Int32) (s : am_S), am_H n mC mA s e p stk → tk p = 7 → am_okV s rk rv → ¬ rk = 1 → Q s → L (a + 1) ((p, e, 1, 0, 0) :: stk) rk rv s) ∧
  (∀ (a p : Nat) (e : Int32) (stk : List am_F) (rv : Int32) (s : am_S), am_H n mC mA s e p stk → tk p = 10 → ¬ rv = 0 → L a ((am_eN tk n (p + 1), e, 0, 0, 0) :: (p, e, 2, 0, 0) :: stk) 1 rv s → L (a + 1) ((p, e, 1, 0, 0) :: stk) 1 rv s) ∧
  (∀ (a p : Nat) (e : Int32) (stk : List am_F) (rk rv : Int32) (s : am_S), am_H n mC mA s e p stk → tk p = 10 → am_okV s rk rv → ¬ (rk = 1 ∧ ¬ rv = 0) → Q s → L (a + 1) ((p, e, 1, 0, 0) :: stk) rk rv s) ∧
  (∀ (a p : Nat) (e : Int32) (stk : List am_F) (rk rv : Int32) (s : am_S), am_H n mC mA s e p stk → tk p = 11 → am_okV s rk rv → am_al s < mA → L a ((am_eN tk n (p + 1), nI (am_nf s), 0, 0, 0) :: (p, e, 2, 0, 0) :: stk) rk rv (am_nl (ta p) e rk rv s) → L (a + 1) ((p, e, 1, 0, 0) :: stk) rk rv s) ∧
  (∀ (a p : Nat) (e : Int32) (stk : List am_F) (rk rv : Int32) (s : am_S), am_H n mC mA s e p stk → tk p = 11 → am_okV s rk rv → mA ≤ am_al s → Q s → L (a + 1) ((p, e, 1, 0, 0) :: stk) rk rv s) ∧
  (∀ (a p : Nat) (e : Int32) (stk : List am_F) (rk rv : Int32) (s : am_S) (f : Nat), am_H n mC mA s e p stk → tk p = 14 → am_okV s rk rv → f < am_nf s → am_lk s (ta p) 17 e = nI f → L a stk rk rv (am_sl f rk rv s) → L (a + 1) ((p, e, 1, 0, 0) :: stk) rk rv s) ∧
  (∀ (a p : Nat) (e : Int32) (stk : List am_F) (rk rv : Int32) (s : am_S), am_H n mC mA s e p stk → tk p = 14 → am_okV s rk rv → am_lk s (ta p) 17 e = -1 → Q s → L (a + 1) ((p, e, 1, 0, 0) :: stk) rk rv s) ∧
  (∀ (a p : Nat) (e : Int32) (stk : List am_F) (rk rv : Int32) (s : am_S), am_H n mC mA s e p stk → tk p = 15 → am_okV s rk rv → L a ((am_eN tk n (p + 1), e, 0, 0, 0) :: (p, e, 2, 0, 0) :: stk) rk rv s → L (a + 1) ((p, e, 1, 0, 0) :: stk) rk rv s) ∧
  (∀ (a p : Nat) (e : Int32) (stk : List am_F) (rk rv : Int32) (s : am_S) (c lp : Nat), am_H n mC mA s e p stk → tk p = 13 → am_okV s rk rv → c < am_nc s → am_al s < mA → lp < n → am_cPos s c = nI lp → L (a + 127) ((lp + 1, nI (am_nf s), 0, 0, 0) :: (p, e, 3, 2, nI c) :: stk) rk rv (am_nl (ta lp) (am_cEnv s c) rk rv s) → L a ((p, e, 2, 2, nI c) :: stk) rk rv s) ∧
  (∀ (a p : Nat) (e : Int32) (stk : List am_F) (k v rk rv : Int32) (s : am_S), am_H n mC mA s e p stk → tk p = 13 → am_okV s k v → am_okV s rk rv → (¬ k = 2 ∨ mA ≤ am_al s) → Q s → L (a + 1) ((p, e, 2, k, v) :: stk) rk rv s) ∧
  (∀ (a p : Nat) (e : Int32) (stk : List am_F) (st k v rk rv : Int32) (s : am_S), am_H n mC mA s e p stk → am_okV s rk rv → am_tl (tk p) st → L a stk rk rv s → L (a + 1) ((p, e, st, k, v) :: stk) rk rv s)
/-- what is wanted of the machine at an evaluation's end -/
def am_K (L : Nat → List am_F → Int32 → Int32 → am_S → Prop) (Q : am_S → Prop) (stk : List am_F) (a : Nat) (r : am_R) : Prop := if r.1 = true then L a stk r.2.1 r.2.2.1 r.2.2.2 else Q r.2.2.2
section
variable {L : Nat → List am_F → Int32 → Int32 → am_S → Prop} {Q : am_S → Prop}
theorem am_K_t {stk : List am_F} {a : Nat} {r : am_R} (h : r.1 = true) (H : am_K L Q stk a r) : L a stk r.2.1 r.2.2.1 r.2.2.2 := by
  unfold am_K at H
  rw [if_pos h] at H
  exact H
theorem am_K_f {stk : List am_F} {a : Nat} {r : am_R} (h : r.1 = false) (H : am_K L Q stk a r) : Q r.2.2.2 := by
  unfold am_K at H
  rw [if_neg (by rw [h]; decide)] at H
  exact H
theorem am_K_T {stk : List am_F} {a : Nat} {r : am_R} (h : r.1 = true) (H : L a stk r.2.1 r.2.2.1 r.2.2.2) : am_K L Q stk a r := by
  unfold am_K
  rw [if_pos h]
  exact H
theorem am_K_F {stk : List am_F} {a : Nat} {r : am_R} (h : r.1 = false) (H : Q r.2.2.2) : am_K L Q stk a r := by
  unfold am_K
  rw [if_neg (by rw [h]; decide)]
  exact H
theorem am_K_q {stk : List am_F} {a : Nat} {s : am_S} (H : am_K L Q stk a (am_fl s)) : Q s := am_K_f (r := am_fl s) rfl H
theorem am_K_o {stk : List am_F} {a : Nat} {k v : Int32} {s : am_S} (H : am_K L Q stk a (true, k, v, s)) : L a stk k v s := am_K_t (r := (true, k, v, s)) rfl H
theorem am_K_bd {n mC mA : Nat} {s : am_S} {stk stk2 : List am_F} {a a2 : Nat} {r : am_R} {f : Int32 → Int32 → am_S → am_R} (g : am_G n mC mA s r) (H : am_K L Q stk a (am_bd r f)) (h : ∀ k v s1, am_WF n mC mA s1 → am_ext s s1 → am_okV s1 k v → am_K L Q stk a (f k v s1) → L a2 stk2 k v s1) : am_K L Q stk2 a2 r := by
  cases hr : r.1 with
  | true =>
    rw [am_bd_t hr] at H
    exact am_K_T hr (h _ _ _ g.1 g.2.1 (g.2.2 hr) H)
  | false =>
    rw [am_bd_f hr] at H
    exact am_K_F hr (am_K_q H)
theorem am_K_pop {n mC mA : Nat} {s : am_S} {stk stk2 : List am_F} {a a2 : Nat} {r : am_R} (g : am_G n mC mA s r) (H : am_K L Q stk a r) (h : ∀ k v s1, am_WF n mC mA s1 → am_ext s s1 → am_okV s1 k v → L a stk k v s1 → L a2 stk2 k v s1) : am_K L Q stk2 a2 r := by
  cases hr : r.1 with
  | true => exact am_K_T hr (h _ _ _ g.1 g.2.1 (g.2.2 hr) (am_K_t hr H))
  | false => exact am_K_F hr (am_K_f hr H)
end
theorem am_al_nl (x e k v : Int32) (s : am_S) : am_al (am_nl x e k v s) = am_al s + 1 := by
  show am_nf s + 1 + am_nc s = am_nf s + am_nc s + 1
  omega
theorem am_al_tick (s : am_S) : am_al (am_tick s) = am_al s := rfl
theorem am_q7_b {n : Nat} {tk : Nat → Int32} {p : Nat} (hp : p < n) (v : Int32) : am_eN tk n (p + 1) ≤ am_q7 n tk p v ∧ am_q7 n tk p v ≤ n ∧ am_q7 n tk p v ≤ am_eN tk n (am_q7 n tk p v) ∧ am_eN tk n (am_q7 n tk p v) ≤ am_eN tk n (am_eN tk n (am_eN tk n (p + 1))) := by
  have c1 : am_eN tk n (p + 1) ≤ n := am_eN_le hp
  have c2 : am_eN tk n (am_eN tk n (p + 1)) ≤ n := am_eN_le c1
  have b2 := am_eN_ge tk n (am_eN tk n (p + 1))
  have b3 := am_eN_ge tk n (am_eN tk n (am_eN tk n (p + 1)))
  unfold am_q7
  by_cases h : v = 0
  · rw [if_pos h]
    exact ⟨b2, c2, b3, Nat.le_refl _⟩
  · rw [if_neg h]
    exact ⟨Nat.le_refl _, c1, b2, b3⟩
theorem am_q8_b {n : Nat} {tk : Nat → Int32} {p : Nat} (hp : p < n) (x : Bool) : p + 1 ≤ am_q8 n tk p x ∧ am_q8 n tk p x ≤ n ∧ am_q8 n tk p x ≤ am_eN tk n (am_q8 n tk p x) ∧ am_eN tk n (am_q8 n tk p x) ≤ am_eN tk n (am_eN tk n (p + 1)) := by
  have c1 : am_eN tk n (p + 1) ≤ n := am_eN_le hp
  have b1 := am_eN_ge tk n (p + 1)
  have b2 := am_eN_ge tk n (am_eN tk n (p + 1))
  unfold am_q8
  by_cases h : x = true
  · rw [if_pos h]
    exact ⟨b1, c1, b2, Nat.le_refl _⟩
  · rw [if_neg h]
    exact ⟨Nat.le_refl _, hp, b1, b2⟩
theorem am_ar_bin {k : Int32} (h : am_bin k) : am_ar k = 2 := by
  rcases h with h | h | h | h | h <;> rw [h] <;> decide
end
section
/-- the machine does what the evaluation says -/
theorem am_sim {n : Nat} {tk ta : Nat → Int32} {mC mA : Nat} {b : Nat → Bool} {L : Nat → List am_F → Int32 → Int32 → am_S → Prop} {Q : am_S → Prop} (I : am_I n tk ta mC mA b L Q) (hA : mA ≤ 16) (hn : n ≤ 32) (hK : ∀ i, i < n → am_kd (tk i)) :
    ∀ (F p : Nat) (e : Int32) (s : am_S) (stk : List am_F) (rk rv : Int32) (a : Nat), p ≤ n → am_WF n mC mA s → am_okE s e → am_nz stk → stk.length + (am_eN tk n p - p) + 32 * (16 - am_al s) ≤ 544 → (am_eN tk n p - p) + 32 * (16 - am_al s) < F → am_K L Q stk a (am_ev n tk ta mC mA b F p e s) → L (a + 4 * (am_eN tk n p - p) + 1) ((p, e, 0, 0, 0) :: stk) rk rv s := by
  obtain ⟨rMono, rOut, rNum, rVar, rVarF, rPush, rAmb, rAmbF, rFail, rLam, rLamF, rHold, rCalc, rCalcF, rIf, rIfF, rReq, rReqF, rLet, rLetF, rSet, rSetF, rSeq, rApp, rAppF, rPop⟩ := I
  intro F
  induction F with
  | zero => intro p e s stk rk rv a _ _ _ _ _ hF; exact absurd hF (Nat.not_lt_zero _)
  | succ F ih =>
    intro p e s stk rk rv a hp0 w he hz hl hF
    rw [am_ev_s]
    refine am_cases (P := fun r => am_K L Q stk a r → L (a + 4 * (am_eN tk n p - p) + 1) ((p, e, 0, 0, 0) :: stk) rk rv s) ?_ ?_ ?_ ?_ ?_ ?_ ?_ ?_ ?_ ?_ ?_ ?_ ?_
    · intro hp H
      have ep : p = n := by omega
      rw [ep]
      exact rMono _ _ _ _ _ _ (by omega) (rOut a e stk rk rv s w he (by omega) (am_K_q H))
    · intro hp hk H
      have hg := am_eN_gt (tk := tk) hp
      exact rMono _ _ _ _ _ _ (by omega) (rNum a p e stk rk rv s ⟨w, he, hp, by omega, hz⟩ hk (am_K_o H))
    · intro hp hk H
      have hg := am_eN_gt (tk := tk) hp
      have hH : am_H n mC mA s e p stk := ⟨w, he, hp, by omega, hz⟩
      unfold am_rd at H
      rcases am_lk_ok (v := ta p) w hA 17 e he with hf | ⟨f, hf, ef⟩
      · rw [hf, if_pos (by decide)] at H
        exact rMono _ _ _ _ _ _ (by omega) (rVarF a p e stk rk rv s hH hk hf (am_K_q H))
      · have hb : f < 2 ^ 31 := by have := am_WF_f w hA hf; omega
        rw [ef, if_neg (nI_pos hb), nI_clamp hb] at H
        exact rMono _ _ _ _ _ _ (by omega) (rVar a p e stk rk rv s f hH hk hf ef (am_K_o H))
    · intro hp hk H
      have hg := am_eN_gt (tk := tk) hp
      have hH : am_H n mC mA s e p stk := ⟨w, he, hp, by omega, hz⟩
      have ea := am_eN_3 (tk := tk) hp (by rw [hk]; decide)
      have b1 := am_eN_ge tk n (p + 1)
      have c1 : am_eN tk n (p + 1) ≤ n := am_eN_le hp
      have b2 := am_eN_ge tk n (am_eN tk n (p + 1))
      have b3 := am_eN_ge tk n (am_eN tk n (am_eN tk n (p + 1)))
      refine rMono _ _ _ _ _ _ ?_ (rPush _ p e stk rk rv s hH (Or.inl hk) (ih (p + 1) e s ((p, e, 1, 0, 0) :: stk) rk rv (a + 4 * (am_eN tk n p - am_eN tk n (p + 1)) + 3) hp w he ⟨by decide, hz⟩ ?_ ?_ (am_K_bd (am_ev_G hA hn F (p + 1) e s w he) H (fun k v s1 w1 x1 v1 H1 => ?_))))
      · omega
      · rw [List.length_cons]; omega
      · omega
      · have hal := am_ext_al x1
        have hH1 : am_H n mC mA s1 e p stk := ⟨w1, am_okE_x x1 he, hp, hH.2.2.2⟩
        unfold am_c7 at H1
        by_cases k1 : k = 1
        · subst k1
          rw [if_pos rfl] at H1
          obtain ⟨d1, d2, d3, d4⟩ := am_q7_b (tk := tk) hp v
          refine rMono _ _ _ _ _ _ ?_ (rIf _ p e stk v s1 hH1 hk (ih (am_q7 n tk p v) e s1 ((p, e, 2, 0, 0) :: stk) 1 v (a + 1) d2 w1 (am_okE_x x1 he) ⟨by decide, hz⟩ ?_ ?_ (am_K_pop (am_ev_G hA hn F (am_q7 n tk p v) e s1 w1 (am_okE_x x1 he)) H1 (fun k' v' s2 w2 x2 v2 h2 => rPop a p e stk 2 0 0 k' v' s2 ⟨w2, am_okE_x x2 (am_okE_x x1 he), hp, hH.2.2.2⟩ v2 (Or.inl ⟨hk, rfl⟩) h2))))
          · omega
          · rw [List.length_cons]; omega
          · omega
        · rw [if_neg k1] at H1
          exact rMono _ _ _ _ _ _ (by omega) (rIfF a p e stk k v s1 hH1 hk v1 k1 (am_K_q H1))
    · intro hp hk H
      have hg := am_eN_gt (tk := tk) hp
      have hH : am_H n mC mA s e p stk := ⟨w, he, hp, by omega, hz⟩
      have ea := am_eN_2 (tk := tk) hp (by rw [hk]; decide)
      unfold am_e8 at H
      by_cases u : mC ≤ am_us s
      · rw [if_pos u] at H
        exact rMono _ _ _ _ _ _ (by omega) (rAmbF a p e stk rk rv s hH hk u (am_K_q H))
      · rw [if_neg u] at H
        have u' : am_us s < mC := Nat.lt_of_not_le u
        have wt := am_WF_tick w u'
        have xt := am_ext_tick s
        have at1 := am_al_tick s
        obtain ⟨d1, d2, d3, d4⟩ := am_q8_b (tk := tk) hp (b (am_us s))
        refine rMono _ _ _ _ _ _ ?_ (rAmb _ p e stk rk rv s hH hk u' (ih (am_q8 n tk p (b (am_us s))) e (am_tick s) ((p, e, 1, 0, 0) :: stk) rk rv (a + 1) d2 wt (am_okE_x xt he) ⟨by decide, hz⟩ ?_ ?_ (am_K_pop (am_ev_G hA hn F (am_q8 n tk p (b (am_us s))) e (am_tick s) wt (am_okE_x xt he)) H (fun k' v' s2 w2 x2 v2 h2 => rPop a p e stk 1 0 0 k' v' s2 ⟨w2, am_okE_x x2 (am_okE_x xt he), hp, hH.2.2.2⟩ v2 (Or.inr (Or.inl ⟨hk, rfl⟩)) h2))))
        · omega
        · rw [List.length_cons]; omega
        · omega
    · intro hp hk H
      have hg := am_eN_gt (tk := tk) hp
      exact rMono _ _ _ _ _ _ (by omega) (rFail a p e stk rk rv s ⟨w, he, hp, by omega, hz⟩ hk (am_K_q H))
    · intro hp hk H
      have hg := am_eN_gt (tk := tk) hp
      have hH : am_H n mC mA s e p stk := ⟨w, he, hp, by omega, hz⟩
      have ea := am_eN_2 (tk := tk) hp (by rw [hk]; decide)
      have b1 := am_eN_ge tk n (p + 1)
      have c1 : am_eN tk n (p + 1) ≤ n := am_eN_le hp
      have b2 := am_eN_ge tk n (am_eN tk n (p + 1))
      refine rMono _ _ _ _ _ _ ?_ (rPush _ p e stk rk rv s hH (Or.inr (Or.inl hk)) (ih (p + 1) e s ((p, e, 1, 0, 0) :: stk) rk rv (a + 4 * (am_eN tk n p - am_eN tk n (p + 1)) + 3) hp w he ⟨by decide, hz⟩ ?_ ?_ (am_K_bd (am_ev_G hA hn F (p + 1) e s w he) H (fun k v s1 w1 x1 v1 H1 => ?_))))
      · omega
      · rw [List.length_cons]; omega
      · omega
      · have hal := am_ext_al x1
        have hH1 : am_H n mC mA s1 e p stk := ⟨w1, am_okE_x x1 he, hp, hH.2.2.2⟩
        unfold am_c10 at H1
        by_cases k1 : k = 1 ∧ ¬ v = 0
        · rw [if_pos k1] at H1
          obtain ⟨k2, k3⟩ := k1
          subst k2
          refine rMono _ _ _ _ _ _ ?_ (rReq _ p e stk v s1 hH1 hk k3 (ih (am_eN tk n (p + 1)) e s1 ((p, e, 2, 0, 0) :: stk) 1 v (a + 1) c1 w1 (am_okE_x x1 he) ⟨by decide, hz⟩ ?_ ?_ (am_K_pop (am_ev_G hA hn F (am_eN tk n (p + 1)) e s1 w1 (am_okE_x x1 he)) H1 (fun k' v' s2 w2 x2 v2 h2 => rPop a p e stk 2 0 0 k' v' s2 ⟨w2, am_okE_x x2 (am_okE_x x1 he), hp, hH.2.2.2⟩ v2 (Or.inr (Or.inr (Or.inl ⟨hk, rfl⟩))) h2))))
          · omega
          · rw [List.length_cons]; omega
          · omega
        · rw [if_neg k1] at H1
          exact rMono _ _ _ _ _ _ (by omega) (rReqF a p e stk k v s1 hH1 hk v1 k1 (am_K_q H1))
    · intro hp hk H
      have hg := am_eN_gt (tk := tk) hp
      have hH : am_H n mC mA s e p stk := ⟨w, he, hp, by omega, hz⟩
      have ea := am_eN_2 (tk := tk) hp (by rw [hk]; decide)
      have b1 := am_eN_ge tk n (p + 1)
      have c1 : am_eN tk n (p + 1) ≤ n := am_eN_le hp
      have b2 := am_eN_ge tk n (am_eN tk n (p + 1))
      refine rMono _ _ _ _ _ _ ?_ (rPush _ p e stk rk rv s hH (Or.inr (Or.inr (Or.inl hk))) (ih (p + 1) e s ((p, e, 1, 0, 0) :: stk) rk rv (a + 4 * (am_eN tk n p - am_eN tk n (p + 1)) + 3) hp w he ⟨by decide, hz⟩ ?_ ?_ (am_K_bd (am_ev_G hA hn F (p + 1) e s w he) H (fun k v s1 w1 x1 v1 H1 => ?_))))
      · omega
      · rw [List.length_cons]; omega
      · omega
      · have hal := am_ext_al x1
        have hH1 : am_H n mC mA s1 e p stk := ⟨w1, am_okE_x x1 he, hp, hH.2.2.2⟩
        unfold am_c11 at H1
        by_cases k1 : mA ≤ am_al s1
        · rw [if_pos k1] at H1
          exact rMono _ _ _ _ _ _ (by omega) (rLetF a p e stk k v s1 hH1 hk v1 k1 (am_K_q H1))
        · rw [if_neg k1] at H1
          have k2 : am_al s1 < mA := Nat.lt_of_not_le k1
          have wn : am_WF n mC mA (am_nl (ta p) e k v s1) := am_WF_nl w1 k2 (am_okE_x x1 he) v1
          have on := am_okE_nf (ta p) e k v s1
          have xn := am_ext_nl (ta p) e k v s1
          have an := am_al_nl (ta p) e k v s1
          refine rMono _ _ _ _ _ _ ?_ (rLet _ p e stk k v s1 hH1 hk v1 k2 (ih (am_eN tk n (p + 1)) (nI (am_nf s1)) (am_nl (ta p) e k v s1) ((p, e, 2, 0, 0) :: stk) k v (a + 1) c1 wn on ⟨by decide, hz⟩ ?_ ?_ (am_K_pop (am_ev_G hA hn F (am_eN tk n (p + 1)) (nI (am_nf s1)) (am_nl (ta p) e k v s1) wn on) H1 (fun k' v' s2 w2 x2 v2 h2 => rPop a p e stk 2 0 0 k' v' s2 ⟨w2, am_okE_x x2 (am_okE_x xn (am_okE_x x1 he)), hp, hH.2.2.2⟩ v2 (Or.inr (Or.inr (Or.inr (Or.inl ⟨hk, rfl⟩)))) h2))))
          · omega
          · rw [List.length_cons]; omega
          · omega
    · intro hp hk H
      have hg := am_eN_gt (tk := tk) hp
      have hH : am_H n mC mA s e p stk := ⟨w, he, hp, by omega, hz⟩
      unfold am_e12 at H
      by_cases k1 : mA ≤ am_al s
      · rw [if_pos k1] at H
        exact rMono _ _ _ _ _ _ (by omega) (rLamF a p e stk rk rv s hH hk k1 (am_K_q H))
      · rw [if_neg k1] at H
        exact rMono _ _ _ _ _ _ (by omega) (rLam a p e stk rk rv s hH hk (Nat.lt_of_not_le k1) (am_K_o H))
    · intro hp hk H
      have hg := am_eN_gt (tk := tk) hp
      have hH : am_H n mC mA s e p stk := ⟨w, he, hp, by omega, hz⟩
      have ea := am_eN_2 (tk := tk) hp (by rw [hk]; decide)
      have b1 := am_eN_ge tk n (p + 1)
      have c1 : am_eN tk n (p + 1) ≤ n := am_eN_le hp
      have b2 := am_eN_ge tk n (am_eN tk n (p + 1))
      refine rMono _ _ _ _ _ _ ?_ (rPush _ p e stk rk rv s hH (Or.inr (Or.inr (Or.inr (Or.inl hk)))) (ih (p + 1) e s ((p, e, 1, 0, 0) :: stk) rk rv (a + 4 * (am_eN tk n p - am_eN tk n (p + 1)) + 3) hp w he ⟨by decide, hz⟩ ?_ ?_ (am_K_bd (am_ev_G hA hn F (p + 1) e s w he) H (fun k v s1 w1 x1 v1 H1 => ?_))))
      · omega
      · rw [List.length_cons]; omega
      · omega
      · have hal := am_ext_al x1
        have hH1 : am_H n mC mA s1 e p stk := ⟨w1, am_okE_x x1 he, hp, hH.2.2.2⟩
        refine rMono _ _ _ _ _ _ ?_ (rHold _ p e stk k v s1 hH1 v1 (Or.inl hk) (ih (am_eN tk n (p + 1)) e s1 ((p, e, 2, k, v) :: stk) k v (a + 1) c1 w1 (am_okE_x x1 he) ⟨by decide, hz⟩ ?_ ?_ (am_K_bd (am_ev_G hA hn F (am_eN tk n (p + 1)) e s1 w1 (am_okE_x x1 he)) H1 (fun k2 v2 s2 w2 x2 o2 H2 => ?_))))
        · omega
        · rw [List.length_cons]; omega
        · omega
        · have hal2 := am_ext_al x2
          have hH2 : am_H n mC mA s2 e p stk := ⟨w2, am_okE_x x2 (am_okE_x x1 he), hp, hH.2.2.2⟩
          unfold am_ap at H2
          by_cases k1 : k = 2
          · rw [if_pos k1] at H2
            by_cases q : mA ≤ am_al s2
            · rw [if_pos q] at H2
              exact rAppF a p e stk k v k2 v2 s2 hH2 hk (am_okV_x x2 v1) o2 (Or.inr q) (am_K_q H2)
            · rw [if_neg q] at H2
              have q' : am_al s2 < mA := Nat.lt_of_not_le q
              subst k1
              rcases am_okV_x x2 v1 with hv | ⟨_, c, hc, hv⟩
              · exact absurd hv (by decide)
              · have hcb : c < 2 ^ 31 := by have := am_WF_c w2 hA hc; omega
                obtain ⟨⟨lp, hlp, elp⟩, oc, _⟩ := w2.2.2.2 c hc
                have hlb : lp < 2 ^ 31 := by omega
                subst hv
                rw [nI_clamp hcb, elp, nI_clamp hlb] at H2
                have wn : am_WF n mC mA (am_nl (ta lp) (am_cEnv s2 c) k2 v2 s2) := am_WF_nl w2 q' oc o2
                have on := am_okE_nf (ta lp) (am_cEnv s2 c) k2 v2 s2
                have xn := am_ext_nl (ta lp) (am_cEnv s2 c) k2 v2 s2
                have an := am_al_nl (ta lp) (am_cEnv s2 c) k2 v2 s2
                have cb : am_eN tk n (lp + 1) ≤ n := am_eN_le hlp
                refine rApp (a + 1) p e stk k2 v2 s2 c lp hH2 hk o2 hc q' hlp elp (rMono _ _ _ _ _ _ ?_ (ih (lp + 1) (nI (am_nf s2)) (am_nl (ta lp) (am_cEnv s2 c) k2 v2 s2) ((p, e, 3, 2, nI c) :: stk) k2 v2 (a + 1) hlp wn on ⟨by decide, hz⟩ ?_ ?_ (am_K_pop (am_ev_G hA hn F (lp + 1) (nI (am_nf s2)) (am_nl (ta lp) (am_cEnv s2 c) k2 v2 s2) wn on) H2 (fun k' v' s3 w3 x3 o3 h3 => rPop a p e stk 3 2 (nI c) k' v' s3 ⟨w3, am_okE_x x3 (am_okE_x xn (am_okE_x x2 (am_okE_x x1 he))), hp, hH.2.2.2⟩ o3 (Or.inr (Or.inr (Or.inr (Or.inr (Or.inl ⟨hk, rfl⟩))))) h3))))
                · omega
                · rw [List.length_cons]; omega
                · omega
          · rw [if_neg k1] at H2
            exact rAppF a p e stk k v k2 v2 s2 hH2 hk (am_okV_x x2 v1) o2 (Or.inl k1) (am_K_q H2)
    · intro hp hk H
      have hg := am_eN_gt (tk := tk) hp
      have hH : am_H n mC mA s e p stk := ⟨w, he, hp, by omega, hz⟩
      have ea := am_eN_1 (tk := tk) hp (by rw [hk]; decide)
      have b1 := am_eN_ge tk n (p + 1)
      refine rMono _ _ _ _ _ _ ?_ (rPush _ p e stk rk rv s hH (Or.inr (Or.inr (Or.inr (Or.inr (Or.inl hk))))) (ih (p + 1) e s ((p, e, 1, 0, 0) :: stk) rk rv (a + 1) hp w he ⟨by decide, hz⟩ ?_ ?_ (am_K_bd (am_ev_G hA hn F (p + 1) e s w he) H (fun k v s1 w1 x1 v1 H1 => ?_))))
      · omega
      · rw [List.length_cons]; omega
      · omega
      · have hH1 : am_H n mC mA s1 e p stk := ⟨w1, am_okE_x x1 he, hp, hH.2.2.2⟩
        unfold am_c14 am_wr at H1
        rcases am_lk_ok (v := ta p) w1 hA 17 e (am_okE_x x1 he) with hf | ⟨f, hf, ef⟩
        · rw [hf, if_pos (by decide)] at H1
          exact rSetF a p e stk k v s1 hH1 hk v1 hf (am_K_q H1)
        · have hb : f < 2 ^ 31 := by have := am_WF_f w1 hA hf; omega
          rw [ef, if_neg (nI_pos hb), nI_clamp hb] at H1
          exact rSet a p e stk k v s1 f hH1 hk v1 hf ef (am_K_o H1)
    · intro hp hk H
      have hg := am_eN_gt (tk := tk) hp
      have hH : am_H n mC mA s e p stk := ⟨w, he, hp, by omega, hz⟩
      have ea := am_eN_2 (tk := tk) hp (by rw [hk]; decide)
      have b1 := am_eN_ge tk n (p + 1)
      have c1 : am_eN tk n (p + 1) ≤ n := am_eN_le hp
      have b2 := am_eN_ge tk n (am_eN tk n (p + 1))
      refine rMono _ _ _ _ _ _ ?_ (rPush _ p e stk rk rv s hH (Or.inr (Or.inr (Or.inr (Or.inr (Or.inr (Or.inl hk)))))) (ih (p + 1) e s ((p, e, 1, 0, 0) :: stk) rk rv (a + 4 * (am_eN tk n p - am_eN tk n (p + 1)) + 3) hp w he ⟨by decide, hz⟩ ?_ ?_ (am_K_bd (am_ev_G hA hn F (p + 1) e s w he) H (fun k v s1 w1 x1 v1 H1 => ?_))))
      · omega
      · rw [List.length_cons]; omega
      · omega
      · have hal := am_ext_al x1
        have hH1 : am_H n mC mA s1 e p stk := ⟨w1, am_okE_x x1 he, hp, hH.2.2.2⟩
        unfold am_c15 at H1
        refine rMono _ _ _ _ _ _ ?_ (rSeq _ p e stk k v s1 hH1 hk v1 (ih (am_eN tk n (p + 1)) e s1 ((p, e, 2, 0, 0) :: stk) k v (a + 1) c1 w1 (am_okE_x x1 he) ⟨by decide, hz⟩ ?_ ?_ (am_K_pop (am_ev_G hA hn F (am_eN tk n (p + 1)) e s1 w1 (am_okE_x x1 he)) H1 (fun k' v' s2 w2 x2 v2 h2 => rPop a p e stk 2 0 0 k' v' s2 ⟨w2, am_okE_x x2 (am_okE_x x1 he), hp, hH.2.2.2⟩ v2 (Or.inr (Or.inr (Or.inr (Or.inr (Or.inr ⟨hk, rfl⟩))))) h2))))
        · omega
        · rw [List.length_cons]; omega
        · omega
    · intro hp hk0 H
      have hk := am_binOf (hK p hp) hk0
      have hg := am_eN_gt (tk := tk) hp
      have hH : am_H n mC mA s e p stk := ⟨w, he, hp, by omega, hz⟩
      have ea := am_eN_2 hp (am_ar_bin hk)
      have b1 := am_eN_ge tk n (p + 1)
      have c1 : am_eN tk n (p + 1) ≤ n := am_eN_le hp
      have b2 := am_eN_ge tk n (am_eN tk n (p + 1))
      refine rMono _ _ _ _ _ _ ?_ (rPush _ p e stk rk rv s hH (Or.inr (Or.inr (Or.inr (Or.inr (Or.inr (Or.inr hk)))))) (ih (p + 1) e s ((p, e, 1, 0, 0) :: stk) rk rv (a + 4 * (am_eN tk n p - am_eN tk n (p + 1)) + 3) hp w he ⟨by decide, hz⟩ ?_ ?_ (am_K_bd (am_ev_G hA hn F (p + 1) e s w he) H (fun k v s1 w1 x1 v1 H1 => ?_))))
      · omega
      · rw [List.length_cons]; omega
      · omega
      · have hal := am_ext_al x1
        have hH1 : am_H n mC mA s1 e p stk := ⟨w1, am_okE_x x1 he, hp, hH.2.2.2⟩
        refine rMono _ _ _ _ _ _ ?_ (rHold _ p e stk k v s1 hH1 v1 (Or.inr hk) (ih (am_eN tk n (p + 1)) e s1 ((p, e, 2, k, v) :: stk) k v (a + 1) c1 w1 (am_okE_x x1 he) ⟨by decide, hz⟩ ?_ ?_ (am_K_bd (am_ev_G hA hn F (am_eN tk n (p + 1)) e s1 w1 (am_okE_x x1 he)) H1 (fun k2 v2 s2 w2 x2 o2 H2 => ?_))))
        · omega
        · rw [List.length_cons]; omega
        · omega
        · have hH2 : am_H n mC mA s2 e p stk := ⟨w2, am_okE_x x2 (am_okE_x x1 he), hp, hH.2.2.2⟩
          unfold am_ca at H2
          by_cases k1 : k = 1 ∧ k2 = 1
          · rw [if_pos k1] at H2
            obtain ⟨k3, k4⟩ := k1
            subst k3
            subst k4
            exact rCalc a p e stk v v2 s2 hH2 hk (am_K_o H2)
          · rw [if_neg k1] at H2
            exact rCalcF a p e stk k v k2 v2 s2 hH2 hk (am_okV_x x2 v1) o2 k1 (am_K_q H2)
end
section
/-! how the component keeps a store: locations and closures under the numbers of their allocations -/
def am_xe (s : am_S) (e : Int32) : Int32 := if e < 0 then -1 else nI (am_xl s e.toNatClampNeg)
def am_xk (k : Int32) : Int32 := if k = 2 then 1 else 0
def am_xv (s : am_S) (k v : Int32) : Int32 := if k = 2 then nI (am_xc s v.toNatClampNeg) else v
theorem am_xe_m (s : am_S) : am_xe s (-1) = -1 := if_pos (by decide)
theorem am_xe_f (s : am_S) {f : Nat} (h : f < 2 ^ 31) : am_xe s (nI f) = nI (am_xl s f) := by
  unfold am_xe
  rw [if_neg (nI_pos h), nI_clamp h]
theorem am_xk_1 : am_xk 1 = 0 := if_neg (by decide)
theorem am_xk_2 : am_xk 2 = 1 := if_pos rfl
theorem am_xv_1 (s : am_S) (v : Int32) : am_xv s 1 v = v := if_neg (by decide)
theorem am_xv_2 (s : am_S) {c : Nat} (h : c < 2 ^ 31) : am_xv s 2 (nI c) = nI (am_xc s c) := by
  unfold am_xv
  rw [if_pos rfl, nI_clamp h]
theorem am_xe_x {s t : am_S} {e : Int32} (h : am_ext s t) (g : am_okE s e) (hb : am_nf s ≤ 16) : am_xe t e = am_xe s e := by
  rcases g with g | ⟨f, hf, g⟩
  · rw [g, am_xe_m, am_xe_m]
  · rw [g, am_xe_f t (by omega), am_xe_f s (by omega), h.2.2.2.1 f hf]
theorem am_xv_x {s t : am_S} {k v : Int32} (h : am_ext s t) (g : am_okV s k v) (hb : am_nc s ≤ 16) : am_xv t k v = am_xv s k v := by
  rcases g with g | ⟨g, c, hc, gv⟩
  · rw [g, am_xv_1, am_xv_1]
  · rw [g, gv, am_xv_2 t (by omega), am_xv_2 s (by omega), h.2.2.2.2 c hc]
theorem am_nf16 {n mC mA : Nat} {s : am_S} (h : am_WF n mC mA s) (hA : mA ≤ 16) : am_nf s ≤ 16 ∧ am_nc s ≤ 16 ∧ am_al s ≤ 16 := by
  have h1 := h.2.1
  unfold am_al at h1 ⊢
  omega
def am_sx (s : am_S) (lV lO lC lW cT cE : Nat → Int32) : Prop :=
  (∀ f, f < am_nf s → lV (am_xl s f) = am_fVar s f ∧ lO (am_xl s f) = am_xe s (am_fPar s f) ∧ lC (am_xl s f) = am_xk (am_fK s f) ∧ lW (am_xl s f) = am_xv s (am_fK s f) (am_fV s f)) ∧
  (∀ c, c < am_nc s → cT (am_xc s c) = am_cPos s c ∧ cE (am_xc s c) = am_xe s (am_cEnv s c))
theorem am_wL_par {n mC mA : Nat} {s : am_S} (h : am_WF n mC mA s) {f : Nat} (hf : f < am_nf s) : am_okE s (am_fPar s f) := by
  rcases (h.2.2.1 f hf).1 with g | ⟨g, hg, eg⟩
  · exact Or.inl g
  · exact Or.inr ⟨g, by omega, eg⟩
theorem am_sx_tick {s : am_S} {lV lO lC lW cT cE : Nat → Int32} (h : am_sx s lV lO lC lW cT cE) : am_sx (am_tick s) lV lO lC lW cT cE := h
theorem am_sx_nl {n mC mA : Nat} {s : am_S} {lV lO lC lW cT cE : Nat → Int32} {x e k v : Int32} (w : am_WF n mC mA s) (hA : mA ≤ 16) (he : am_okE s e) (hv : am_okV s k v) (h : am_sx s lV lO lC lW cT cE) : am_sx (am_nl x e k v s) (upd lV (am_al s) x) (upd lO (am_al s) (am_xe s e)) (upd lC (am_al s) (am_xk k)) (upd lW (am_al s) (am_xv s k v)) cT cE := by
  obtain ⟨b1, b2, b3⟩ := am_nf16 w hA
  have hx := am_ext_nl x e k v s
  refine ⟨fun f hf => ?_, fun c hc => ?_⟩
  · have hf' : f < am_nf s + 1 := hf
    by_cases q : f = am_nf s
    · subst q
      have e1 : am_xl (am_nl x e k v s) (am_nf s) = am_al s := am_un_s
      have e2 : am_fVar (am_nl x e k v s) (am_nf s) = x := am_up_s
      have e3 : am_fPar (am_nl x e k v s) (am_nf s) = e := am_up_s
      have e4 : am_fK (am_nl x e k v s) (am_nf s) = k := am_up_s
      have e5 : am_fV (am_nl x e k v s) (am_nf s) = v := am_up_s
      rw [e1, e2, e3, e4, e5, am_up_s, am_up_s, am_up_s, am_up_s, am_xe_x hx he b1, am_xv_x hx hv b2]
      exact ⟨rfl, rfl, rfl, rfl⟩
    · have hf2 : f < am_nf s := by omega
      have hl := (w.2.2.1 f hf2).2.2.1
      have hne : am_xl s f ≠ am_al s := Nat.ne_of_lt hl
      have e1 : am_xl (am_nl x e k v s) f = am_xl s f := am_un_n q
      have e2 : am_fVar (am_nl x e k v s) f = am_fVar s f := am_up_n q
      have e3 : am_fPar (am_nl x e k v s) f = am_fPar s f := am_up_n q
      have e4 : am_fK (am_nl x e k v s) f = am_fK s f := am_up_n q
      have e5 : am_fV (am_nl x e k v s) f = am_fV s f := am_up_n q
      rw [e1, e2, e3, e4, e5, am_up_n hne, am_up_n hne, am_up_n hne, am_up_n hne, am_xe_x hx (am_wL_par w hf2) b1, am_xv_x hx (w.2.2.1 f hf2).2.1 b2]
      exact h.1 f hf2
  · have hc' : c < am_nc s := hc
    have e1 : am_xc (am_nl x e k v s) c = am_xc s c := rfl
    have e2 : am_cPos (am_nl x e k v s) c = am_cPos s c := rfl
    have e3 : am_cEnv (am_nl x e k v s) c = am_cEnv s c := rfl
    rw [e1, e2, e3, am_xe_x hx (w.2.2.2 c hc').2.1 b1]
    exact h.2 c hc'
theorem am_sx_nk {n mC mA : Nat} {s : am_S} {lV lO lC lW cT cE : Nat → Int32} {p : Nat} {e : Int32} (w : am_WF n mC mA s) (hA : mA ≤ 16) (he : am_okE s e) (h : am_sx s lV lO lC lW cT cE) : am_sx (am_nk p e s) lV lO lC lW (upd cT (am_al s) (nI p)) (upd cE (am_al s) (am_xe s e)) := by
  obtain ⟨b1, b2, b3⟩ := am_nf16 w hA
  have hx := am_ext_nk p e s
  refine ⟨fun f hf => ?_, fun c hc => ?_⟩
  · have hf2 : f < am_nf s := hf
    have e1 : am_xl (am_nk p e s) f = am_xl s f := rfl
    have e2 : am_fVar (am_nk p e s) f = am_fVar s f := rfl
    have e3 : am_fPar (am_nk p e s) f = am_fPar s f := rfl
    have e4 : am_fK (am_nk p e s) f = am_fK s f := rfl
    have e5 : am_fV (am_nk p e s) f = am_fV s f := rfl
    rw [e1, e2, e3, e4, e5, am_xe_x hx (am_wL_par w hf2) b1, am_xv_x hx (w.2.2.1 f hf2).2.1 b2]
    exact h.1 f hf2
  · have hc' : c < am_nc s + 1 := hc
    by_cases q : c = am_nc s
    · subst q
      have e1 : am_xc (am_nk p e s) (am_nc s) = am_al s := am_un_s
      have e2 : am_cPos (am_nk p e s) (am_nc s) = nI p := am_up_s
      have e3 : am_cEnv (am_nk p e s) (am_nc s) = e := am_up_s
      rw [e1, e2, e3, am_up_s, am_up_s, am_xe_x hx he b1]
      exact ⟨rfl, rfl⟩
    · have hc2 : c < am_nc s := by omega
      have hne : am_xc s c ≠ am_al s := Nat.ne_of_lt (w.2.2.2 c hc2).2.2
      have e1 : am_xc (am_nk p e s) c = am_xc s c := am_un_n q
      have e2 : am_cPos (am_nk p e s) c = am_cPos s c := am_up_n q
      have e3 : am_cEnv (am_nk p e s) c = am_cEnv s c := am_up_n q
      rw [e1, e2, e3, am_up_n hne, am_up_n hne, am_xe_x hx (w.2.2.2 c hc2).2.1 b1]
      exact h.2 c hc2
theorem am_xl_inj {n mC mA : Nat} {s : am_S} (w : am_WF n mC mA s) {f g : Nat} (hf : f < am_nf s) (hg : g < am_nf s) (h : f ≠ g) : am_xl s f ≠ am_xl s g := by
  rcases Nat.lt_or_gt_of_ne h with q | q
  · exact Nat.ne_of_lt ((w.2.2.1 g hg).2.2.2 f q)
  · exact Nat.ne_of_gt ((w.2.2.1 f hf).2.2.2 g q)
theorem am_sx_sl {n mC mA : Nat} {s : am_S} {lV lO lC lW cT cE : Nat → Int32} {f0 : Nat} {k v : Int32} (w : am_WF n mC mA s) (hf0 : f0 < am_nf s) (h : am_sx s lV lO lC lW cT cE) : am_sx (am_sl f0 k v s) lV lO (upd lC (am_xl s f0) (am_xk k)) (upd lW (am_xl s f0) (am_xv s k v)) cT cE := by
  refine ⟨fun f hf => ?_, fun c hc => h.2 c hc⟩
  have hf2 : f < am_nf s := hf
  have e1 : am_xl (am_sl f0 k v s) f = am_xl s f := rfl
  have e2 : am_fVar (am_sl f0 k v s) f = am_fVar s f := rfl
  have e3 : am_xe (am_sl f0 k v s) (am_fPar (am_sl f0 k v s) f) = am_xe s (am_fPar s f) := rfl
  have e6 : ∀ x y, am_xv (am_sl f0 k v s) x y = am_xv s x y := fun _ _ => rfl
  rw [e1, e2, e3, e6]
  by_cases q : f = f0
  · subst q
    have e4 : am_fK (am_sl f k v s) f = k := am_up_s
    have e5 : am_fV (am_sl f k v s) f = v := am_up_s
    rw [e4, e5, am_up_s, am_up_s]
    exact ⟨(h.1 f hf2).1, (h.1 f hf2).2.1, rfl, rfl⟩
  · have e4 : am_fK (am_sl f0 k v s) f = am_fK s f := am_up_n q
    have e5 : am_fV (am_sl f0 k v s) f = am_fV s f := am_up_n q
    have hne := am_xl_inj w hf2 hf0 q
    rw [e4, e5, am_up_n hne, am_up_n hne]
    exact h.1 f hf2
/-! the component's frames: those that wait for a value -/
def am_er (tk : Nat → Int32) : List am_F → List am_F
  | [] => []
  | (p, e, st, k, v) :: r => if (tk p = 7 ∧ st = 2) ∨ (tk p = 8 ∧ st = 1) ∨ (tk p = 10 ∧ st = 2) ∨ (tk p = 11 ∧ st = 2) ∨ (tk p = 13 ∧ st = 3) ∨ (tk p = 15 ∧ st = 2) then am_er tk r else (p, e, st, k, v) :: am_er tk r
theorem am_er_t {tk : Nat → Int32} {p : Nat} {e st k v : Int32} {r : List am_F} (h : am_tl (tk p) st) : am_er tk ((p, e, st, k, v) :: r) = am_er tk r := if_pos h
theorem am_er_f {tk : Nat → Int32} {p : Nat} {e st k v : Int32} {r : List am_F} (h : ¬ am_tl (tk p) st) : am_er tk ((p, e, st, k, v) :: r) = (p, e, st, k, v) :: am_er tk r := if_neg h
theorem am_er_le (tk : Nat → Int32) : ∀ r : List am_F, (am_er tk r).length ≤ r.length := by
  intro r
  induction r with
  | nil => exact Nat.le_refl _
  | cons f r ih =>
    obtain ⟨p, e, st, k, v⟩ := f
    by_cases h : am_tl (tk p) st
    · rw [am_er_t h, List.length_cons]; omega
    · rw [am_er_f h, List.length_cons, List.length_cons]; omega
def am_fx (s : am_S) (fT fE fH fC fV : Nat → Int32) : List am_F → Prop
  | [] => True
  | (p, e, st, k, v) :: r => fT r.length = nI p ∧ am_okE s e ∧ fE r.length = am_xe s e ∧ ((st = 1 ∧ fH r.length = 0) ∨ (st = 2 ∧ fH r.length = 1 ∧ am_okV s k v ∧ fC r.length = am_xk k ∧ fV r.length = am_xv s k v)) ∧ am_fx s fT fE fH fC fV r
theorem am_fx_x {s t : am_S} {fT fE fH fC fV : Nat → Int32} (hx : am_ext s t) (b1 : am_nf s ≤ 16) (b2 : am_nc s ≤ 16) : ∀ r : List am_F, am_fx s fT fE fH fC fV r → am_fx t fT fE fH fC fV r := by
  intro r
  induction r with
  | nil => intro _; exact True.intro
  | cons f r ih =>
    obtain ⟨p, e, st, k, v⟩ := f
    intro h
    obtain ⟨h1, h2, h3, h4, h5⟩ := h
    refine ⟨h1, am_okE_x hx h2, by rw [am_xe_x hx h2 b1]; exact h3, ?_, ih h5⟩
    rcases h4 with h4 | ⟨g1, g2, g3, g4, g5⟩
    · exact Or.inl h4
    · exact Or.inr ⟨g1, g2, am_okV_x hx g3, g4, by rw [am_xv_x hx g3 b2]; exact g5⟩
theorem am_fx_eq {s : am_S} {fT fE fH fC fV gT gE gH gC gV : Nat → Int32} : ∀ (r : List am_F), (∀ i, i < r.length → gT i = fT i ∧ gE i = fE i ∧ gH i = fH i ∧ gC i = fC i ∧ gV i = fV i) → am_fx s fT fE fH fC fV r → am_fx s gT gE gH gC gV r := by
  intro r
  induction r with
  | nil => intro _ _; exact True.intro
  | cons f r ih =>
    obtain ⟨p, e, st, k, v⟩ := f
    intro hi h
    obtain ⟨h1, h2, h3, h4, h5⟩ := h
    obtain ⟨i1, i2, i3, i4, i5⟩ := hi r.length (by rw [List.length_cons]; omega)
    refine ⟨by rw [i1]; exact h1, h2, by rw [i2]; exact h3, by rw [i3, i4, i5]; exact h4, ih (fun i hl => hi i (by rw [List.length_cons]; omega)) h5⟩
end
section
/-! how the reference keeps a store and its frames -/
def am_sy (s : am_S) (gVar gPar gK gV gPos gEnv : Nat → Int32) : Prop :=
  (∀ f, f < am_nf s → gVar f = am_fVar s f ∧ gPar f = am_fPar s f ∧ gK f = am_fK s f ∧ gV f = am_fV s f) ∧
  (∀ c, c < am_nc s → gPos c = am_cPos s c ∧ gEnv c = am_cEnv s c)
theorem am_sy_nl {s : am_S} {gVar gPar gK gV gPos gEnv : Nat → Int32} {x e k v : Int32} (h : am_sy s gVar gPar gK gV gPos gEnv) : am_sy (am_nl x e k v s) (upd gVar (am_nf s) x) (upd gPar (am_nf s) e) (upd gK (am_nf s) k) (upd gV (am_nf s) v) gPos gEnv := by
  refine ⟨fun f hf => ?_, fun c hc => h.2 c hc⟩
  have hf' : f < am_nf s + 1 := hf
  show upd gVar (am_nf s) x f = upd (am_fVar s) (am_nf s) x f ∧ upd gPar (am_nf s) e f = upd (am_fPar s) (am_nf s) e f ∧ upd gK (am_nf s) k f = upd (am_fK s) (am_nf s) k f ∧ upd gV (am_nf s) v f = upd (am_fV s) (am_nf s) v f
  by_cases q : f = am_nf s
  · subst q
    rw [am_up_s, am_up_s, am_up_s, am_up_s, am_up_s, am_up_s, am_up_s, am_up_s]
    exact ⟨rfl, rfl, rfl, rfl⟩
  · rw [am_up_n q, am_up_n q, am_up_n q, am_up_n q, am_up_n q, am_up_n q, am_up_n q, am_up_n q]
    exact h.1 f (by omega)
theorem am_sy_nk {s : am_S} {gVar gPar gK gV gPos gEnv : Nat → Int32} {p : Nat} {e : Int32} (h : am_sy s gVar gPar gK gV gPos gEnv) : am_sy (am_nk p e s) gVar gPar gK gV (upd gPos (am_nc s) (nI p)) (upd gEnv (am_nc s) e) := by
  refine ⟨fun f hf => h.1 f hf, fun c hc => ?_⟩
  have hc' : c < am_nc s + 1 := hc
  show upd gPos (am_nc s) (nI p) c = upd (am_cPos s) (am_nc s) (nI p) c ∧ upd gEnv (am_nc s) e c = upd (am_cEnv s) (am_nc s) e c
  by_cases q : c = am_nc s
  · subst q
    rw [am_up_s, am_up_s, am_up_s, am_up_s]
    exact ⟨rfl, rfl⟩
  · rw [am_up_n q, am_up_n q, am_up_n q, am_up_n q]
    exact h.2 c (by omega)
theorem am_sy_sl {s : am_S} {gVar gPar gK gV gPos gEnv : Nat → Int32} {f0 : Nat} {k v : Int32} (h : am_sy s gVar gPar gK gV gPos gEnv) : am_sy (am_sl f0 k v s) gVar gPar (upd gK f0 k) (upd gV f0 v) gPos gEnv := by
  refine ⟨fun f hf => ?_, fun c hc => h.2 c hc⟩
  obtain ⟨h1, h2, h3, h4⟩ := h.1 f hf
  show gVar f = am_fVar s f ∧ gPar f = am_fPar s f ∧ upd gK f0 k f = upd (am_fK s) f0 k f ∧ upd gV f0 v f = upd (am_fV s) f0 v f
  by_cases q : f = f0
  · subst q
    rw [am_up_s, am_up_s, am_up_s, am_up_s]
    exact ⟨h1, h2, rfl, rfl⟩
  · rw [am_up_n q, am_up_n q, am_up_n q, am_up_n q]
    exact ⟨h1, h2, h3, h4⟩
def am_fy (gP gE gS gK gV : Nat → Int32) : List am_F → Prop
  | [] => True
  | (p, e, st, k, v) :: r => gP r.length = nI p ∧ gE r.length = e ∧ gS r.length = st ∧ gK r.length = k ∧ gV r.length = v ∧ am_fy gP gE gS gK gV r
theorem am_fy_eq {gP gE gS gK gV hP hE hS hK hV : Nat → Int32} : ∀ (r : List am_F), (∀ i, i < r.length → hP i = gP i ∧ hE i = gE i ∧ hS i = gS i ∧ hK i = gK i ∧ hV i = gV i) → am_fy gP gE gS gK gV r → am_fy hP hE hS hK hV r := by
  intro r
  induction r with
  | nil => intro _ _; exact True.intro
  | cons f r ih =>
    obtain ⟨p, e, st, k, v⟩ := f
    intro hi h
    obtain ⟨h1, h2, h3, h4, h5, h6⟩ := h
    obtain ⟨i1, i2, i3, i4, i5⟩ := hi r.length (by rw [List.length_cons]; omega)
    exact ⟨by rw [i1]; exact h1, by rw [i2]; exact h2, by rw [i3]; exact h3, by rw [i4]; exact h4, by rw [i5]; exact h5, ih (fun i hl => hi i (by rw [List.length_cons]; omega)) h6⟩
/-- the state of the top frame changes -/
theorem am_fy_st {gP gE gS gK gV : Nat → Int32} {p : Nat} {e st k v st' : Int32} {r : List am_F} (h : am_fy gP gE gS gK gV ((p, e, st, k, v) :: r)) : am_fy gP gE (upd gS r.length st') gK gV ((p, e, st', k, v) :: r) := by
  obtain ⟨h1, h2, _, h4, h5, h6⟩ := h
  exact ⟨h1, h2, am_up_s, h4, h5, am_fy_eq r (fun i hi => ⟨rfl, rfl, am_up_n (Nat.ne_of_lt hi), rfl, rfl⟩) h6⟩
/-- .. and its first value -/
theorem am_fy_kv {gP gE gS gK gV : Nat → Int32} {p : Nat} {e st k v st' k' v' : Int32} {r : List am_F} (h : am_fy gP gE gS gK gV ((p, e, st, k, v) :: r)) : am_fy gP gE (upd gS r.length st') (upd gK r.length k') (upd gV r.length v') ((p, e, st', k', v') :: r) := by
  obtain ⟨h1, h2, _, _, _, h6⟩ := h
  exact ⟨h1, h2, am_up_s, am_up_s, am_up_s, am_fy_eq r (fun i hi => ⟨rfl, rfl, am_up_n (Nat.ne_of_lt hi), am_up_n (Nat.ne_of_lt hi), am_up_n (Nat.ne_of_lt hi)⟩) h6⟩
/-- a new frame -/
theorem am_fy_push {gP gE gS gK gV : Nat → Int32} {p : Nat} {e : Int32} {r : List am_F} (h : am_fy gP gE gS gK gV r) : am_fy (upd gP r.length (nI p)) (upd gE r.length e) (upd gS r.length 0) (upd gK r.length 0) (upd gV r.length 0) ((p, e, 0, 0, 0) :: r) :=
  ⟨am_up_s, am_up_s, am_up_s, am_up_s, am_up_s, am_fy_eq r (fun i hi => ⟨am_up_n (Nat.ne_of_lt hi), am_up_n (Nat.ne_of_lt hi), am_up_n (Nat.ne_of_lt hi), am_up_n (Nat.ne_of_lt hi), am_up_n (Nat.ne_of_lt hi)⟩) h⟩
/-! the vector in use: as long as the greater of its first length and the choices made -/
def am_mx (L0 u : Nat) : Nat := L0 + (u - L0)
def am_bI : Bool → Int32
  | true => 1
  | false => 0
theorem am_bI_n (x : Bool) : am_bI x = nI (am_b1 x) := by cases x <;> decide
end
section
/-! the reference's small methods -/
section
variable {f_maxC f_maxA f_n f_ph f_sols f_fails f_lastKind f_lastVal f_lastLen f_lastAlloc f_curLen f_over f_used f_allocs f_nf f_nc f_sp f_rk f_rv : Int32} {a_tk a_ta a_lastBits a_cur a_fVar a_fPar a_fK a_fV a_cPos a_cEnv a_sPos a_sEnv a_sSt a_sK a_sV : Nat → Int32}
theorem am_sub {a b : Nat} (h : b ≤ a) : nI a - nI b = nI (a - b) := by
  obtain ⟨c, rfl⟩ : ∃ c, a = c + b := ⟨a - b, by omega⟩
  rw [← nI_add, Int32.add_sub_cancel, Nat.add_sub_cancel]
theorem am_m1 (n : Nat) : nI (n + 1) + (-1) = nI n := by
  rw [← nI_1, Int32.add_assoc, show (1 : Int32) + (-1) = 0 from rfl, Int32.add_zero]
theorem am_yar {post : Int32 → Prop} {k : Int32} (h : post (nI (am_ar k))) : wpY_arity post (f_maxC, f_maxA, f_n, f_ph, f_sols, f_fails, f_lastKind, f_lastVal, f_lastLen, f_lastAlloc, f_curLen, f_over, f_used, f_allocs, f_nf, f_nc, f_sp, f_rk, f_rv, a_tk, a_ta, a_lastBits, a_cur, a_fVar, a_fPar, a_fK, a_fV, a_cPos, a_cEnv, a_sPos, a_sEnv, a_sSt, a_sK, a_sV) k := by
  unfold am_ar at h
  by_cases k0 : k = 0
  · rw [if_pos k0] at h
    exact br_t k0 h
  rw [if_neg k0] at h
  by_cases k1 : k = 1
  · rw [if_pos k1] at h
    exact br_f k0 (br_t k1 h)
  rw [if_neg k1] at h
  by_cases k9 : k = 9
  · rw [if_pos k9] at h
    exact br_f k0 (br_f k1 (br_t k9 h))
  rw [if_neg k9] at h
  by_cases k12 : k = 12
  · rw [if_pos k12] at h
    exact br_f k0 (br_f k1 (br_f k9 (br_t k12 h)))
  rw [if_neg k12] at h
  by_cases k14 : k = 14
  · rw [if_pos k14] at h
    exact br_f k0 (br_f k1 (br_f k9 (br_f k12 (br_t k14 h))))
  rw [if_neg k14] at h
  by_cases k7 : k = 7
  · rw [if_pos k7] at h
    exact br_f k0 (br_f k1 (br_f k9 (br_f k12 (br_f k14 (br_t k7 h)))))
  rw [if_neg k7] at h
  exact br_f k0 (br_f k1 (br_f k9 (br_f k12 (br_f k14 (br_f k7 h)))))
theorem am_yend0 {post : Int32 → Prop} {n : Nat} {tk : Nat → Int32} (hn : n ≤ 32) : ∀ d q i : Nat, i + d = n → q + 3 * d < 1000 → post (nI (am_sE tk d q i)) → wY_endOf_4 post f_maxC f_maxA (nI n) f_ph f_sols f_fails f_lastKind f_lastVal f_lastLen f_lastAlloc f_curLen f_over f_used f_allocs f_nf f_nc f_sp f_rk f_rv tk a_ta a_lastBits a_cur a_fVar a_fPar a_fK a_fV a_cPos a_cEnv a_sPos a_sEnv a_sSt a_sK a_sV (d + 1) (nI q) (nI i) := by
  intro d
  induction d with
  | zero =>
    intro q i hi hq h
    rw [am_sE_0] at h
    rw [wY_endOf_4]
    exact br_f (nI_pos (by omega)) (br_t (nI_le (by omega) (by omega)) h)
  | succ d ih =>
    intro q i hi hq h
    rw [wY_endOf_4]
    refine br_f (nI_pos (by omega)) (br_f (nI_ge (by omega) (by omega)) ?_)
    cases q with
    | zero =>
      rw [am_sE_z] at h
      exact br_t (Int32.le_refl _) h
    | succ q =>
      rw [am_sE_s] at h
      have ha := am_ar_le (tk i)
      have e1 : nI (q + 1) - 1 + nI (am_ar (tk (nI i).toNatClampNeg)) = nI (q + am_ar (tk i)) := by rw [nI_pred, nI_clamp (by omega), nI_add]
      exact br_f (nI_nle (by omega) (by omega)) ⟨vp_in_nI (by omega) (by omega), am_yar (nm_r e1 (nm_r (nI_1 i) (ih (q + am_ar (tk i)) (i + 1) (by omega) (by omega) h)))⟩
theorem am_yend {post : Int32 → Prop} {n : Nat} {tk : Nat → Int32} {p : Nat} {x : Int32} (hn : n ≤ 32) (hp : p ≤ n) (ex : x = nI p) (h : post (nI (am_eN tk n p))) : wpY_endOf post (f_maxC, f_maxA, nI n, f_ph, f_sols, f_fails, f_lastKind, f_lastVal, f_lastLen, f_lastAlloc, f_curLen, f_over, f_used, f_allocs, f_nf, f_nc, f_sp, f_rk, f_rv, tk, a_ta, a_lastBits, a_cur, a_fVar, a_fPar, a_fK, a_fV, a_cPos, a_cEnv, a_sPos, a_sEnv, a_sSt, a_sK, a_sV) x := by
  rw [ex]
  exact ⟨n - p + 1, am_yend0 hn (n - p) 1 p (by omega) (by omega) h⟩
theorem am_ylk0 {post : Int32 → Prop} {n mC mA : Nat} {s : am_S} {x : Int32} (w : am_WF n mC mA s) (hA : mA ≤ 16) (hs : am_sy s a_fVar a_fPar a_fK a_fV a_cPos a_cEnv) : ∀ (k j : Nat) (e : Int32), j + k = 17 → am_okE s e → post (am_lk s x k e) → wY_lookup_5 post x f_maxC f_maxA f_n f_ph f_sols f_fails f_lastKind f_lastVal f_lastLen f_lastAlloc f_curLen f_over f_used f_allocs f_nf f_nc f_sp f_rk f_rv a_tk a_ta a_lastBits a_cur a_fVar a_fPar a_fK a_fV a_cPos a_cEnv a_sPos a_sEnv a_sSt a_sK a_sV (k + 1) e (nI j) := by
  intro k
  induction k with
  | zero =>
    intro j e hj he h
    rw [wY_lookup_5]
    have h17 : (17 : Int32) ≤ nI j := by
      have : j = 17 := by omega
      rw [this]
      decide
    exact br_c (fun _ => h) (fun _ => br_c (fun _ => h) (fun _ => br_t h17 h))
  | succ k ih =>
    intro j e hj he h
    rw [wY_lookup_5]
    rw [am_lk_s] at h
    rcases he with he | ⟨f, hf, he⟩
    · subst he
      rw [if_pos (by decide)] at h
      exact br_t (by decide) h
    · subst he
      have hb := am_WF_f w hA hf
      have hc : (nI f).toNatClampNeg = f := nI_clamp (by omega)
      rw [if_neg (nI_pos (by omega)), hc] at h
      obtain ⟨s1, s2, _, _⟩ := hs.1 f hf
      have j17 : ¬ (17 : Int32) ≤ nI j := nI_ge (b := 17) (by omega) (by decide)
      have f16 : ¬ (16 : Int32) ≤ nI f := nI_ge (b := 16) hb (by decide)
      have vf : vp_in (nI f) 16 := vp_in_nI hb (by decide)
      refine br_f (nI_pos (by omega)) (br_f f16 (br_f j17 ⟨vf, ?_⟩))
      by_cases q : am_fVar s f = x
      · rw [if_pos q] at h
        exact br_t (by rw [hc, s1]; exact q) h
      · rw [if_neg q] at h
        have e2 : a_fPar (nI f).toNatClampNeg = am_fPar s f := by rw [hc, s2]
        exact br_f (by rw [hc, s1]; exact q) ⟨vf, nm_r e2 (nm_r (nI_1 j) (ih (j + 1) _ (by omega) (am_wL_par w hf) h))⟩
theorem am_ylk {post : Int32 → Prop} {n mC mA : Nat} {s : am_S} {x e r : Int32} (w : am_WF n mC mA s) (hA : mA ≤ 16) (hs : am_sy s a_fVar a_fPar a_fK a_fV a_cPos a_cEnv) (he : am_okE s e) (er : am_lk s x 17 e = r) (h : post r) : wpY_lookup post (f_maxC, f_maxA, f_n, f_ph, f_sols, f_fails, f_lastKind, f_lastVal, f_lastLen, f_lastAlloc, f_curLen, f_over, f_used, f_allocs, f_nf, f_nc, f_sp, f_rk, f_rv, a_tk, a_ta, a_lastBits, a_cur, a_fVar, a_fPar, a_fK, a_fV, a_cPos, a_cEnv, a_sPos, a_sEnv, a_sSt, a_sK, a_sV) e x := by
  rw [← er] at h
  exact ⟨18, am_ylk0 w hA hs 17 0 e (by omega) he h⟩
theorem am_ypush {post : Int32 → SY → Prop} {t : Nat} {x x' y : Int32} (ht : t < 1024) (ex : x = x') (h : post 1 (f_maxC, f_maxA, f_n, f_ph, f_sols, f_fails, f_lastKind, f_lastVal, f_lastLen, f_lastAlloc, f_curLen, f_over, f_used, f_allocs, f_nf, f_nc, nI (t + 1), f_rk, f_rv, a_tk, a_ta, a_lastBits, a_cur, a_fVar, a_fPar, a_fK, a_fV, a_cPos, a_cEnv, upd a_sPos t x', upd a_sEnv t y, upd a_sSt t 0, upd a_sK t 0, upd a_sV t 0)) : wpY_push post (f_maxC, f_maxA, f_n, f_ph, f_sols, f_fails, f_lastKind, f_lastVal, f_lastLen, f_lastAlloc, f_curLen, f_over, f_used, f_allocs, f_nf, f_nc, nI t, f_rk, f_rv, a_tk, a_ta, a_lastBits, a_cur, a_fVar, a_fPar, a_fK, a_fV, a_cPos, a_cEnv, a_sPos, a_sEnv, a_sSt, a_sK, a_sV) x y := by
  rw [ex]
  have hc : (nI t).toNatClampNeg = t := nI_clamp (by omega)
  have v : vp_in (nI t) 1024 := vp_in_nI ht (by decide)
  have l : nI t < 1024 := nI_lt (b := 1024) ht (by decide)
  exact br_f (nI_pos (by omega)) (br_t l ⟨v, nm_r (by rw [hc]) ⟨v, nm_r (by rw [hc]) ⟨v, nm_r (by rw [hc]) ⟨v, nm_r (by rw [hc]) ⟨v, nm_r (by rw [hc]) (nm_r (nI_1 t) h)⟩⟩⟩⟩⟩)
theorem am_yalT {post : Int32 → SY → Prop} {a a' mA : Nat} (ea : a' = a + 1) (h1 : a < mA) (h2 : mA ≤ 16) (h : post 1 (f_maxC, nI mA, f_n, f_ph, f_sols, f_fails, f_lastKind, f_lastVal, f_lastLen, f_lastAlloc, f_curLen, f_over, f_used, nI a', f_nf, f_nc, f_sp, f_rk, f_rv, a_tk, a_ta, a_lastBits, a_cur, a_fVar, a_fPar, a_fK, a_fV, a_cPos, a_cEnv, a_sPos, a_sEnv, a_sSt, a_sK, a_sV)) : wpY_alloc post (f_maxC, nI mA, f_n, f_ph, f_sols, f_fails, f_lastKind, f_lastVal, f_lastLen, f_lastAlloc, f_curLen, f_over, f_used, nI a, f_nf, f_nc, f_sp, f_rk, f_rv, a_tk, a_ta, a_lastBits, a_cur, a_fVar, a_fPar, a_fK, a_fV, a_cPos, a_cEnv, a_sPos, a_sEnv, a_sSt, a_sK, a_sV) := by
  subst ea
  exact br_t (nI_lt h1 (by omega)) (nm_r (nI_1 a) h)
theorem am_yalF {post : Int32 → SY → Prop} {a mA : Nat} (h1 : mA ≤ a) (h2 : a ≤ 16) (h : post 0 (f_maxC, nI mA, f_n, f_ph, f_sols, f_fails, f_lastKind, f_lastVal, f_lastLen, f_lastAlloc, f_curLen, f_over, f_used, nI a, f_nf, f_nc, f_sp, f_rk, f_rv, a_tk, a_ta, a_lastBits, a_cur, a_fVar, a_fPar, a_fK, a_fV, a_cPos, a_cEnv, a_sPos, a_sEnv, a_sSt, a_sK, a_sV)) : wpY_alloc post (f_maxC, nI mA, f_n, f_ph, f_sols, f_fails, f_lastKind, f_lastVal, f_lastLen, f_lastAlloc, f_curLen, f_over, f_used, nI a, f_nf, f_nc, f_sp, f_rk, f_rv, a_tk, a_ta, a_lastBits, a_cur, a_fVar, a_fPar, a_fK, a_fV, a_cPos, a_cEnv, a_sPos, a_sEnv, a_sSt, a_sK, a_sV) := br_f (nI_nlt h1 (by omega)) h
/-- a step that goes on -/
theorem am_yO {post : Int32 → SY → Prop} {J : Int32 → Int32 → Int32 → Int32 → Int32 → Int32 → Int32 → Int32 → Int32 → Int32 → Int32 → Int32 → Int32 → Int32 → Int32 → Int32 → Int32 → Int32 → Int32 → Int32 → Int32 → (Nat → Int32) → (Nat → Int32) → (Nat → Int32) → (Nat → Int32) → (Nat → Int32) → (Nat → Int32) → (Nat → Int32) → (Nat → Int32) → (Nat → Int32) → (Nat → Int32) → (Nat → Int32) → (Nat → Int32) → (Nat → Int32) → (Nat → Int32) → (Nat → Int32) → Prop} {x1 x2 : Int32} (h : J x1 x2 f_maxC f_maxA f_n f_ph f_sols f_fails f_lastKind f_lastVal f_lastLen f_lastAlloc f_curLen f_over f_used f_allocs f_nf f_nc f_sp f_rk f_rv a_tk a_ta a_lastBits a_cur a_fVar a_fPar a_fK a_fV a_cPos a_cEnv a_sPos a_sEnv a_sSt a_sK a_sV) : wY_runPath_1552 post J x1 x2 1 f_maxC f_maxA f_n f_ph f_sols f_fails f_lastKind f_lastVal f_lastLen f_lastAlloc f_curLen f_over f_used f_allocs f_nf f_nc f_sp f_rk f_rv a_tk a_ta a_lastBits a_cur a_fVar a_fPar a_fK a_fV a_cPos a_cEnv a_sPos a_sEnv a_sSt a_sK a_sV := br_f (by decide) h
/-- a step that fails -/
theorem am_yF {post : Int32 → SY → Prop} {m : Nat} {x1 x2 : Int32} (h : post 0 (f_maxC, f_maxA, f_n, f_ph, f_sols, f_fails, f_lastKind, f_lastVal, f_lastLen, f_lastAlloc, f_curLen, f_over, f_used, f_allocs, f_nf, f_nc, f_sp, f_rk, f_rv, a_tk, a_ta, a_lastBits, a_cur, a_fVar, a_fPar, a_fK, a_fV, a_cPos, a_cEnv, a_sPos, a_sEnv, a_sSt, a_sK, a_sV)) : wY_runPath_1552 post (wY_runPath_46 post (m + 1)) x1 x2 0 f_maxC f_maxA f_n f_ph f_sols f_fails f_lastKind f_lastVal f_lastLen f_lastAlloc f_curLen f_over f_used f_allocs f_nf f_nc f_sp f_rk f_rv a_tk a_ta a_lastBits a_cur a_fVar a_fPar a_fK a_fV a_cPos a_cEnv a_sPos a_sEnv a_sSt a_sK a_sV := by
  refine br_t rfl ?_
  rw [wY_runPath_46]
  exact br_f (by decide) (br_f (by decide) h)
end
/-- the machine at the head of its loop: a + 128 for each allocation that may still come are left at least -/
def am_LY (post : Int32 → SY → Prop) (n : Nat) (tk ta : Nat → Int32) (mC mA : Nat) (ph sols fails lK lV lL lA ov : Int32) (lB : Nat → Int32) (b : Nat → Bool) (L0 : Nat) (a : Nat) (stk : List am_F) (rk rv : Int32) (s : am_S) : Prop :=
  ∀ (m : Nat) (cur gVar gPar gK gV gPos gEnv hP hE hS hK hV : Nat → Int32), a + 128 * (16 - am_al s) ≤ m → m ≤ 100000 → am_sy s gVar gPar gK gV gPos gEnv → am_fy hP hE hS hK hV stk → (∀ j, j < am_mx L0 (am_us s) → cur j = am_bI (b j)) →
  wY_runPath_46 post (m + 1) (-1) (nI (100000 - m)) (nI mC) (nI mA) (nI n) ph sols fails lK lV lL lA (nI (am_mx L0 (am_us s))) ov (nI (am_us s)) (nI (am_al s)) (nI (am_nf s)) (nI (am_nc s)) (nI stk.length) rk rv tk ta lB cur gVar gPar gK gV gPos gEnv hP hE hS hK hV
/-- a path that failed -/
def am_QY (post : Int32 → SY → Prop) (n : Nat) (tk ta : Nat → Int32) (mC mA : Nat) (ph sols fails lK lV lL lA ov : Int32) (lB : Nat → Int32) (b : Nat → Bool) (L0 : Nat) (s : am_S) : Prop :=
  ∀ (f_allocs f_nf f_nc f_sp f_rk f_rv : Int32) (cur gVar gPar gK gV gPos gEnv hP hE hS hK hV : Nat → Int32), (∀ j, j < am_mx L0 (am_us s) → cur j = am_bI (b j)) → post 0 (nI mC, nI mA, nI n, ph, sols, fails, lK, lV, lL, lA, nI (am_mx L0 (am_us s)), ov, nI (am_us s), f_allocs, f_nf, f_nc, f_sp, f_rk, f_rv, tk, ta, lB, cur, gVar, gPar, gK, gV, gPos, gEnv, hP, hE, hS, hK, hV)
end
section
/-! the reference's machine keeps the rules -/
theorem am_yfacts {n : Nat} {tk ta : Nat → Int32} {p m : Nat} {e st k v : Int32} {r : List am_F} {hP hE hS hK hV : Nat → Int32} (hn : n ≤ 32) (hp : p ≤ n) (hl : r.length < 1000) (hm : m + 1 ≤ 100000) (h : am_fy hP hE hS hK hV ((p, e, st, k, v) :: r)) :
    (¬ (100000 : Int32) ≤ nI (100000 - (m + 1))) ∧ nI (100000 - (m + 1)) + 1 = nI (100000 - m) ∧ (¬ nI (r.length + 1) = 0) ∧ nI (r.length + 1) - 1 = nI r.length ∧ vp_in (nI r.length) 1024 ∧ hP (nI r.length).toNatClampNeg = nI p ∧ (¬ nI p < 0) ∧ tk (nI p).toNatClampNeg = tk p ∧ ta (nI p).toNatClampNeg = ta p ∧ hS (nI r.length).toNatClampNeg = st ∧ hE (nI r.length).toNatClampNeg = e ∧ hK (nI r.length).toNatClampNeg = k ∧ hV (nI r.length).toNatClampNeg = v ∧ (nI r.length).toNatClampNeg = r.length := by
  obtain ⟨h1, h2, h3, h4, h5, _⟩ := h
  have hc : (nI r.length).toNatClampNeg = r.length := nI_clamp (by omega)
  have hq : (nI p).toNatClampNeg = p := nI_clamp (by omega)
  refine ⟨nI_ge (b := 100000) (by omega) (by decide), ?_, nI_ne0 (by omega) (by omega), nI_pred r.length, vp_in_nI (by omega) (by decide), ?_, nI_pos (by omega), ?_, ?_, ?_, ?_, ?_, ?_, hc⟩
  · rw [nI_1]
    exact congrArg nI (by omega)
  · rw [hc]; exact h1
  · rw [hq]
  · rw [hq]
  · rw [hc]; exact h3
  · rw [hc]; exact h2
  · rw [hc]; exact h4
  · rw [hc]; exact h5
theorem am_fy_tl {gP gE gS gK gV : Nat → Int32} {f : am_F} {r : List am_F} (h : am_fy gP gE gS gK gV (f :: r)) : am_fy gP gE gS gK gV r := by
  obtain ⟨p, e, st, k, v⟩ := f
  exact h.2.2.2.2.2
theorem am_al_nk (p : Nat) (e : Int32) (s : am_S) : am_al (am_nk p e s) = am_al s + 1 := rfl
section
variable {post : Int32 → SY → Prop} {n : Nat} {tk ta : Nat → Int32} {mC mA : Nat} {ph sols fails lK lV lL lA ov : Int32} {lB : Nat → Int32} {b : Nat → Bool} {L0 : Nat} {a p : Nat} {e : Int32} {stk : List am_F} {k v rk rv : Int32} {s : am_S}
theorem am_yr_mono {a' : Nat} (ha : a ≤ a') (h : am_LY post n tk ta mC mA ph sols fails lK lV lL lA ov lB b L0 a stk rk rv s) : am_LY post n tk ta mC mA ph sols fails lK lV lL lA ov lB b L0 a' stk rk rv s :=
  fun m cur gVar gPar gK gV gPos gEnv hP hE hS hK hV h1 h2 h3 h4 h5 => h m cur gVar gPar gK gV gPos gEnv hP hE hS hK hV (by omega) h2 h3 h4 h5
theorem am_yr_out (hn : n ≤ 32) (hl : stk.length < 545) (hq : am_QY post n tk ta mC mA ph sols fails lK lV lL lA ov lB b L0 s) : am_LY post n tk ta mC mA ph sols fails lK lV lL lA ov lB b L0 (a + 1) ((n, e, 0, 0, 0) :: stk) rk rv s := by
  intro m cur gVar gPar gK gV gPos gEnv hP hE hS hK hV h1 h2 h3 h4 h5
  obtain ⟨m, rfl⟩ : ∃ m', m = m' + 1 := ⟨m - 1, by omega⟩
  obtain ⟨f1, f2, f3, f4, f5, f6, f7, f10, f11, f12, f13, f14, f15, fc⟩ := am_yfacts (tk := tk) (ta := ta) hn (Nat.le_refl n) (by omega) h2 h4
  rw [wY_runPath_46]
  exact br_t rfl (br_f f1 (nm_r f2 (br_f f3 (nm_r f4 ⟨f5, nm_r f6 (br_f f7 (br_f (nI_nlt (Nat.le_refl n) (by omega)) (br_f (by decide) (hq _ _ _ _ _ _ cur gVar gPar gK gV gPos gEnv hP hE hS hK hV h5))))⟩))))
theorem am_yr_num (hn : n ≤ 32) (hA : mA ≤ 16) (H : am_H n mC mA s e p stk) (hk : tk p = 0) (h : am_LY post n tk ta mC mA ph sols fails lK lV lL lA ov lB b L0 a stk 1 (ta p) s) : am_LY post n tk ta mC mA ph sols fails lK lV lL lA ov lB b L0 (a + 1) ((p, e, 0, 0, 0) :: stk) rk rv s := by
  intro m cur gVar gPar gK gV gPos gEnv hP hE hS hK hV h1 h2 h3 h4 h5
  obtain ⟨m, rfl⟩ : ∃ m', m = m' + 1 := ⟨m - 1, by omega⟩
  have hl := H.2.2.2.1
  have hp := H.2.2.1
  obtain ⟨f1, f2, f3, f4, f5, f6, f7, f10, f11, f12, f13, f14, f15, fc⟩ := am_yfacts (tk := tk) (ta := ta) hn (Nat.le_of_lt hp) (by omega) h2 h4
  have f8 : nI p < nI n := nI_lt hp (by omega)
  have f9 : vp_in (nI p) 32 := vp_in_nI (by omega) (by decide)
  rw [wY_runPath_46]
  exact br_t rfl (br_f f1 (nm_r f2 (br_f f3 (nm_r f4 ⟨f5, nm_r f6 (br_f f7 (br_t f8 ⟨f9, nm_r f10 ⟨f9, nm_r f11 ⟨f5, nm_r f12 ⟨f5, nm_r f13 (br_t hk (nm_r f4 (am_yO (h m cur gVar gPar gK gV gPos gEnv hP hE hS hK hV (by omega) (by omega) h3 (am_fy_tl h4) h5))))⟩⟩⟩⟩))⟩))))
theorem am_yr_var (hn : n ≤ 32) (hA : mA ≤ 16) (H : am_H n mC mA s e p stk) (hk : tk p = 1) {f : Nat} (hf : f < am_nf s) (hlk : am_lk s (ta p) 17 e = nI f) (h : am_LY post n tk ta mC mA ph sols fails lK lV lL lA ov lB b L0 a stk (am_fK s f) (am_fV s f) s) : am_LY post n tk ta mC mA ph sols fails lK lV lL lA ov lB b L0 (a + 1) ((p, e, 0, 0, 0) :: stk) rk rv s := by
  intro m cur gVar gPar gK gV gPos gEnv hP hE hS hK hV h1 h2 h3 h4 h5
  obtain ⟨m, rfl⟩ : ∃ m', m = m' + 1 := ⟨m - 1, by omega⟩
  have hl := H.2.2.2.1
  have hp := H.2.2.1
  obtain ⟨f1, f2, f3, f4, f5, f6, f7, f10, f11, f12, f13, f14, f15, fc⟩ := am_yfacts (tk := tk) (ta := ta) hn (Nat.le_of_lt hp) (by omega) h2 h4
  have f8 : nI p < nI n := nI_lt hp (by omega)
  have f9 : vp_in (nI p) 32 := vp_in_nI (by omega) (by decide)
  have hb := am_WF_f H.1 hA hf
  have vf : vp_in (nI f) 16 := vp_in_nI hb (by decide)
  have ek : gK (nI f).toNatClampNeg = am_fK s f := by rw [nI_clamp (by omega)]; exact (h3.1 f hf).2.2.1
  have ev : gV (nI f).toNatClampNeg = am_fV s f := by rw [nI_clamp (by omega)]; exact (h3.1 f hf).2.2.2
  rw [wY_runPath_46]
  exact br_t rfl (br_f f1 (nm_r f2 (br_f f3 (nm_r f4 ⟨f5, nm_r f6 (br_f f7 (br_t f8 ⟨f9, nm_r f10 ⟨f9, nm_r f11 ⟨f5, nm_r f12 ⟨f5, nm_r f13 (br_f (by rw [hk]; decide) (br_t hk (am_ylk H.1 hA h3 H.2.1 hlk (br_t (nI_pos' (by omega)) ⟨vf, nm_r ek ⟨vf, nm_r ev (nm_r f4 (am_yO (h m cur gVar gPar gK gV gPos gEnv hP hE hS hK hV (by omega) (by omega) h3 (am_fy_tl h4) h5)))⟩⟩))))⟩⟩⟩⟩))⟩))))
theorem am_yr_varF (hn : n ≤ 32) (hA : mA ≤ 16) (H : am_H n mC mA s e p stk) (hk : tk p = 1) (hlk : am_lk s (ta p) 17 e = -1) (hq : am_QY post n tk ta mC mA ph sols fails lK lV lL lA ov lB b L0 s) : am_LY post n tk ta mC mA ph sols fails lK lV lL lA ov lB b L0 (a + 1) ((p, e, 0, 0, 0) :: stk) rk rv s := by
  intro m cur gVar gPar gK gV gPos gEnv hP hE hS hK hV h1 h2 h3 h4 h5
  obtain ⟨m, rfl⟩ : ∃ m', m = m' + 1 := ⟨m - 1, by omega⟩
  have hl := H.2.2.2.1
  have hp := H.2.2.1
  obtain ⟨f1, f2, f3, f4, f5, f6, f7, f10, f11, f12, f13, f14, f15, fc⟩ := am_yfacts (tk := tk) (ta := ta) hn (Nat.le_of_lt hp) (by omega) h2 h4
  have f8 : nI p < nI n := nI_lt hp (by omega)
  have f9 : vp_in (nI p) 32 := vp_in_nI (by omega) (by decide)
  rw [wY_runPath_46]
  exact br_t rfl (br_f f1 (nm_r f2 (br_f f3 (nm_r f4 ⟨f5, nm_r f6 (br_f f7 (br_t f8 ⟨f9, nm_r f10 ⟨f9, nm_r f11 ⟨f5, nm_r f12 ⟨f5, nm_r f13 (br_f (by rw [hk]; decide) (br_t hk (am_ylk H.1 hA h3 H.2.1 hlk (br_f (by decide) (am_yF (hq _ _ _ _ _ _ cur gVar gPar gK gV gPos gEnv hP hE hS hK hV h5))))))⟩⟩⟩⟩))⟩))))
theorem am_yr_push7 (hn : n ≤ 32) (hA : mA ≤ 16) (H : am_H n mC mA s e p stk) (hk : tk p = 7) (h : am_LY post n tk ta mC mA ph sols fails lK lV lL lA ov lB b L0 a ((p + 1, e, 0, 0, 0) :: (p, e, 1, 0, 0) :: stk) rk rv s) : am_LY post n tk ta mC mA ph sols fails lK lV lL lA ov lB b L0 (a + 1) ((p, e, 0, 0, 0) :: stk) rk rv s := by
  intro m cur gVar gPar gK gV gPos gEnv hP hE hS hK hV h1 h2 h3 h4 h5
  obtain ⟨m, rfl⟩ : ∃ m', m = m' + 1 := ⟨m - 1, by omega⟩
  have hl := H.2.2.2.1
  have hp := H.2.2.1
  obtain ⟨f1, f2, f3, f4, f5, f6, f7, f10, f11, f12, f13, f14, f15, fc⟩ := am_yfacts (tk := tk) (ta := ta) hn (Nat.le_of_lt hp) (by omega) h2 h4
  have f8 : nI p < nI n := nI_lt hp (by omega)
  have f9 : vp_in (nI p) 32 := vp_in_nI (by omega) (by decide)
  rw [wY_runPath_46]
  exact br_t rfl (br_f f1 (nm_r f2 (br_f f3 (nm_r f4 ⟨f5, nm_r f6 (br_f f7 (br_t f8 ⟨f9, nm_r f10 ⟨f9, nm_r f11 ⟨f5, nm_r f12 ⟨f5, nm_r f13 (br_f (by rw [hk]; decide) (br_f (by rw [hk]; decide) (br_f (by rw [hk]; decide) (br_t (by rw [hk]; decide) (br_t hk (br_t rfl ⟨f5, nm_r (by rw [fc]) (am_ypush (t := stk.length + 1) (by omega) (nI_1 p) (am_yO (h m cur gVar gPar gK gV gPos gEnv (upd hP (stk.length + 1) (nI (p + 1))) (upd hE (stk.length + 1) e) (upd (upd hS stk.length 1) (stk.length + 1) 0) (upd hK (stk.length + 1) 0) (upd hV (stk.length + 1) 0) (by omega) (by omega) h3 (am_fy_push (am_fy_st h4)) h5)))⟩))))))⟩⟩⟩⟩))⟩))))
theorem am_yr_push10 (hn : n ≤ 32) (hA : mA ≤ 16) (H : am_H n mC mA s e p stk) (hk : tk p = 10) (h : am_LY post n tk ta mC mA ph sols fails lK lV lL lA ov lB b L0 a ((p + 1, e, 0, 0, 0) :: (p, e, 1, 0, 0) :: stk) rk rv s) : am_LY post n tk ta mC mA ph sols fails lK lV lL lA ov lB b L0 (a + 1) ((p, e, 0, 0, 0) :: stk) rk rv s := by
  intro m cur gVar gPar gK gV gPos gEnv hP hE hS hK hV h1 h2 h3 h4 h5
  obtain ⟨m, rfl⟩ : ∃ m', m = m' + 1 := ⟨m - 1, by omega⟩
  have hl := H.2.2.2.1
  have hp := H.2.2.1
  obtain ⟨f1, f2, f3, f4, f5, f6, f7, f10, f11, f12, f13, f14, f15, fc⟩ := am_yfacts (tk := tk) (ta := ta) hn (Nat.le_of_lt hp) (by omega) h2 h4
  have f8 : nI p < nI n := nI_lt hp (by omega)
  have f9 : vp_in (nI p) 32 := vp_in_nI (by omega) (by decide)
  rw [wY_runPath_46]
  exact br_t rfl (br_f f1 (nm_r f2 (br_f f3 (nm_r f4 ⟨f5, nm_r f6 (br_f f7 (br_t f8 ⟨f9, nm_r f10 ⟨f9, nm_r f11 ⟨f5, nm_r f12 ⟨f5, nm_r f13 (br_f (by rw [hk]; decide) (br_f (by rw [hk]; decide) (br_f (by rw [hk]; decide) (br_t (by rw [hk]; decide) (br_f (by rw [hk]; decide) (br_f (by rw [hk]; decide) (br_f (by rw [hk]; decide) (br_t hk (br_t rfl ⟨f5, nm_r (by rw [fc]) (am_ypush (t := stk.length + 1) (by omega) (nI_1 p) (am_yO (h m cur gVar gPar gK gV gPos gEnv (upd hP (stk.length + 1) (nI (p + 1))) (upd hE (stk.length + 1) e) (upd (upd hS stk.length 1) (stk.length + 1) 0) (upd hK (stk.length + 1) 0) (upd hV (stk.length + 1) 0) (by omega) (by omega) h3 (am_fy_push (am_fy_st h4)) h5)))⟩)))))))))⟩⟩⟩⟩))⟩))))
theorem am_yr_push11 (hn : n ≤ 32) (hA : mA ≤ 16) (H : am_H n mC mA s e p stk) (hk : tk p = 11) (h : am_LY post n tk ta mC mA ph sols fails lK lV lL lA ov lB b L0 a ((p + 1, e, 0, 0, 0) :: (p, e, 1, 0, 0) :: stk) rk rv s) : am_LY post n tk ta mC mA ph sols fails lK lV lL lA ov lB b L0 (a + 1) ((p, e, 0, 0, 0) :: stk) rk rv s := by
  intro m cur gVar gPar gK gV gPos gEnv hP hE hS hK hV h1 h2 h3 h4 h5
  obtain ⟨m, rfl⟩ : ∃ m', m = m' + 1 := ⟨m - 1, by omega⟩
  have hl := H.2.2.2.1
  have hp := H.2.2.1
  obtain ⟨f1, f2, f3, f4, f5, f6, f7, f10, f11, f12, f13, f14, f15, fc⟩ := am_yfacts (tk := tk) (ta := ta) hn (Nat.le_of_lt hp) (by omega) h2 h4
  have f8 : nI p < nI n := nI_lt hp (by omega)
  have f9 : vp_in (nI p) 32 := vp_in_nI (by omega) (by decide)
  rw [wY_runPath_46]
  exact br_t rfl (br_f f1 (nm_r f2 (br_f f3 (nm_r f4 ⟨f5, nm_r f6 (br_f f7 (br_t f8 ⟨f9, nm_r f10 ⟨f9, nm_r f11 ⟨f5, nm_r f12 ⟨f5, nm_r f13 (br_f (by rw [hk]; decide) (br_f (by rw [hk]; decide) (br_f (by rw [hk]; decide) (br_t (by rw [hk]; decide) (br_f (by rw [hk]; decide) (br_f (by rw [hk]; decide) (br_f (by rw [hk]; decide) (br_f (by rw [hk]; decide) (br_t hk (br_t rfl ⟨f5, nm_r (by rw [fc]) (am_ypush (t := stk.length + 1) (by omega) (nI_1 p) (am_yO (h m cur gVar gPar gK gV gPos gEnv (upd hP (stk.length + 1) (nI (p + 1))) (upd hE (stk.length + 1) e) (upd (upd hS stk.length 1) (stk.length + 1) 0) (upd hK (stk.length + 1) 0) (upd hV (stk.length + 1) 0) (by omega) (by omega) h3 (am_fy_push (am_fy_st h4)) h5)))⟩))))))))))⟩⟩⟩⟩))⟩))))
theorem am_yr_push13 (hn : n ≤ 32) (hA : mA ≤ 16) (H : am_H n mC mA s e p stk) (hk : tk p = 13) (h : am_LY post n tk ta mC mA ph sols fails lK lV lL lA ov lB b L0 a ((p + 1, e, 0, 0, 0) :: (p, e, 1, 0, 0) :: stk) rk rv s) : am_LY post n tk ta mC mA ph sols fails lK lV lL lA ov lB b L0 (a + 1) ((p, e, 0, 0, 0) :: stk) rk rv s := by
  intro m cur gVar gPar gK gV gPos gEnv hP hE hS hK hV h1 h2 h3 h4 h5
  obtain ⟨m, rfl⟩ : ∃ m', m = m' + 1 := ⟨m - 1, by omega⟩
  have hl := H.2.2.2.1
  have hp := H.2.2.1
  obtain ⟨f1, f2, f3, f4, f5, f6, f7, f10, f11, f12, f13, f14, f15, fc⟩ := am_yfacts (tk := tk) (ta := ta) hn (Nat.le_of_lt hp) (by omega) h2 h4
  have f8 : nI p < nI n := nI_lt hp (by omega)
  have f9 : vp_in (nI p) 32 := vp_in_nI (by omega) (by decide)
  rw [wY_runPath_46]
  exact br_t rfl (br_f f1 (nm_r f2 (br_f f3 (nm_r f4 ⟨f5, nm_r f6 (br_f f7 (br_t f8 ⟨f9, nm_r f10 ⟨f9, nm_r f11 ⟨f5, nm_r f12 ⟨f5, nm_r f13 (br_f (by rw [hk]; decide) (br_f (by rw [hk]; decide) (br_f (by rw [hk]; decide) (br_t (by rw [hk]; decide) (br_f (by rw [hk]; decide) (br_f (by rw [hk]; decide) (br_f (by rw [hk]; decide) (br_f (by rw [hk]; decide) (br_f (by rw [hk]; decide) (br_f (by rw [hk]; decide) (br_t hk (br_t rfl ⟨f5, nm_r (by rw [fc]) (am_ypush (t := stk.length + 1) (by omega) (nI_1 p) (am_yO (h m cur gVar gPar gK gV gPos gEnv (upd hP (stk.length + 1) (nI (p + 1))) (upd hE (stk.length + 1) e) (upd (upd hS stk.length 1) (stk.length + 1) 0) (upd hK (stk.length + 1) 0) (upd hV (stk.length + 1) 0) (by omega) (by omega) h3 (am_fy_push (am_fy_st h4)) h5)))⟩))))))))))))⟩⟩⟩⟩))⟩))))
theorem am_yr_push14 (hn : n ≤ 32) (hA : mA ≤ 16) (H : am_H n mC mA s e p stk) (hk : tk p = 14) (h : am_LY post n tk ta mC mA ph sols fails lK lV lL lA ov lB b L0 a ((p + 1, e, 0, 0, 0) :: (p, e, 1, 0, 0) :: stk) rk rv s) : am_LY post n tk ta mC mA ph sols fails lK lV lL lA ov lB b L0 (a + 1) ((p, e, 0, 0, 0) :: stk) rk rv s := by
  intro m cur gVar gPar gK gV gPos gEnv hP hE hS hK hV h1 h2 h3 h4 h5
  obtain ⟨m, rfl⟩ : ∃ m', m = m' + 1 := ⟨m - 1, by omega⟩
  have hl := H.2.2.2.1
  have hp := H.2.2.1
  obtain ⟨f1, f2, f3, f4, f5, f6, f7, f10, f11, f12, f13, f14, f15, fc⟩ := am_yfacts (tk := tk) (ta := ta) hn (Nat.le_of_lt hp) (by omega) h2 h4
  have f8 : nI p < nI n := nI_lt hp (by omega)
  have f9 : vp_in (nI p) 32 := vp_in_nI (by omega) (by decide)
  rw [wY_runPath_46]
  exact br_t rfl (br_f f1 (nm_r f2 (br_f f3 (nm_r f4 ⟨f5, nm_r f6 (br_f f7 (br_t f8 ⟨f9, nm_r f10 ⟨f9, nm_r f11 ⟨f5, nm_r f12 ⟨f5, nm_r f13 (br_f (by rw [hk]; decide) (br_f (by rw [hk]; decide) (br_f (by rw [hk]; decide) (br_t (by rw [hk]; decide) (br_f (by rw [hk]; decide) (br_f (by rw [hk]; decide) (br_f (by rw [hk]; decide) (br_f (by rw [hk]; decide) (br_f (by rw [hk]; decide) (br_f (by rw [hk]; decide) (br_f (by rw [hk]; decide) (br_t hk (br_t rfl ⟨f5, nm_r (by rw [fc]) (am_ypush (t := stk.length + 1) (by omega) (nI_1 p) (am_yO (h m cur gVar gPar gK gV gPos gEnv (upd hP (stk.length + 1) (nI (p + 1))) (upd hE (stk.length + 1) e) (upd (upd hS stk.length 1) (stk.length + 1) 0) (upd hK (stk.length + 1) 0) (upd hV (stk.length + 1) 0) (by omega) (by omega) h3 (am_fy_push (am_fy_st h4)) h5)))⟩)))))))))))))⟩⟩⟩⟩))⟩))))
theorem am_yr_push15 (hn : n ≤ 32) (hA : mA ≤ 16) (H : am_H n mC mA s e p stk) (hk : tk p = 15) (h : am_LY post n tk ta mC mA ph sols fails lK lV lL lA ov lB b L0 a ((p + 1, e, 0, 0, 0) :: (p, e, 1, 0, 0) :: stk) rk rv s) : am_LY post n tk ta mC mA ph sols fails lK lV lL lA ov lB b L0 (a + 1) ((p, e, 0, 0, 0) :: stk) rk rv s := by
  intro m cur gVar gPar gK gV gPos gEnv hP hE hS hK hV h1 h2 h3 h4 h5
  obtain ⟨m, rfl⟩ : ∃ m', m = m' + 1 := ⟨m - 1, by omega⟩
  have hl := H.2.2.2.1
  have hp := H.2.2.1
  obtain ⟨f1, f2, f3, f4, f5, f6, f7, f10, f11, f12, f13, f14, f15, fc⟩ := am_yfacts (tk := tk) (ta := ta) hn (Nat.le_of_lt hp) (by omega) h2 h4
  have f8 : nI p < nI n := nI_lt hp (by omega)
  have f9 : vp_in (nI p) 32 := vp_in_nI (by omega) (by decide)
  rw [wY_runPath_46]
  exact br_t rfl (br_f f1 (nm_r f2 (br_f f3 (nm_r f4 ⟨f5, nm_r f6 (br_f f7 (br_t f8 ⟨f9, nm_r f10 ⟨f9, nm_r f11 ⟨f5, nm_r f12 ⟨f5, nm_r f13 (br_f (by rw [hk]; decide) (br_f (by rw [hk]; decide) (br_f (by rw [hk]; decide) (br_t (by rw [hk]; decide) (br_f (by rw [hk]; decide) (br_f (by rw [hk]; decide) (br_f (by rw [hk]; decide) (br_f (by rw [hk]; decide) (br_f (by rw [hk]; decide) (br_f (by rw [hk]; decide) (br_f (by rw [hk]; decide) (br_f (by rw [hk]; decide) (br_t rfl ⟨f5, nm_r (by rw [fc]) (am_ypush (t := stk.length + 1) (by omega) (nI_1 p) (am_yO (h m cur gVar gPar gK gV gPos gEnv (upd hP (stk.length + 1) (nI (p + 1))) (upd hE (stk.length + 1) e) (upd (upd hS stk.length 1) (stk.length + 1) 0) (upd hK (stk.length + 1) 0) (upd hV (stk.length + 1) 0) (by omega) (by omega) h3 (am_fy_push (am_fy_st h4)) h5)))⟩)))))))))))))⟩⟩⟩⟩))⟩))))
theorem am_yr_push2 (hn : n ≤ 32) (hA : mA ≤ 16) (H : am_H n mC mA s e p stk) (hk : am_bin (tk p)) (h : am_LY post n tk ta mC mA ph sols fails lK lV lL lA ov lB b L0 a ((p + 1, e, 0, 0, 0) :: (p, e, 1, 0, 0) :: stk) rk rv s) : am_LY post n tk ta mC mA ph sols fails lK lV lL lA ov lB b L0 (a + 1) ((p, e, 0, 0, 0) :: stk) rk rv s := by
  intro m cur gVar gPar gK gV gPos gEnv hP hE hS hK hV h1 h2 h3 h4 h5
  obtain ⟨m, rfl⟩ : ∃ m', m = m' + 1 := ⟨m - 1, by omega⟩
  have hl := H.2.2.2.1
  have hp := H.2.2.1
  obtain ⟨f1, f2, f3, f4, f5, f6, f7, f10, f11, f12, f13, f14, f15, fc⟩ := am_yfacts (tk := tk) (ta := ta) hn (Nat.le_of_lt hp) (by omega) h2 h4
  have f8 : nI p < nI n := nI_lt hp (by omega)
  have f9 : vp_in (nI p) 32 := vp_in_nI (by omega) (by decide)
  have k0 : ¬ tk p = 0 := by rcases hk with q | q | q | q | q <;> rw [q] <;> decide
  have k1 : ¬ tk p = 1 := by rcases hk with q | q | q | q | q <;> rw [q] <;> decide
  have k2 : ¬ tk p < 2 := by rcases hk with q | q | q | q | q <;> rw [q] <;> decide
  have k6 : ¬ 6 < tk p := by rcases hk with q | q | q | q | q <;> rw [q] <;> decide
  rw [wY_runPath_46]
  exact br_t rfl (br_f f1 (nm_r f2 (br_f f3 (nm_r f4 ⟨f5, nm_r f6 (br_f f7 (br_t f8 ⟨f9, nm_r f10 ⟨f9, nm_r f11 ⟨f5, nm_r f12 ⟨f5, nm_r f13 (br_f k0 (br_f k1 (br_f k2 (br_f k6 (br_t rfl ⟨f5, nm_r (by rw [fc]) (am_ypush (t := stk.length + 1) (by omega) (nI_1 p) (am_yO (h m cur gVar gPar gK gV gPos gEnv (upd hP (stk.length + 1) (nI (p + 1))) (upd hE (stk.length + 1) e) (upd (upd hS stk.length 1) (stk.length + 1) 0) (upd hK (stk.length + 1) 0) (upd hV (stk.length + 1) 0) (by omega) (by omega) h3 (am_fy_push (am_fy_st h4)) h5)))⟩)))))⟩⟩⟩⟩))⟩))))
theorem am_yr_push (hn : n ≤ 32) (hA : mA ≤ 16) (H : am_H n mC mA s e p stk) (hk : am_psh (tk p)) (h : am_LY post n tk ta mC mA ph sols fails lK lV lL lA ov lB b L0 a ((p + 1, e, 0, 0, 0) :: (p, e, 1, 0, 0) :: stk) rk rv s) : am_LY post n tk ta mC mA ph sols fails lK lV lL lA ov lB b L0 (a + 1) ((p, e, 0, 0, 0) :: stk) rk rv s := by
  rcases hk with q | q | q | q | q | q | q
  · exact am_yr_push7 hn hA H q h
  · exact am_yr_push10 hn hA H q h
  · exact am_yr_push11 hn hA H q h
  · exact am_yr_push13 hn hA H q h
  · exact am_yr_push14 hn hA H q h
  · exact am_yr_push15 hn hA H q h
  · exact am_yr_push2 hn hA H q h
theorem am_y700 {J : Int32 → Int32 → Int32 → Int32 → Int32 → Int32 → Int32 → Int32 → Int32 → Int32 → Int32 → Int32 → Int32 → Int32 → Int32 → Int32 → Int32 → Int32 → Int32 → Int32 → Int32 → (Nat → Int32) → (Nat → Int32) → (Nat → Int32) → (Nat → Int32) → (Nat → Int32) → (Nat → Int32) → (Nat → Int32) → (Nat → Int32) → (Nat → Int32) → (Nat → Int32) → (Nat → Int32) → (Nat → Int32) → (Nat → Int32) → (Nat → Int32) → (Nat → Int32) → Prop} {x2 : Int32} {t q : Nat} {x : Int32} {cu gVar gPar gK gV gPos gEnv hP hE hS hK hV : Nat → Int32} {f_curLen f_used f_allocs f_nf f_nc : Int32} (ht : t < 1000) (ex : x = nI q)
    (h : J (-1) x2 (nI mC) (nI mA) (nI n) ph sols fails lK lV lL lA f_curLen ov f_used f_allocs f_nf f_nc (nI (t + 1 + 1)) rk rv tk ta lB cu gVar gPar gK gV gPos gEnv (upd hP (t + 1) (nI q)) (upd hE (t + 1) e) (upd (upd hS t 1) (t + 1) 0) (upd hK (t + 1) 0) (upd hV (t + 1) 0)) :
    wY_runPath_700 post J (-1) x2 (nI t) e x (nI mC) (nI mA) (nI n) ph sols fails lK lV lL lA f_curLen ov f_used f_allocs f_nf f_nc (nI (t + 1)) rk rv tk ta lB cu gVar gPar gK gV gPos gEnv hP hE hS hK hV := by
  have hc : (nI t).toNatClampNeg = t := nI_clamp (by omega)
  exact ⟨vp_in_nI (by omega) (by decide), nm_r (by rw [hc]) (am_ypush (t := t + 1) (by omega) ex (am_yO h))⟩
theorem am_y659 {J : Int32 → Int32 → Int32 → Int32 → Int32 → Int32 → Int32 → Int32 → Int32 → Int32 → Int32 → Int32 → Int32 → Int32 → Int32 → Int32 → Int32 → Int32 → Int32 → Int32 → Int32 → (Nat → Int32) → (Nat → Int32) → (Nat → Int32) → (Nat → Int32) → (Nat → Int32) → (Nat → Int32) → (Nat → Int32) → (Nat → Int32) → (Nat → Int32) → (Nat → Int32) → (Nat → Int32) → (Nat → Int32) → (Nat → Int32) → (Nat → Int32) → (Nat → Int32) → Prop} {x2 : Int32} {t u : Nat} {cu gVar gPar gK gV gPos gEnv hP hE hS hK hV : Nat → Int32} {f_curLen f_allocs f_nf f_nc : Int32} (hn : n ≤ 32) (hp : p < n) (ht : t < 1000) (hu : u < 6) (hcu : cu u = am_bI (b u))
    (h : J (-1) x2 (nI mC) (nI mA) (nI n) ph sols fails lK lV lL lA f_curLen ov (nI (u + 1)) f_allocs f_nf f_nc (nI (t + 1 + 1)) rk rv tk ta lB cu gVar gPar gK gV gPos gEnv (upd hP (t + 1) (nI (am_q8 n tk p (b u)))) (upd hE (t + 1) e) (upd (upd hS t 1) (t + 1) 0) (upd hK (t + 1) 0) (upd hV (t + 1) 0)) :
    wY_runPath_659 post J (-1) x2 (nI t) (nI p) e (nI u) (nI mC) (nI mA) (nI n) ph sols fails lK lV lL lA f_curLen ov (nI u) f_allocs f_nf f_nc (nI (t + 1)) rk rv tk ta lB cu gVar gPar gK gV gPos gEnv hP hE hS hK hV := by
  have hc : cu (nI u).toNatClampNeg = am_bI (b u) := by rw [nI_clamp (by omega)]; exact hcu
  refine ⟨vp_in_nI hu (by decide), nm_r hc (nm_r (nI_1 u) (nm_r (nI_1 p) ?_))⟩
  unfold am_q8 at h
  cases hb : b u with
  | true =>
    rw [hb, if_pos rfl] at h
    exact br_t rfl (am_yend hn hp (nI_1 p) (am_y700 ht rfl h))
  | false =>
    rw [hb, if_neg (by decide)] at h
    exact br_f (by decide) (am_y700 ht rfl h)
theorem am_yr_amb (hn : n ≤ 32) (hA : mA ≤ 16) (hC : mC ≤ 6) (hL : L0 ≤ 6) (hz : ∀ j, L0 ≤ j → b j = false) (H : am_H n mC mA s e p stk) (hk : tk p = 8) (hu : am_us s < mC) (h : am_LY post n tk ta mC mA ph sols fails lK lV lL lA ov lB b L0 a ((am_q8 n tk p (b (am_us s)), e, 0, 0, 0) :: (p, e, 1, 0, 0) :: stk) rk rv (am_tick s)) : am_LY post n tk ta mC mA ph sols fails lK lV lL lA ov lB b L0 (a + 1) ((p, e, 0, 0, 0) :: stk) rk rv s := by
  intro m cur gVar gPar gK gV gPos gEnv hP hE hS hK hV h1 h2 h3 h4 h5
  obtain ⟨m, rfl⟩ : ∃ m', m = m' + 1 := ⟨m - 1, by omega⟩
  have hl := H.2.2.2.1
  have hp := H.2.2.1
  obtain ⟨f1, f2, f3, f4, f5, f6, f7, f10, f11, f12, f13, f14, f15, fc⟩ := am_yfacts (tk := tk) (ta := ta) hn (Nat.le_of_lt hp) (by omega) h2 h4
  have f8 : nI p < nI n := nI_lt hp (by omega)
  have f9 : vp_in (nI p) 32 := vp_in_nI (by omega) (by decide)
  have at1 := am_al_tick s
  have eu : am_us (am_tick s) = am_us s + 1 := rfl
  have u1 : ¬ nI mC ≤ nI (am_us s) := nI_ge hu (by omega)
  have u2 : ¬ nI (am_us s) < 0 := nI_pos (by omega)
  have u3 : nI (am_us s) < 6 := nI_lt (b := 6) (by omega) (by decide)
  by_cases q : am_us s < L0
  · have em : am_mx L0 (am_us s) = L0 := by unfold am_mx; omega
    have em' : am_mx L0 (am_us s + 1) = L0 := by unfold am_mx; omega
    have c5 : ∀ j, j < am_mx L0 (am_us (am_tick s)) → cur j = am_bI (b j) := by
      rw [eu, em']
      rw [em] at h5
      exact h5
    have hh := h m cur gVar gPar gK gV gPos gEnv (upd hP (stk.length + 1) (nI (am_q8 n tk p (b (am_us s))))) (upd hE (stk.length + 1) e) (upd (upd hS stk.length 1) (stk.length + 1) 0) (upd hK (stk.length + 1) 0) (upd hV (stk.length + 1) 0) (by omega) (by omega) h3 (am_fy_push (am_fy_st h4)) c5
    rw [eu, em'] at hh
    rw [em]
    rw [wY_runPath_46]
    exact br_t rfl (br_f f1 (nm_r f2 (br_f f3 (nm_r f4 ⟨f5, nm_r f6 (br_f f7 (br_t f8 ⟨f9, nm_r f10 ⟨f9, nm_r f11 ⟨f5, nm_r f12 ⟨f5, nm_r f13 (br_f (by rw [hk]; decide) (br_f (by rw [hk]; decide) (br_f (by rw [hk]; decide) (br_t (by rw [hk]; decide) (br_f (by rw [hk]; decide) (br_t hk (br_t rfl (br_f u1 (br_f u2 (br_t u3 (br_t (nI_lt q (by omega)) (am_y659 hn hp (by omega) (by omega) (h5 _ (by omega)) hh))))))))))))⟩⟩⟩⟩))⟩))))
  · have em : am_mx L0 (am_us s) = am_us s := by unfold am_mx; omega
    have em' : am_mx L0 (am_us s + 1) = am_us s + 1 := by unfold am_mx; omega
    have c5 : ∀ j, j < am_mx L0 (am_us (am_tick s)) → upd cur (am_us s) 0 j = am_bI (b j) := by
      rw [eu, em']
      rw [em] at h5
      intro j hj
      by_cases z : j = am_us s
      · rw [z, am_up_s, hz (am_us s) (by omega)]
        rfl
      · rw [am_up_n z]
        exact h5 j (by omega)
    have hh := h m (upd cur (am_us s) 0) gVar gPar gK gV gPos gEnv (upd hP (stk.length + 1) (nI (am_q8 n tk p (b (am_us s))))) (upd hE (stk.length + 1) e) (upd (upd hS stk.length 1) (stk.length + 1) 0) (upd hK (stk.length + 1) 0) (upd hV (stk.length + 1) 0) (by omega) (by omega) h3 (am_fy_push (am_fy_st h4)) c5
    rw [eu, em'] at hh
    rw [em]
    rw [wY_runPath_46]
    exact br_t rfl (br_f f1 (nm_r f2 (br_f f3 (nm_r f4 ⟨f5, nm_r f6 (br_f f7 (br_t f8 ⟨f9, nm_r f10 ⟨f9, nm_r f11 ⟨f5, nm_r f12 ⟨f5, nm_r f13 (br_f (by rw [hk]; decide) (br_f (by rw [hk]; decide) (br_f (by rw [hk]; decide) (br_t (by rw [hk]; decide) (br_f (by rw [hk]; decide) (br_t hk (br_t rfl (br_f u1 (br_f u2 (br_t u3 (br_f (nI_nlt (Nat.le_refl _) (by omega)) ⟨vp_in_nI (by omega) (by decide), nm_r (by rw [nI_clamp (by omega)]) (nm_r (nI_1 _) (am_y659 hn hp (by omega) (by omega) (by rw [am_up_s, hz (am_us s) (by omega)]; rfl) hh))⟩)))))))))))⟩⟩⟩⟩))⟩))))
theorem am_yr_ambF (hn : n ≤ 32) (hA : mA ≤ 16) (H : am_H n mC mA s e p stk) (hC : mC ≤ 6) (hk : tk p = 8) (hu : mC ≤ am_us s) (hq : am_QY post n tk ta mC mA ph sols fails lK lV lL lA ov lB b L0 s) : am_LY post n tk ta mC mA ph sols fails lK lV lL lA ov lB b L0 (a + 1) ((p, e, 0, 0, 0) :: stk) rk rv s := by
  intro m cur gVar gPar gK gV gPos gEnv hP hE hS hK hV h1 h2 h3 h4 h5
  obtain ⟨m, rfl⟩ : ∃ m', m = m' + 1 := ⟨m - 1, by omega⟩
  have hl := H.2.2.2.1
  have hp := H.2.2.1
  obtain ⟨f1, f2, f3, f4, f5, f6, f7, f10, f11, f12, f13, f14, f15, fc⟩ := am_yfacts (tk := tk) (ta := ta) hn (Nat.le_of_lt hp) (by omega) h2 h4
  have f8 : nI p < nI n := nI_lt hp (by omega)
  have f9 : vp_in (nI p) 32 := vp_in_nI (by omega) (by decide)
  rw [wY_runPath_46]
  exact br_t rfl (br_f f1 (nm_r f2 (br_f f3 (nm_r f4 ⟨f5, nm_r f6 (br_f f7 (br_t f8 ⟨f9, nm_r f10 ⟨f9, nm_r f11 ⟨f5, nm_r f12 ⟨f5, nm_r f13 (br_f (by rw [hk]; decide) (br_f (by rw [hk]; decide) (br_f (by rw [hk]; decide) (br_t (by rw [hk]; decide) (br_f (by rw [hk]; decide) (br_t hk (br_t rfl (br_t (nI_le hu (by have := H.1.1; omega)) (am_yF (hq _ _ _ _ _ _ cur gVar gPar gK gV gPos gEnv hP hE hS hK hV h5))))))))))⟩⟩⟩⟩))⟩))))
theorem am_yr_fail (hn : n ≤ 32) (hA : mA ≤ 16) (H : am_H n mC mA s e p stk) (hk : tk p = 9) (hq : am_QY post n tk ta mC mA ph sols fails lK lV lL lA ov lB b L0 s) : am_LY post n tk ta mC mA ph sols fails lK lV lL lA ov lB b L0 (a + 1) ((p, e, 0, 0, 0) :: stk) rk rv s := by
  intro m cur gVar gPar gK gV gPos gEnv hP hE hS hK hV h1 h2 h3 h4 h5
  obtain ⟨m, rfl⟩ : ∃ m', m = m' + 1 := ⟨m - 1, by omega⟩
  have hl := H.2.2.2.1
  have hp := H.2.2.1
  obtain ⟨f1, f2, f3, f4, f5, f6, f7, f10, f11, f12, f13, f14, f15, fc⟩ := am_yfacts (tk := tk) (ta := ta) hn (Nat.le_of_lt hp) (by omega) h2 h4
  have f8 : nI p < nI n := nI_lt hp (by omega)
  have f9 : vp_in (nI p) 32 := vp_in_nI (by omega) (by decide)
  rw [wY_runPath_46]
  exact br_t rfl (br_f f1 (nm_r f2 (br_f f3 (nm_r f4 ⟨f5, nm_r f6 (br_f f7 (br_t f8 ⟨f9, nm_r f10 ⟨f9, nm_r f11 ⟨f5, nm_r f12 ⟨f5, nm_r f13 (br_f (by rw [hk]; decide) (br_f (by rw [hk]; decide) (br_f (by rw [hk]; decide) (br_t (by rw [hk]; decide) (br_f (by rw [hk]; decide) (br_f (by rw [hk]; decide) (br_t hk (am_yF (hq _ _ _ _ _ _ cur gVar gPar gK gV gPos gEnv hP hE hS hK hV h5)))))))))⟩⟩⟩⟩))⟩))))
theorem am_yr_lam (hn : n ≤ 32) (hA : mA ≤ 16) (H : am_H n mC mA s e p stk) (hk : tk p = 12) (ha : am_al s < mA) (h : am_LY post n tk ta mC mA ph sols fails lK lV lL lA ov lB b L0 a stk 2 (nI (am_nc s)) (am_nk p e s)) : am_LY post n tk ta mC mA ph sols fails lK lV lL lA ov lB b L0 (a + 1) ((p, e, 0, 0, 0) :: stk) rk rv s := by
  intro m cur gVar gPar gK gV gPos gEnv hP hE hS hK hV h1 h2 h3 h4 h5
  obtain ⟨m, rfl⟩ : ∃ m', m = m' + 1 := ⟨m - 1, by omega⟩
  have hl := H.2.2.2.1
  have hp := H.2.2.1
  obtain ⟨f1, f2, f3, f4, f5, f6, f7, f10, f11, f12, f13, f14, f15, fc⟩ := am_yfacts (tk := tk) (ta := ta) hn (Nat.le_of_lt hp) (by omega) h2 h4
  have f8 : nI p < nI n := nI_lt hp (by omega)
  have f9 : vp_in (nI p) 32 := vp_in_nI (by omega) (by decide)
  have an := am_al_nk p e s
  have cl : am_nc s < 16 := by unfold am_al at ha; omega
  have c16 : nI (am_nc s) < 16 := nI_lt (b := 16) cl (by decide)
  have vc : vp_in (nI (am_nc s)) 16 := vp_in_nI cl (by decide)
  have cc : (nI (am_nc s)).toNatClampNeg = am_nc s := nI_clamp (by omega)
  rw [wY_runPath_46]
  exact br_t rfl (br_f f1 (nm_r f2 (br_f f3 (nm_r f4 ⟨f5, nm_r f6 (br_f f7 (br_t f8 ⟨f9, nm_r f10 ⟨f9, nm_r f11 ⟨f5, nm_r f12 ⟨f5, nm_r f13 (br_f (by rw [hk]; decide) (br_f (by rw [hk]; decide) (br_f (by rw [hk]; decide) (br_t (by rw [hk]; decide) (br_f (by rw [hk]; decide) (br_f (by rw [hk]; decide) (br_f (by rw [hk]; decide) (br_f (by rw [hk]; decide) (br_f (by rw [hk]; decide) (br_t hk (am_yalT (am_al_nk p e s) ha hA (br_f (by decide) (br_t c16 ⟨vc, nm_r (by rw [cc]) ⟨vc, nm_r (by rw [cc]) (nm_r (nI_1 _) (nm_r f4 (am_yO (h m cur gVar gPar gK gV (upd gPos (am_nc s) (nI p)) (upd gEnv (am_nc s) e) hP hE hS hK hV (by omega) (by omega) (am_sy_nk h3) (am_fy_tl h4) h5))))⟩⟩)))))))))))))⟩⟩⟩⟩))⟩))))
theorem am_yr_lamF (hn : n ≤ 32) (hA : mA ≤ 16) (H : am_H n mC mA s e p stk) (hk : tk p = 12) (ha : mA ≤ am_al s) (hq : am_QY post n tk ta mC mA ph sols fails lK lV lL lA ov lB b L0 s) : am_LY post n tk ta mC mA ph sols fails lK lV lL lA ov lB b L0 (a + 1) ((p, e, 0, 0, 0) :: stk) rk rv s := by
  intro m cur gVar gPar gK gV gPos gEnv hP hE hS hK hV h1 h2 h3 h4 h5
  obtain ⟨m, rfl⟩ : ∃ m', m = m' + 1 := ⟨m - 1, by omega⟩
  have hl := H.2.2.2.1
  have hp := H.2.2.1
  obtain ⟨f1, f2, f3, f4, f5, f6, f7, f10, f11, f12, f13, f14, f15, fc⟩ := am_yfacts (tk := tk) (ta := ta) hn (Nat.le_of_lt hp) (by omega) h2 h4
  have f8 : nI p < nI n := nI_lt hp (by omega)
  have f9 : vp_in (nI p) 32 := vp_in_nI (by omega) (by decide)
  rw [wY_runPath_46]
  exact br_t rfl (br_f f1 (nm_r f2 (br_f f3 (nm_r f4 ⟨f5, nm_r f6 (br_f f7 (br_t f8 ⟨f9, nm_r f10 ⟨f9, nm_r f11 ⟨f5, nm_r f12 ⟨f5, nm_r f13 (br_f (by rw [hk]; decide) (br_f (by rw [hk]; decide) (br_f (by rw [hk]; decide) (br_t (by rw [hk]; decide) (br_f (by rw [hk]; decide) (br_f (by rw [hk]; decide) (br_f (by rw [hk]; decide) (br_f (by rw [hk]; decide) (br_f (by rw [hk]; decide) (br_t hk (am_yalF ha (am_nf16 H.1 hA).2.2 (br_t rfl (am_yF (hq _ _ _ _ _ _ cur gVar gPar gK gV gPos gEnv hP hE hS hK hV h5))))))))))))))⟩⟩⟩⟩))⟩))))
theorem am_yr_hold13 (hn : n ≤ 32) (hA : mA ≤ 16) (H : am_H n mC mA s e p stk) (hk : tk p = 13) (h : am_LY post n tk ta mC mA ph sols fails lK lV lL lA ov lB b L0 a ((am_eN tk n (p + 1), e, 0, 0, 0) :: (p, e, 2, rk, rv) :: stk) rk rv s) : am_LY post n tk ta mC mA ph sols fails lK lV lL lA ov lB b L0 (a + 1) ((p, e, 1, 0, 0) :: stk) rk rv s := by
  intro m cur gVar gPar gK gV gPos gEnv hP hE hS hK hV h1 h2 h3 h4 h5
  obtain ⟨m, rfl⟩ : ∃ m', m = m' + 1 := ⟨m - 1, by omega⟩
  have hl := H.2.2.2.1
  have hp := H.2.2.1
  obtain ⟨f1, f2, f3, f4, f5, f6, f7, f10, f11, f12, f13, f14, f15, fc⟩ := am_yfacts (tk := tk) (ta := ta) hn (Nat.le_of_lt hp) (by omega) h2 h4
  have f8 : nI p < nI n := nI_lt hp (by omega)
  have f9 : vp_in (nI p) 32 := vp_in_nI (by omega) (by decide)
  rw [wY_runPath_46]
  exact br_t rfl (br_f f1 (nm_r f2 (br_f f3 (nm_r f4 ⟨f5, nm_r f6 (br_f f7 (br_t f8 ⟨f9, nm_r f10 ⟨f9, nm_r f11 ⟨f5, nm_r f12 ⟨f5, nm_r f13 (br_f (by rw [hk]; decide) (br_f (by rw [hk]; decide) (br_f (by rw [hk]; decide) (br_t (by rw [hk]; decide) (br_f (by rw [hk]; decide) (br_f (by rw [hk]; decide) (br_f (by rw [hk]; decide) (br_f (by rw [hk]; decide) (br_f (by rw [hk]; decide) (br_f (by rw [hk]; decide) (br_t hk (br_f (by decide) (br_t rfl ⟨f5, nm_r (by rw [fc]) ⟨f5, nm_r (by rw [fc]) ⟨f5, nm_r (by rw [fc]) (am_yend hn hp (nI_1 p) (am_ypush (t := stk.length + 1) (by omega) rfl (am_yO (h m cur gVar gPar gK gV gPos gEnv (upd hP (stk.length + 1) (nI (am_eN tk n (p + 1)))) (upd hE (stk.length + 1) e) (upd (upd hS stk.length 2) (stk.length + 1) 0) (upd (upd hK stk.length rk) (stk.length + 1) 0) (upd (upd hV stk.length rv) (stk.length + 1) 0) (by omega) (by omega) h3 (am_fy_push (am_fy_kv h4)) h5))))⟩⟩⟩)))))))))))))⟩⟩⟩⟩))⟩))))
theorem am_yr_hold2 (hn : n ≤ 32) (hA : mA ≤ 16) (H : am_H n mC mA s e p stk) (hk : am_bin (tk p)) (h : am_LY post n tk ta mC mA ph sols fails lK lV lL lA ov lB b L0 a ((am_eN tk n (p + 1), e, 0, 0, 0) :: (p, e, 2, rk, rv) :: stk) rk rv s) : am_LY post n tk ta mC mA ph sols fails lK lV lL lA ov lB b L0 (a + 1) ((p, e, 1, 0, 0) :: stk) rk rv s := by
  intro m cur gVar gPar gK gV gPos gEnv hP hE hS hK hV h1 h2 h3 h4 h5
  obtain ⟨m, rfl⟩ : ∃ m', m = m' + 1 := ⟨m - 1, by omega⟩
  have hl := H.2.2.2.1
  have hp := H.2.2.1
  obtain ⟨f1, f2, f3, f4, f5, f6, f7, f10, f11, f12, f13, f14, f15, fc⟩ := am_yfacts (tk := tk) (ta := ta) hn (Nat.le_of_lt hp) (by omega) h2 h4
  have f8 : nI p < nI n := nI_lt hp (by omega)
  have f9 : vp_in (nI p) 32 := vp_in_nI (by omega) (by decide)
  have k0 : ¬ tk p = 0 := by rcases hk with q | q | q | q | q <;> rw [q] <;> decide
  have k1 : ¬ tk p = 1 := by rcases hk with q | q | q | q | q <;> rw [q] <;> decide
  have k2 : ¬ tk p < 2 := by rcases hk with q | q | q | q | q <;> rw [q] <;> decide
  have k6 : ¬ 6 < tk p := by rcases hk with q | q | q | q | q <;> rw [q] <;> decide
  rw [wY_runPath_46]
  exact br_t rfl (br_f f1 (nm_r f2 (br_f f3 (nm_r f4 ⟨f5, nm_r f6 (br_f f7 (br_t f8 ⟨f9, nm_r f10 ⟨f9, nm_r f11 ⟨f5, nm_r f12 ⟨f5, nm_r f13 (br_f k0 (br_f k1 (br_f k2 (br_f k6 (br_f (by decide) (br_t rfl ⟨f5, nm_r (by rw [fc]) ⟨f5, nm_r (by rw [fc]) ⟨f5, nm_r (by rw [fc]) (am_yend hn hp (nI_1 p) (am_ypush (t := stk.length + 1) (by omega) rfl (am_yO (h m cur gVar gPar gK gV gPos gEnv (upd hP (stk.length + 1) (nI (am_eN tk n (p + 1)))) (upd hE (stk.length + 1) e) (upd (upd hS stk.length 2) (stk.length + 1) 0) (upd (upd hK stk.length rk) (stk.length + 1) 0) (upd (upd hV stk.length rv) (stk.length + 1) 0) (by omega) (by omega) h3 (am_fy_push (am_fy_kv h4)) h5))))⟩⟩⟩))))))⟩⟩⟩⟩))⟩))))
theorem am_yr_calc2 (hn : n ≤ 32) (hA : mA ≤ 16) (H : am_H n mC mA s e p stk) (hk : tk p = 2) (h : am_LY post n tk ta mC mA ph sols fails lK lV lL lA ov lB b L0 a stk 1 (am_op (tk p) v rv) s) : am_LY post n tk ta mC mA ph sols fails lK lV lL lA ov lB b L0 (a + 1) ((p, e, 2, 1, v) :: stk) 1 rv s := by
  intro m cur gVar gPar gK gV gPos gEnv hP hE hS hK hV h1 h2 h3 h4 h5
  obtain ⟨m, rfl⟩ : ∃ m', m = m' + 1 := ⟨m - 1, by omega⟩
  have hl := H.2.2.2.1
  have hp := H.2.2.1
  obtain ⟨f1, f2, f3, f4, f5, f6, f7, f10, f11, f12, f13, f14, f15, fc⟩ := am_yfacts (tk := tk) (ta := ta) hn (Nat.le_of_lt hp) (by omega) h2 h4
  have f8 : nI p < nI n := nI_lt hp (by omega)
  have f9 : vp_in (nI p) 32 := vp_in_nI (by omega) (by decide)
  have eo : am_op (tk p) v rv = v + rv := by rw [hk]; rfl
  rw [wY_runPath_46]
  exact br_t rfl (br_f f1 (nm_r f2 (br_f f3 (nm_r f4 ⟨f5, nm_r f6 (br_f f7 (br_t f8 ⟨f9, nm_r f10 ⟨f9, nm_r f11 ⟨f5, nm_r f12 ⟨f5, nm_r f13 (br_f (by rw [hk]; decide) (br_f (by rw [hk]; decide) (br_f (by rw [hk]; decide) (br_f (by rw [hk]; decide) (br_f (by decide) (br_f (by decide) ⟨f5, br_t f14 (br_t rfl ⟨f5, nm_r f15 (br_t hk (nm_r eo.symm (nm_r f4 (am_yO (h m cur gVar gPar gK gV gPos gEnv hP hE hS hK hV (by omega) (by omega) h3 (am_fy_tl h4) h5)))))⟩)⟩))))))⟩⟩⟩⟩))⟩))))
theorem am_yr_calc3 (hn : n ≤ 32) (hA : mA ≤ 16) (H : am_H n mC mA s e p stk) (hk : tk p = 3) (h : am_LY post n tk ta mC mA ph sols fails lK lV lL lA ov lB b L0 a stk 1 (am_op (tk p) v rv) s) : am_LY post n tk ta mC mA ph sols fails lK lV lL lA ov lB b L0 (a + 1) ((p, e, 2, 1, v) :: stk) 1 rv s := by
  intro m cur gVar gPar gK gV gPos gEnv hP hE hS hK hV h1 h2 h3 h4 h5
  obtain ⟨m, rfl⟩ : ∃ m', m = m' + 1 := ⟨m - 1, by omega⟩
  have hl := H.2.2.2.1
  have hp := H.2.2.1
  obtain ⟨f1, f2, f3, f4, f5, f6, f7, f10, f11, f12, f13, f14, f15, fc⟩ := am_yfacts (tk := tk) (ta := ta) hn (Nat.le_of_lt hp) (by omega) h2 h4
  have f8 : nI p < nI n := nI_lt hp (by omega)
  have f9 : vp_in (nI p) 32 := vp_in_nI (by omega) (by decide)
  have eo : am_op (tk p) v rv = v - rv := by rw [hk]; rfl
  rw [wY_runPath_46]
  exact br_t rfl (br_f f1 (nm_r f2 (br_f f3 (nm_r f4 ⟨f5, nm_r f6 (br_f f7 (br_t f8 ⟨f9, nm_r f10 ⟨f9, nm_r f11 ⟨f5, nm_r f12 ⟨f5, nm_r f13 (br_f (by rw [hk]; decide) (br_f (by rw [hk]; decide) (br_f (by rw [hk]; decide) (br_f (by rw [hk]; decide) (br_f (by decide) (br_f (by decide) ⟨f5, br_t f14 (br_t rfl ⟨f5, nm_r f15 (br_f (by rw [hk]; decide) (br_t hk (nm_r eo.symm (nm_r f4 (am_yO (h m cur gVar gPar gK gV gPos gEnv hP hE hS hK hV (by omega) (by omega) h3 (am_fy_tl h4) h5))))))⟩)⟩))))))⟩⟩⟩⟩))⟩))))
theorem am_yr_calc4 (hn : n ≤ 32) (hA : mA ≤ 16) (H : am_H n mC mA s e p stk) (hk : tk p = 4) (h : am_LY post n tk ta mC mA ph sols fails lK lV lL lA ov lB b L0 a stk 1 (am_op (tk p) v rv) s) : am_LY post n tk ta mC mA ph sols fails lK lV lL lA ov lB b L0 (a + 1) ((p, e, 2, 1, v) :: stk) 1 rv s := by
  intro m cur gVar gPar gK gV gPos gEnv hP hE hS hK hV h1 h2 h3 h4 h5
  obtain ⟨m, rfl⟩ : ∃ m', m = m' + 1 := ⟨m - 1, by omega⟩
  have hl := H.2.2.2.1
  have hp := H.2.2.1
  obtain ⟨f1, f2, f3, f4, f5, f6, f7, f10, f11, f12, f13, f14, f15, fc⟩ := am_yfacts (tk := tk) (ta := ta) hn (Nat.le_of_lt hp) (by omega) h2 h4
  have f8 : nI p < nI n := nI_lt hp (by omega)
  have f9 : vp_in (nI p) 32 := vp_in_nI (by omega) (by decide)
  have eo : am_op (tk p) v rv = v * rv := by rw [hk]; rfl
  rw [wY_runPath_46]
  exact br_t rfl (br_f f1 (nm_r f2 (br_f f3 (nm_r f4 ⟨f5, nm_r f6 (br_f f7 (br_t f8 ⟨f9, nm_r f10 ⟨f9, nm_r f11 ⟨f5, nm_r f12 ⟨f5, nm_r f13 (br_f (by rw [hk]; decide) (br_f (by rw [hk]; decide) (br_f (by rw [hk]; decide) (br_f (by rw [hk]; decide) (br_f (by decide) (br_f (by decide) ⟨f5, br_t f14 (br_t rfl ⟨f5, nm_r f15 (br_f (by rw [hk]; decide) (br_f (by rw [hk]; decide) (br_t hk (nm_r eo.symm (nm_r f4 (am_yO (h m cur gVar gPar gK gV gPos gEnv hP hE hS hK hV (by omega) (by omega) h3 (am_fy_tl h4) h5)))))))⟩)⟩))))))⟩⟩⟩⟩))⟩))))
theorem am_yr_calc5 (hn : n ≤ 32) (hA : mA ≤ 16) (H : am_H n mC mA s e p stk) (hk : tk p = 5) (h : am_LY post n tk ta mC mA ph sols fails lK lV lL lA ov lB b L0 a stk 1 (am_op (tk p) v rv) s) : am_LY post n tk ta mC mA ph sols fails lK lV lL lA ov lB b L0 (a + 1) ((p, e, 2, 1, v) :: stk) 1 rv s := by
  intro m cur gVar gPar gK gV gPos gEnv hP hE hS hK hV h1 h2 h3 h4 h5
  obtain ⟨m, rfl⟩ : ∃ m', m = m' + 1 := ⟨m - 1, by omega⟩
  have hl := H.2.2.2.1
  have hp := H.2.2.1
  obtain ⟨f1, f2, f3, f4, f5, f6, f7, f10, f11, f12, f13, f14, f15, fc⟩ := am_yfacts (tk := tk) (ta := ta) hn (Nat.le_of_lt hp) (by omega) h2 h4
  have f8 : nI p < nI n := nI_lt hp (by omega)
  have f9 : vp_in (nI p) 32 := vp_in_nI (by omega) (by decide)
  have eo : am_op (tk p) v rv = if v < rv then 1 else 0 := by rw [hk]; rfl
  rw [wY_runPath_46]
  exact br_t rfl (br_f f1 (nm_r f2 (br_f f3 (nm_r f4 ⟨f5, nm_r f6 (br_f f7 (br_t f8 ⟨f9, nm_r f10 ⟨f9, nm_r f11 ⟨f5, nm_r f12 ⟨f5, nm_r f13 (br_f (by rw [hk]; decide) (br_f (by rw [hk]; decide) (br_f (by rw [hk]; decide) (br_f (by rw [hk]; decide) (br_f (by decide) (br_f (by decide) ⟨f5, br_t f14 (br_t rfl ⟨f5, nm_r f15 (br_f (by rw [hk]; decide) (br_f (by rw [hk]; decide) (br_f (by rw [hk]; decide) (br_t hk (br_c (fun q => by rw [eo, if_neg (Int32.not_lt.mpr q)] at h; exact nm_r f4 (am_yO (h m cur gVar gPar gK gV gPos gEnv hP hE hS hK hV (by omega) (by omega) h3 (am_fy_tl h4) h5))) (fun q => by rw [eo, if_pos (Int32.not_le.mp q)] at h; exact nm_r f4 (am_yO (h m cur gVar gPar gK gV gPos gEnv hP hE hS hK hV (by omega) (by omega) h3 (am_fy_tl h4) h5))))))))⟩)⟩))))))⟩⟩⟩⟩))⟩))))
theorem am_yr_calc6 (hn : n ≤ 32) (hA : mA ≤ 16) (H : am_H n mC mA s e p stk) (hk : tk p = 6) (h : am_LY post n tk ta mC mA ph sols fails lK lV lL lA ov lB b L0 a stk 1 (am_op (tk p) v rv) s) : am_LY post n tk ta mC mA ph sols fails lK lV lL lA ov lB b L0 (a + 1) ((p, e, 2, 1, v) :: stk) 1 rv s := by
  intro m cur gVar gPar gK gV gPos gEnv hP hE hS hK hV h1 h2 h3 h4 h5
  obtain ⟨m, rfl⟩ : ∃ m', m = m' + 1 := ⟨m - 1, by omega⟩
  have hl := H.2.2.2.1
  have hp := H.2.2.1
  obtain ⟨f1, f2, f3, f4, f5, f6, f7, f10, f11, f12, f13, f14, f15, fc⟩ := am_yfacts (tk := tk) (ta := ta) hn (Nat.le_of_lt hp) (by omega) h2 h4
  have f8 : nI p < nI n := nI_lt hp (by omega)
  have f9 : vp_in (nI p) 32 := vp_in_nI (by omega) (by decide)
  have eo : am_op (tk p) v rv = if v = rv then 1 else 0 := by rw [hk]; rfl
  rw [wY_runPath_46]
  exact br_t rfl (br_f f1 (nm_r f2 (br_f f3 (nm_r f4 ⟨f5, nm_r f6 (br_f f7 (br_t f8 ⟨f9, nm_r f10 ⟨f9, nm_r f11 ⟨f5, nm_r f12 ⟨f5, nm_r f13 (br_f (by rw [hk]; decide) (br_f (by rw [hk]; decide) (br_f (by rw [hk]; decide) (br_f (by rw [hk]; decide) (br_f (by decide) (br_f (by decide) ⟨f5, br_t f14 (br_t rfl ⟨f5, nm_r f15 (br_f (by rw [hk]; decide) (br_f (by rw [hk]; decide) (br_f (by rw [hk]; decide) (br_f (by rw [hk]; decide) (br_c (fun q => by rw [eo, if_pos q] at h; exact nm_r f4 (am_yO (h m cur gVar gPar gK gV gPos gEnv hP hE hS hK hV (by omega) (by omega) h3 (am_fy_tl h4) h5))) (fun q => by rw [eo, if_neg q] at h; exact nm_r f4 (am_yO (h m cur gVar gPar gK gV gPos gEnv hP hE hS hK hV (by omega) (by omega) h3 (am_fy_tl h4) h5))))))))⟩)⟩))))))⟩⟩⟩⟩))⟩))))
theorem am_yr_calcF (hn : n ≤ 32) (hA : mA ≤ 16) (H : am_H n mC mA s e p stk) (hk : am_bin (tk p)) (hno : ¬ (k = 1 ∧ rk = 1)) (hq : am_QY post n tk ta mC mA ph sols fails lK lV lL lA ov lB b L0 s) : am_LY post n tk ta mC mA ph sols fails lK lV lL lA ov lB b L0 (a + 1) ((p, e, 2, k, v) :: stk) rk rv s := by
  intro m cur gVar gPar gK gV gPos gEnv hP hE hS hK hV h1 h2 h3 h4 h5
  obtain ⟨m, rfl⟩ : ∃ m', m = m' + 1 := ⟨m - 1, by omega⟩
  have hl := H.2.2.2.1
  have hp := H.2.2.1
  obtain ⟨f1, f2, f3, f4, f5, f6, f7, f10, f11, f12, f13, f14, f15, fc⟩ := am_yfacts (tk := tk) (ta := ta) hn (Nat.le_of_lt hp) (by omega) h2 h4
  have f8 : nI p < nI n := nI_lt hp (by omega)
  have f9 : vp_in (nI p) 32 := vp_in_nI (by omega) (by decide)
  have k0 : ¬ tk p = 0 := by rcases hk with q | q | q | q | q <;> rw [q] <;> decide
  have k1 : ¬ tk p = 1 := by rcases hk with q | q | q | q | q <;> rw [q] <;> decide
  have k2 : ¬ tk p < 2 := by rcases hk with q | q | q | q | q <;> rw [q] <;> decide
  have k6 : ¬ 6 < tk p := by rcases hk with q | q | q | q | q <;> rw [q] <;> decide
  rw [wY_runPath_46]
  exact br_t rfl (br_f f1 (nm_r f2 (br_f f3 (nm_r f4 ⟨f5, nm_r f6 (br_f f7 (br_t f8 ⟨f9, nm_r f10 ⟨f9, nm_r f11 ⟨f5, nm_r f12 ⟨f5, nm_r f13 (br_f k0 (br_f k1 (br_f k2 (br_f k6 (br_f (by decide) (br_f (by decide) ⟨f5, br_c (fun q1 => br_f (fun q2 => hno ⟨f14.symm.trans q1, q2⟩) (am_yF (hq _ _ _ _ _ _ cur gVar gPar gK gV gPos gEnv hP hE hS hK hV h5))) (fun _ => am_yF (hq _ _ _ _ _ _ cur gVar gPar gK gV gPos gEnv hP hE hS hK hV h5))⟩))))))⟩⟩⟩⟩))⟩))))
theorem am_yr_if (hn : n ≤ 32) (hA : mA ≤ 16) (H : am_H n mC mA s e p stk) (hk : tk p = 7) (h : am_LY post n tk ta mC mA ph sols fails lK lV lL lA ov lB b L0 a ((am_q7 n tk p rv, e, 0, 0, 0) :: (p, e, 2, 0, 0) :: stk) 1 rv s) : am_LY post n tk ta mC mA ph sols fails lK lV lL lA ov lB b L0 (a + 1) ((p, e, 1, 0, 0) :: stk) 1 rv s := by
  intro m cur gVar gPar gK gV gPos gEnv hP hE hS hK hV h1 h2 h3 h4 h5
  obtain ⟨m, rfl⟩ : ∃ m', m = m' + 1 := ⟨m - 1, by omega⟩
  have hl := H.2.2.2.1
  have hp := H.2.2.1
  obtain ⟨f1, f2, f3, f4, f5, f6, f7, f10, f11, f12, f13, f14, f15, fc⟩ := am_yfacts (tk := tk) (ta := ta) hn (Nat.le_of_lt hp) (by omega) h2 h4
  have f8 : nI p < nI n := nI_lt hp (by omega)
  have f9 : vp_in (nI p) 32 := vp_in_nI (by omega) (by decide)
  rw [wY_runPath_46]
  exact br_t rfl (br_f f1 (nm_r f2 (br_f f3 (nm_r f4 ⟨f5, nm_r f6 (br_f f7 (br_t f8 ⟨f9, nm_r f10 ⟨f9, nm_r f11 ⟨f5, nm_r f12 ⟨f5, nm_r f13 (br_f (by rw [hk]; decide) (br_f (by rw [hk]; decide) (br_f (by rw [hk]; decide) (br_t (by rw [hk]; decide) (br_t hk (br_f (by decide) (br_t rfl (br_t rfl (am_yend hn hp (nI_1 p) (br_c (fun q => am_yend hn (am_eN_le hp) rfl (by unfold am_q7 at h; rw [if_pos q] at h; exact ⟨f5, nm_r (by rw [fc]) (am_ypush (t := stk.length + 1) (by omega) rfl (am_yO (h m cur gVar gPar gK gV gPos gEnv (upd hP (stk.length + 1) (nI (am_eN tk n (am_eN tk n (p + 1))))) (upd hE (stk.length + 1) e) (upd (upd hS stk.length 2) (stk.length + 1) 0) (upd hK (stk.length + 1) 0) (upd hV (stk.length + 1) 0) (by omega) (by omega) h3 (am_fy_push (am_fy_st h4)) h5)))⟩)) (fun q => by unfold am_q7 at h; rw [if_neg q] at h; exact ⟨f5, nm_r (by rw [fc]) (am_ypush (t := stk.length + 1) (by omega) rfl (am_yO (h m cur gVar gPar gK gV gPos gEnv (upd hP (stk.length + 1) (nI (am_eN tk n (p + 1)))) (upd hE (stk.length + 1) e) (upd (upd hS stk.length 2) (stk.length + 1) 0) (upd hK (stk.length + 1) 0) (upd hV (stk.length + 1) 0) (by omega) (by omega) h3 (am_fy_push (am_fy_st h4)) h5)))⟩)))))))))))⟩⟩⟩⟩))⟩))))
theorem am_yr_ifF (hn : n ≤ 32) (hA : mA ≤ 16) (H : am_H n mC mA s e p stk) (hk : tk p = 7) (hno : ¬ rk = 1) (hq : am_QY post n tk ta mC mA ph sols fails lK lV lL lA ov lB b L0 s) : am_LY post n tk ta mC mA ph sols fails lK lV lL lA ov lB b L0 (a + 1) ((p, e, 1, 0, 0) :: stk) rk rv s := by
  intro m cur gVar gPar gK gV gPos gEnv hP hE hS hK hV h1 h2 h3 h4 h5
  obtain ⟨m, rfl⟩ : ∃ m', m = m' + 1 := ⟨m - 1, by omega⟩
  have hl := H.2.2.2.1
  have hp := H.2.2.1
  obtain ⟨f1, f2, f3, f4, f5, f6, f7, f10, f11, f12, f13, f14, f15, fc⟩ := am_yfacts (tk := tk) (ta := ta) hn (Nat.le_of_lt hp) (by omega) h2 h4
  have f8 : nI p < nI n := nI_lt hp (by omega)
  have f9 : vp_in (nI p) 32 := vp_in_nI (by omega) (by decide)
  rw [wY_runPath_46]
  exact br_t rfl (br_f f1 (nm_r f2 (br_f f3 (nm_r f4 ⟨f5, nm_r f6 (br_f f7 (br_t f8 ⟨f9, nm_r f10 ⟨f9, nm_r f11 ⟨f5, nm_r f12 ⟨f5, nm_r f13 (br_f (by rw [hk]; decide) (br_f (by rw [hk]; decide) (br_f (by rw [hk]; decide) (br_t (by rw [hk]; decide) (br_t hk (br_f (by decide) (br_t rfl (br_f hno (am_yF (hq _ _ _ _ _ _ cur gVar gPar gK gV gPos gEnv hP hE hS hK hV h5))))))))))⟩⟩⟩⟩))⟩))))
theorem am_yr_req (hn : n ≤ 32) (hA : mA ≤ 16) (H : am_H n mC mA s e p stk) (hk : tk p = 10) (hv : ¬ rv = 0) (h : am_LY post n tk ta mC mA ph sols fails lK lV lL lA ov lB b L0 a ((am_eN tk n (p + 1), e, 0, 0, 0) :: (p, e, 2, 0, 0) :: stk) 1 rv s) : am_LY post n tk ta mC mA ph sols fails lK lV lL lA ov lB b L0 (a + 1) ((p, e, 1, 0, 0) :: stk) 1 rv s := by
  intro m cur gVar gPar gK gV gPos gEnv hP hE hS hK hV h1 h2 h3 h4 h5
  obtain ⟨m, rfl⟩ : ∃ m', m = m' + 1 := ⟨m - 1, by omega⟩
  have hl := H.2.2.2.1
  have hp := H.2.2.1
  obtain ⟨f1, f2, f3, f4, f5, f6, f7, f10, f11, f12, f13, f14, f15, fc⟩ := am_yfacts (tk := tk) (ta := ta) hn (Nat.le_of_lt hp) (by omega) h2 h4
  have f8 : nI p < nI n := nI_lt hp (by omega)
  have f9 : vp_in (nI p) 32 := vp_in_nI (by omega) (by decide)
  rw [wY_runPath_46]
  exact br_t rfl (br_f f1 (nm_r f2 (br_f f3 (nm_r f4 ⟨f5, nm_r f6 (br_f f7 (br_t f8 ⟨f9, nm_r f10 ⟨f9, nm_r f11 ⟨f5, nm_r f12 ⟨f5, nm_r f13 (br_f (by rw [hk]; decide) (br_f (by rw [hk]; decide) (br_f (by rw [hk]; decide) (br_t (by rw [hk]; decide) (br_f (by rw [hk]; decide) (br_f (by rw [hk]; decide) (br_f (by rw [hk]; decide) (br_t hk (br_f (by decide) (br_t rfl (br_t rfl (br_f hv (am_yend hn hp (nI_1 p) ⟨f5, nm_r (by rw [fc]) (am_ypush (t := stk.length + 1) (by omega) rfl (am_yO (h m cur gVar gPar gK gV gPos gEnv (upd hP (stk.length + 1) (nI (am_eN tk n (p + 1)))) (upd hE (stk.length + 1) e) (upd (upd hS stk.length 2) (stk.length + 1) 0) (upd hK (stk.length + 1) 0) (upd hV (stk.length + 1) 0) (by omega) (by omega) h3 (am_fy_push (am_fy_st h4)) h5)))⟩)))))))))))))⟩⟩⟩⟩))⟩))))
theorem am_yr_reqF (hn : n ≤ 32) (hA : mA ≤ 16) (H : am_H n mC mA s e p stk) (hk : tk p = 10) (hno : ¬ (rk = 1 ∧ ¬ rv = 0)) (hq : am_QY post n tk ta mC mA ph sols fails lK lV lL lA ov lB b L0 s) : am_LY post n tk ta mC mA ph sols fails lK lV lL lA ov lB b L0 (a + 1) ((p, e, 1, 0, 0) :: stk) rk rv s := by
  intro m cur gVar gPar gK gV gPos gEnv hP hE hS hK hV h1 h2 h3 h4 h5
  obtain ⟨m, rfl⟩ : ∃ m', m = m' + 1 := ⟨m - 1, by omega⟩
  have hl := H.2.2.2.1
  have hp := H.2.2.1
  obtain ⟨f1, f2, f3, f4, f5, f6, f7, f10, f11, f12, f13, f14, f15, fc⟩ := am_yfacts (tk := tk) (ta := ta) hn (Nat.le_of_lt hp) (by omega) h2 h4
  have f8 : nI p < nI n := nI_lt hp (by omega)
  have f9 : vp_in (nI p) 32 := vp_in_nI (by omega) (by decide)
  rw [wY_runPath_46]
  exact br_t rfl (br_f f1 (nm_r f2 (br_f f3 (nm_r f4 ⟨f5, nm_r f6 (br_f f7 (br_t f8 ⟨f9, nm_r f10 ⟨f9, nm_r f11 ⟨f5, nm_r f12 ⟨f5, nm_r f13 (br_f (by rw [hk]; decide) (br_f (by rw [hk]; decide) (br_f (by rw [hk]; decide) (br_t (by rw [hk]; decide) (br_f (by rw [hk]; decide) (br_f (by rw [hk]; decide) (br_f (by rw [hk]; decide) (br_t hk (br_f (by decide) (br_t rfl (br_c (fun q => br_c (fun _ => am_yF (hq _ _ _ _ _ _ cur gVar gPar gK gV gPos gEnv hP hE hS hK hV h5)) (fun q2 => absurd ⟨q, q2⟩ hno)) (fun _ => am_yF (hq _ _ _ _ _ _ cur gVar gPar gK gV gPos gEnv hP hE hS hK hV h5)))))))))))))⟩⟩⟩⟩))⟩))))
theorem am_yr_let (hn : n ≤ 32) (hA : mA ≤ 16) (H : am_H n mC mA s e p stk) (hk : tk p = 11) (ha : am_al s < mA) (h : am_LY post n tk ta mC mA ph sols fails lK lV lL lA ov lB b L0 a ((am_eN tk n (p + 1), nI (am_nf s), 0, 0, 0) :: (p, e, 2, 0, 0) :: stk) rk rv (am_nl (ta p) e rk rv s)) : am_LY post n tk ta mC mA ph sols fails lK lV lL lA ov lB b L0 (a + 1) ((p, e, 1, 0, 0) :: stk) rk rv s := by
  intro m cur gVar gPar gK gV gPos gEnv hP hE hS hK hV h1 h2 h3 h4 h5
  obtain ⟨m, rfl⟩ : ∃ m', m = m' + 1 := ⟨m - 1, by omega⟩
  have hl := H.2.2.2.1
  have hp := H.2.2.1
  obtain ⟨f1, f2, f3, f4, f5, f6, f7, f10, f11, f12, f13, f14, f15, fc⟩ := am_yfacts (tk := tk) (ta := ta) hn (Nat.le_of_lt hp) (by omega) h2 h4
  have f8 : nI p < nI n := nI_lt hp (by omega)
  have f9 : vp_in (nI p) 32 := vp_in_nI (by omega) (by decide)
  have an := am_al_nl (ta p) e rk rv s
  have nl : am_nf s < 16 := by unfold am_al at ha; omega
  have n16 : nI (am_nf s) < 16 := nI_lt (b := 16) nl (by decide)
  have vn : vp_in (nI (am_nf s)) 16 := vp_in_nI nl (by decide)
  have nn : (nI (am_nf s)).toNatClampNeg = am_nf s := nI_clamp (by omega)
  rw [wY_runPath_46]
  exact br_t rfl (br_f f1 (nm_r f2 (br_f f3 (nm_r f4 ⟨f5, nm_r f6 (br_f f7 (br_t f8 ⟨f9, nm_r f10 ⟨f9, nm_r f11 ⟨f5, nm_r f12 ⟨f5, nm_r f13 (br_f (by rw [hk]; decide) (br_f (by rw [hk]; decide) (br_f (by rw [hk]; decide) (br_t (by rw [hk]; decide) (br_f (by rw [hk]; decide) (br_f (by rw [hk]; decide) (br_f (by rw [hk]; decide) (br_f (by rw [hk]; decide) (br_t hk (br_f (by decide) (br_t rfl (am_yalT (am_al_nl (ta p) e rk rv s) ha hA (br_f (by decide) (br_t n16 ⟨vn, nm_r (by rw [nn]) ⟨vn, nm_r (by rw [nn]) ⟨vn, nm_r (by rw [nn]) ⟨vn, nm_r (by rw [nn]) (nm_r (nI_1 _) (am_yend hn hp (nI_1 p) ⟨f5, nm_r (by rw [fc]) (am_ypush (t := stk.length + 1) (by omega) rfl (am_yO (h m cur (upd gVar (am_nf s) (ta p)) (upd gPar (am_nf s) e) (upd gK (am_nf s) rk) (upd gV (am_nf s) rv) gPos gEnv (upd hP (stk.length + 1) (nI (am_eN tk n (p + 1)))) (upd hE (stk.length + 1) (nI (am_nf s))) (upd (upd hS stk.length 2) (stk.length + 1) 0) (upd hK (stk.length + 1) 0) (upd hV (stk.length + 1) 0) (by omega) (by omega) (am_sy_nl h3) (am_fy_push (am_fy_st h4)) h5)))⟩))⟩⟩⟩⟩))))))))))))))⟩⟩⟩⟩))⟩))))
theorem am_yr_letF (hn : n ≤ 32) (hA : mA ≤ 16) (H : am_H n mC mA s e p stk) (hk : tk p = 11) (ha : mA ≤ am_al s) (hq : am_QY post n tk ta mC mA ph sols fails lK lV lL lA ov lB b L0 s) : am_LY post n tk ta mC mA ph sols fails lK lV lL lA ov lB b L0 (a + 1) ((p, e, 1, 0, 0) :: stk) rk rv s := by
  intro m cur gVar gPar gK gV gPos gEnv hP hE hS hK hV h1 h2 h3 h4 h5
  obtain ⟨m, rfl⟩ : ∃ m', m = m' + 1 := ⟨m - 1, by omega⟩
  have hl := H.2.2.2.1
  have hp := H.2.2.1
  obtain ⟨f1, f2, f3, f4, f5, f6, f7, f10, f11, f12, f13, f14, f15, fc⟩ := am_yfacts (tk := tk) (ta := ta) hn (Nat.le_of_lt hp) (by omega) h2 h4
  have f8 : nI p < nI n := nI_lt hp (by omega)
  have f9 : vp_in (nI p) 32 := vp_in_nI (by omega) (by decide)
  rw [wY_runPath_46]
  exact br_t rfl (br_f f1 (nm_r f2 (br_f f3 (nm_r f4 ⟨f5, nm_r f6 (br_f f7 (br_t f8 ⟨f9, nm_r f10 ⟨f9, nm_r f11 ⟨f5, nm_r f12 ⟨f5, nm_r f13 (br_f (by rw [hk]; decide) (br_f (by rw [hk]; decide) (br_f (by rw [hk]; decide) (br_t (by rw [hk]; decide) (br_f (by rw [hk]; decide) (br_f (by rw [hk]; decide) (br_f (by rw [hk]; decide) (br_f (by rw [hk]; decide) (br_t hk (br_f (by decide) (br_t rfl (am_yalF ha (am_nf16 H.1 hA).2.2 (br_t rfl (am_yF (hq _ _ _ _ _ _ cur gVar gPar gK gV gPos gEnv hP hE hS hK hV h5)))))))))))))))⟩⟩⟩⟩))⟩))))
theorem am_yr_set (hn : n ≤ 32) (hA : mA ≤ 16) (H : am_H n mC mA s e p stk) (hk : tk p = 14) {f : Nat} (hf : f < am_nf s) (hlk : am_lk s (ta p) 17 e = nI f) (h : am_LY post n tk ta mC mA ph sols fails lK lV lL lA ov lB b L0 a stk rk rv (am_sl f rk rv s)) : am_LY post n tk ta mC mA ph sols fails lK lV lL lA ov lB b L0 (a + 1) ((p, e, 1, 0, 0) :: stk) rk rv s := by
  intro m cur gVar gPar gK gV gPos gEnv hP hE hS hK hV h1 h2 h3 h4 h5
  obtain ⟨m, rfl⟩ : ∃ m', m = m' + 1 := ⟨m - 1, by omega⟩
  have hl := H.2.2.2.1
  have hp := H.2.2.1
  obtain ⟨f1, f2, f3, f4, f5, f6, f7, f10, f11, f12, f13, f14, f15, fc⟩ := am_yfacts (tk := tk) (ta := ta) hn (Nat.le_of_lt hp) (by omega) h2 h4
  have f8 : nI p < nI n := nI_lt hp (by omega)
  have f9 : vp_in (nI p) 32 := vp_in_nI (by omega) (by decide)
  have hb := am_WF_f H.1 hA hf
  have vf : vp_in (nI f) 16 := vp_in_nI hb (by decide)
  have ff : (nI f).toNatClampNeg = f := nI_clamp (by omega)
  have asl : am_al (am_sl f rk rv s) = am_al s := rfl
  rw [wY_runPath_46]
  exact br_t rfl (br_f f1 (nm_r f2 (br_f f3 (nm_r f4 ⟨f5, nm_r f6 (br_f f7 (br_t f8 ⟨f9, nm_r f10 ⟨f9, nm_r f11 ⟨f5, nm_r f12 ⟨f5, nm_r f13 (br_f (by rw [hk]; decide) (br_f (by rw [hk]; decide) (br_f (by rw [hk]; decide) (br_t (by rw [hk]; decide) (br_f (by rw [hk]; decide) (br_f (by rw [hk]; decide) (br_f (by rw [hk]; decide) (br_f (by rw [hk]; decide) (br_f (by rw [hk]; decide) (br_f (by rw [hk]; decide) (br_f (by rw [hk]; decide) (br_t hk (br_f (by decide) (am_ylk H.1 hA h3 H.2.1 hlk (br_t (nI_pos' (by omega)) ⟨vf, nm_r (by rw [ff]) ⟨vf, nm_r (by rw [ff]) (nm_r f4 (am_yO (h m cur gVar gPar (upd gK f rk) (upd gV f rv) gPos gEnv hP hE hS hK hV (by omega) (by omega) (am_sy_sl h3) (am_fy_tl h4) h5)))⟩⟩)))))))))))))))⟩⟩⟩⟩))⟩))))
theorem am_yr_setF (hn : n ≤ 32) (hA : mA ≤ 16) (H : am_H n mC mA s e p stk) (hk : tk p = 14) (hlk : am_lk s (ta p) 17 e = -1) (hq : am_QY post n tk ta mC mA ph sols fails lK lV lL lA ov lB b L0 s) : am_LY post n tk ta mC mA ph sols fails lK lV lL lA ov lB b L0 (a + 1) ((p, e, 1, 0, 0) :: stk) rk rv s := by
  intro m cur gVar gPar gK gV gPos gEnv hP hE hS hK hV h1 h2 h3 h4 h5
  obtain ⟨m, rfl⟩ : ∃ m', m = m' + 1 := ⟨m - 1, by omega⟩
  have hl := H.2.2.2.1
  have hp := H.2.2.1
  obtain ⟨f1, f2, f3, f4, f5, f6, f7, f10, f11, f12, f13, f14, f15, fc⟩ := am_yfacts (tk := tk) (ta := ta) hn (Nat.le_of_lt hp) (by omega) h2 h4
  have f8 : nI p < nI n := nI_lt hp (by omega)
  have f9 : vp_in (nI p) 32 := vp_in_nI (by omega) (by decide)
  rw [wY_runPath_46]
  exact br_t rfl (br_f f1 (nm_r f2 (br_f f3 (nm_r f4 ⟨f5, nm_r f6 (br_f f7 (br_t f8 ⟨f9, nm_r f10 ⟨f9, nm_r f11 ⟨f5, nm_r f12 ⟨f5, nm_r f13 (br_f (by rw [hk]; decide) (br_f (by rw [hk]; decide) (br_f (by rw [hk]; decide) (br_t (by rw [hk]; decide) (br_f (by rw [hk]; decide) (br_f (by rw [hk]; decide) (br_f (by rw [hk]; decide) (br_f (by rw [hk]; decide) (br_f (by rw [hk]; decide) (br_f (by rw [hk]; decide) (br_f (by rw [hk]; decide) (br_t hk (br_f (by decide) (am_ylk H.1 hA h3 H.2.1 hlk (br_f (by decide) (am_yF (hq _ _ _ _ _ _ cur gVar gPar gK gV gPos gEnv hP hE hS hK hV h5)))))))))))))))))⟩⟩⟩⟩))⟩))))
theorem am_yr_seq (hn : n ≤ 32) (hA : mA ≤ 16) (H : am_H n mC mA s e p stk) (hk : tk p = 15) (h : am_LY post n tk ta mC mA ph sols fails lK lV lL lA ov lB b L0 a ((am_eN tk n (p + 1), e, 0, 0, 0) :: (p, e, 2, 0, 0) :: stk) rk rv s) : am_LY post n tk ta mC mA ph sols fails lK lV lL lA ov lB b L0 (a + 1) ((p, e, 1, 0, 0) :: stk) rk rv s := by
  intro m cur gVar gPar gK gV gPos gEnv hP hE hS hK hV h1 h2 h3 h4 h5
  obtain ⟨m, rfl⟩ : ∃ m', m = m' + 1 := ⟨m - 1, by omega⟩
  have hl := H.2.2.2.1
  have hp := H.2.2.1
  obtain ⟨f1, f2, f3, f4, f5, f6, f7, f10, f11, f12, f13, f14, f15, fc⟩ := am_yfacts (tk := tk) (ta := ta) hn (Nat.le_of_lt hp) (by omega) h2 h4
  have f8 : nI p < nI n := nI_lt hp (by omega)
  have f9 : vp_in (nI p) 32 := vp_in_nI (by omega) (by decide)
  rw [wY_runPath_46]
  exact br_t rfl (br_f f1 (nm_r f2 (br_f f3 (nm_r f4 ⟨f5, nm_r f6 (br_f f7 (br_t f8 ⟨f9, nm_r f10 ⟨f9, nm_r f11 ⟨f5, nm_r f12 ⟨f5, nm_r f13 (br_f (by rw [hk]; decide) (br_f (by rw [hk]; decide) (br_f (by rw [hk]; decide) (br_t (by rw [hk]; decide) (br_f (by rw [hk]; decide) (br_f (by rw [hk]; decide) (br_f (by rw [hk]; decide) (br_f (by rw [hk]; decide) (br_f (by rw [hk]; decide) (br_f (by rw [hk]; decide) (br_f (by rw [hk]; decide) (br_f (by rw [hk]; decide) (br_f (by decide) (br_t rfl (am_yend hn hp (nI_1 p) ⟨f5, nm_r (by rw [fc]) (am_ypush (t := stk.length + 1) (by omega) rfl (am_yO (h m cur gVar gPar gK gV gPos gEnv (upd hP (stk.length + 1) (nI (am_eN tk n (p + 1)))) (upd hE (stk.length + 1) e) (upd (upd hS stk.length 2) (stk.length + 1) 0) (upd hK (stk.length + 1) 0) (upd hV (stk.length + 1) 0) (by omega) (by omega) h3 (am_fy_push (am_fy_st h4)) h5)))⟩)))))))))))))))⟩⟩⟩⟩))⟩))))
theorem am_yr_app (hn : n ≤ 32) (hA : mA ≤ 16) (H : am_H n mC mA s e p stk) (hk : tk p = 13) {c lp : Nat} (hc : c < am_nc s) (ha : am_al s < mA) (hlp : lp < n) (elp : am_cPos s c = nI lp) (h : am_LY post n tk ta mC mA ph sols fails lK lV lL lA ov lB b L0 (a + 127) ((lp + 1, nI (am_nf s), 0, 0, 0) :: (p, e, 3, 2, nI c) :: stk) rk rv (am_nl (ta lp) (am_cEnv s c) rk rv s)) : am_LY post n tk ta mC mA ph sols fails lK lV lL lA ov lB b L0 a ((p, e, 2, 2, nI c) :: stk) rk rv s := by
  intro m cur gVar gPar gK gV gPos gEnv hP hE hS hK hV h1 h2 h3 h4 h5
  obtain ⟨m, rfl⟩ : ∃ m', m = m' + 1 := ⟨m - 1, by have := (am_nf16 H.1 hA).2.2; omega⟩
  have hl := H.2.2.2.1
  have hp := H.2.2.1
  obtain ⟨f1, f2, f3, f4, f5, f6, f7, f10, f11, f12, f13, f14, f15, fc⟩ := am_yfacts (tk := tk) (ta := ta) hn (Nat.le_of_lt hp) (by omega) h2 h4
  have f8 : nI p < nI n := nI_lt hp (by omega)
  have f9 : vp_in (nI p) 32 := vp_in_nI (by omega) (by decide)
  have hcb := am_WF_c H.1 hA hc
  have cc : (nI c).toNatClampNeg = c := nI_clamp (by omega)
  have vc : vp_in (nI c) 16 := vp_in_nI hcb (by decide)
  have c0' : ¬ nI c < 0 := nI_pos (by omega)
  have c1' : ¬ nI (am_nc s) ≤ nI c := nI_ge hc (by have := (am_nf16 H.1 hA).2.1; omega)
  have c2' : nI c < 16 := nI_lt (b := 16) hcb (by decide)
  have an := am_al_nl (ta lp) (am_cEnv s c) rk rv s
  have nl : am_nf s < 16 := by unfold am_al at ha; omega
  have n16 : nI (am_nf s) < 16 := nI_lt (b := 16) nl (by decide)
  have vn : vp_in (nI (am_nf s)) 16 := vp_in_nI nl (by decide)
  have nn : (nI (am_nf s)).toNatClampNeg = am_nf s := nI_clamp (by omega)
  have ll : (nI lp).toNatClampNeg = lp := nI_clamp (by omega)
  have ecp : gPos (nI c).toNatClampNeg = nI lp := by rw [cc, (h3.2 c hc).1]; exact elp
  have ece : gEnv (nI c).toNatClampNeg = am_cEnv s c := by rw [cc]; exact (h3.2 c hc).2
  have vl : vp_in (nI lp) 32 := vp_in_nI (by omega) (by decide)
  have l0 : ¬ nI lp < 0 := nI_pos (by omega)
  have l32 : nI lp < 32 := nI_lt (b := 32) (by omega) (by decide)
  rw [wY_runPath_46]
  exact br_t rfl (br_f f1 (nm_r f2 (br_f f3 (nm_r f4 ⟨f5, nm_r f6 (br_f f7 (br_t f8 ⟨f9, nm_r f10 ⟨f9, nm_r f11 ⟨f5, nm_r f12 ⟨f5, nm_r f13 (br_f (by rw [hk]; decide) (br_f (by rw [hk]; decide) (br_f (by rw [hk]; decide) (br_t (by rw [hk]; decide) (br_f (by rw [hk]; decide) (br_f (by rw [hk]; decide) (br_f (by rw [hk]; decide) (br_f (by rw [hk]; decide) (br_f (by rw [hk]; decide) (br_f (by rw [hk]; decide) (br_t hk (br_f (by decide) (br_f (by decide) (br_t rfl ⟨f5, nm_r f15 ⟨f5, br_t f14 (br_f c0' (br_f c1' (br_t c2' (am_yalT (am_al_nl (ta lp) (am_cEnv s c) rk rv s) ha hA (br_f (by decide) (br_t n16 ⟨vc, nm_r ecp (br_f l0 (br_t l32 ⟨vl, vn, nm_r (by rw [nn, ll]) ⟨vc, vn, nm_r (by rw [nn, ece]) ⟨vn, nm_r (by rw [nn]) ⟨vn, nm_r (by rw [nn]) (nm_r (nI_1 _) ⟨f5, nm_r (by rw [fc]) (am_ypush (t := stk.length + 1) (by omega) (nI_1 lp) (am_yO (h m cur (upd gVar (am_nf s) (ta lp)) (upd gPar (am_nf s) (am_cEnv s c)) (upd gK (am_nf s) rk) (upd gV (am_nf s) rv) gPos gEnv (upd hP (stk.length + 1) (nI (lp + 1))) (upd hE (stk.length + 1) (nI (am_nf s))) (upd (upd hS stk.length 3) (stk.length + 1) 0) (upd hK (stk.length + 1) 0) (upd hV (stk.length + 1) 0) (by omega) (by omega) (am_sy_nl h3) (am_fy_push (am_fy_st h4)) h5)))⟩)⟩⟩⟩⟩))⟩))))))⟩⟩))))))))))))))⟩⟩⟩⟩))⟩))))
theorem am_yr_appF1 (hn : n ≤ 32) (hA : mA ≤ 16) (H : am_H n mC mA s e p stk) (hk : tk p = 13) (hno : ¬ k = 2) (hq : am_QY post n tk ta mC mA ph sols fails lK lV lL lA ov lB b L0 s) : am_LY post n tk ta mC mA ph sols fails lK lV lL lA ov lB b L0 (a + 1) ((p, e, 2, k, v) :: stk) rk rv s := by
  intro m cur gVar gPar gK gV gPos gEnv hP hE hS hK hV h1 h2 h3 h4 h5
  obtain ⟨m, rfl⟩ : ∃ m', m = m' + 1 := ⟨m - 1, by omega⟩
  have hl := H.2.2.2.1
  have hp := H.2.2.1
  obtain ⟨f1, f2, f3, f4, f5, f6, f7, f10, f11, f12, f13, f14, f15, fc⟩ := am_yfacts (tk := tk) (ta := ta) hn (Nat.le_of_lt hp) (by omega) h2 h4
  have f8 : nI p < nI n := nI_lt hp (by omega)
  have f9 : vp_in (nI p) 32 := vp_in_nI (by omega) (by decide)
  rw [wY_runPath_46]
  exact br_t rfl (br_f f1 (nm_r f2 (br_f f3 (nm_r f4 ⟨f5, nm_r f6 (br_f f7 (br_t f8 ⟨f9, nm_r f10 ⟨f9, nm_r f11 ⟨f5, nm_r f12 ⟨f5, nm_r f13 (br_f (by rw [hk]; decide) (br_f (by rw [hk]; decide) (br_f (by rw [hk]; decide) (br_t (by rw [hk]; decide) (br_f (by rw [hk]; decide) (br_f (by rw [hk]; decide) (br_f (by rw [hk]; decide) (br_f (by rw [hk]; decide) (br_f (by rw [hk]; decide) (br_f (by rw [hk]; decide) (br_t hk (br_f (by decide) (br_f (by decide) (br_t rfl ⟨f5, nm_r f15 ⟨f5, br_f (fun q => hno (f14.symm.trans q)) (am_yF (hq _ _ _ _ _ _ cur gVar gPar gK gV gPos gEnv hP hE hS hK hV h5))⟩⟩))))))))))))))⟩⟩⟩⟩))⟩))))
theorem am_yr_appF2 (hn : n ≤ 32) (hA : mA ≤ 16) (H : am_H n mC mA s e p stk) (hk : tk p = 13) {c : Nat} (hc : c < am_nc s) (ha : mA ≤ am_al s) (hq : am_QY post n tk ta mC mA ph sols fails lK lV lL lA ov lB b L0 s) : am_LY post n tk ta mC mA ph sols fails lK lV lL lA ov lB b L0 (a + 1) ((p, e, 2, 2, nI c) :: stk) rk rv s := by
  intro m cur gVar gPar gK gV gPos gEnv hP hE hS hK hV h1 h2 h3 h4 h5
  obtain ⟨m, rfl⟩ : ∃ m', m = m' + 1 := ⟨m - 1, by omega⟩
  have hl := H.2.2.2.1
  have hp := H.2.2.1
  obtain ⟨f1, f2, f3, f4, f5, f6, f7, f10, f11, f12, f13, f14, f15, fc⟩ := am_yfacts (tk := tk) (ta := ta) hn (Nat.le_of_lt hp) (by omega) h2 h4
  have f8 : nI p < nI n := nI_lt hp (by omega)
  have f9 : vp_in (nI p) 32 := vp_in_nI (by omega) (by decide)
  have hcb := am_WF_c H.1 hA hc
  have cc : (nI c).toNatClampNeg = c := nI_clamp (by omega)
  have vc : vp_in (nI c) 16 := vp_in_nI hcb (by decide)
  have c0' : ¬ nI c < 0 := nI_pos (by omega)
  have c1' : ¬ nI (am_nc s) ≤ nI c := nI_ge hc (by have := (am_nf16 H.1 hA).2.1; omega)
  have c2' : nI c < 16 := nI_lt (b := 16) hcb (by decide)
  rw [wY_runPath_46]
  exact br_t rfl (br_f f1 (nm_r f2 (br_f f3 (nm_r f4 ⟨f5, nm_r f6 (br_f f7 (br_t f8 ⟨f9, nm_r f10 ⟨f9, nm_r f11 ⟨f5, nm_r f12 ⟨f5, nm_r f13 (br_f (by rw [hk]; decide) (br_f (by rw [hk]; decide) (br_f (by rw [hk]; decide) (br_t (by rw [hk]; decide) (br_f (by rw [hk]; decide) (br_f (by rw [hk]; decide) (br_f (by rw [hk]; decide) (br_f (by rw [hk]; decide) (br_f (by rw [hk]; decide) (br_f (by rw [hk]; decide) (br_t hk (br_f (by decide) (br_f (by decide) (br_t rfl ⟨f5, nm_r f15 ⟨f5, br_t f14 (br_f c0' (br_f c1' (br_t c2' (am_yalF ha (am_nf16 H.1 hA).2.2 (br_t rfl (am_yF (hq _ _ _ _ _ _ cur gVar gPar gK gV gPos gEnv hP hE hS hK hV h5)))))))⟩⟩))))))))))))))⟩⟩⟩⟩))⟩))))
theorem am_yr_pop7 (hn : n ≤ 32) (hA : mA ≤ 16) (H : am_H n mC mA s e p stk) (hk : tk p = 7) (h : am_LY post n tk ta mC mA ph sols fails lK lV lL lA ov lB b L0 a stk rk rv s) : am_LY post n tk ta mC mA ph sols fails lK lV lL lA ov lB b L0 (a + 1) ((p, e, 2, k, v) :: stk) rk rv s := by
  intro m cur gVar gPar gK gV gPos gEnv hP hE hS hK hV h1 h2 h3 h4 h5
  obtain ⟨m, rfl⟩ : ∃ m', m = m' + 1 := ⟨m - 1, by omega⟩
  have hl := H.2.2.2.1
  have hp := H.2.2.1
  obtain ⟨f1, f2, f3, f4, f5, f6, f7, f10, f11, f12, f13, f14, f15, fc⟩ := am_yfacts (tk := tk) (ta := ta) hn (Nat.le_of_lt hp) (by omega) h2 h4
  have f8 : nI p < nI n := nI_lt hp (by omega)
  have f9 : vp_in (nI p) 32 := vp_in_nI (by omega) (by decide)
  rw [wY_runPath_46]
  exact br_t rfl (br_f f1 (nm_r f2 (br_f f3 (nm_r f4 ⟨f5, nm_r f6 (br_f f7 (br_t f8 ⟨f9, nm_r f10 ⟨f9, nm_r f11 ⟨f5, nm_r f12 ⟨f5, nm_r f13 (br_f (by rw [hk]; decide) (br_f (by rw [hk]; decide) (br_f (by rw [hk]; decide) (br_t (by rw [hk]; decide) (br_t hk (br_f (by decide) (br_f (by decide) (nm_r f4 (am_yO (h m cur gVar gPar gK gV gPos gEnv hP hE hS hK hV (by omega) (by omega) h3 (am_fy_tl h4) h5))))))))))⟩⟩⟩⟩))⟩))))
theorem am_yr_pop8 (hn : n ≤ 32) (hA : mA ≤ 16) (H : am_H n mC mA s e p stk) (hk : tk p = 8) (h : am_LY post n tk ta mC mA ph sols fails lK lV lL lA ov lB b L0 a stk rk rv s) : am_LY post n tk ta mC mA ph sols fails lK lV lL lA ov lB b L0 (a + 1) ((p, e, 1, k, v) :: stk) rk rv s := by
  intro m cur gVar gPar gK gV gPos gEnv hP hE hS hK hV h1 h2 h3 h4 h5
  obtain ⟨m, rfl⟩ : ∃ m', m = m' + 1 := ⟨m - 1, by omega⟩
  have hl := H.2.2.2.1
  have hp := H.2.2.1
  obtain ⟨f1, f2, f3, f4, f5, f6, f7, f10, f11, f12, f13, f14, f15, fc⟩ := am_yfacts (tk := tk) (ta := ta) hn (Nat.le_of_lt hp) (by omega) h2 h4
  have f8 : nI p < nI n := nI_lt hp (by omega)
  have f9 : vp_in (nI p) 32 := vp_in_nI (by omega) (by decide)
  rw [wY_runPath_46]
  exact br_t rfl (br_f f1 (nm_r f2 (br_f f3 (nm_r f4 ⟨f5, nm_r f6 (br_f f7 (br_t f8 ⟨f9, nm_r f10 ⟨f9, nm_r f11 ⟨f5, nm_r f12 ⟨f5, nm_r f13 (br_f (by rw [hk]; decide) (br_f (by rw [hk]; decide) (br_f (by rw [hk]; decide) (br_t (by rw [hk]; decide) (br_f (by rw [hk]; decide) (br_t hk (br_f (by decide) (nm_r f4 (am_yO (h m cur gVar gPar gK gV gPos gEnv hP hE hS hK hV (by omega) (by omega) h3 (am_fy_tl h4) h5))))))))))⟩⟩⟩⟩))⟩))))
theorem am_yr_pop10 (hn : n ≤ 32) (hA : mA ≤ 16) (H : am_H n mC mA s e p stk) (hk : tk p = 10) (h : am_LY post n tk ta mC mA ph sols fails lK lV lL lA ov lB b L0 a stk rk rv s) : am_LY post n tk ta mC mA ph sols fails lK lV lL lA ov lB b L0 (a + 1) ((p, e, 2, k, v) :: stk) rk rv s := by
  intro m cur gVar gPar gK gV gPos gEnv hP hE hS hK hV h1 h2 h3 h4 h5
  obtain ⟨m, rfl⟩ : ∃ m', m = m' + 1 := ⟨m - 1, by omega⟩
  have hl := H.2.2.2.1
  have hp := H.2.2.1
  obtain ⟨f1, f2, f3, f4, f5, f6, f7, f10, f11, f12, f13, f14, f15, fc⟩ := am_yfacts (tk := tk) (ta := ta) hn (Nat.le_of_lt hp) (by omega) h2 h4
  have f8 : nI p < nI n := nI_lt hp (by omega)
  have f9 : vp_in (nI p) 32 := vp_in_nI (by omega) (by decide)
  rw [wY_runPath_46]
  exact br_t rfl (br_f f1 (nm_r f2 (br_f f3 (nm_r f4 ⟨f5, nm_r f6 (br_f f7 (br_t f8 ⟨f9, nm_r f10 ⟨f9, nm_r f11 ⟨f5, nm_r f12 ⟨f5, nm_r f13 (br_f (by rw [hk]; decide) (br_f (by rw [hk]; decide) (br_f (by rw [hk]; decide) (br_t (by rw [hk]; decide) (br_f (by rw [hk]; decide) (br_f (by rw [hk]; decide) (br_f (by rw [hk]; decide) (br_t hk (br_f (by decide) (br_f (by decide) (nm_r f4 (am_yO (h m cur gVar gPar gK gV gPos gEnv hP hE hS hK hV (by omega) (by omega) h3 (am_fy_tl h4) h5)))))))))))))⟩⟩⟩⟩))⟩))))
theorem am_yr_pop11 (hn : n ≤ 32) (hA : mA ≤ 16) (H : am_H n mC mA s e p stk) (hk : tk p = 11) (h : am_LY post n tk ta mC mA ph sols fails lK lV lL lA ov lB b L0 a stk rk rv s) : am_LY post n tk ta mC mA ph sols fails lK lV lL lA ov lB b L0 (a + 1) ((p, e, 2, k, v) :: stk) rk rv s := by
  intro m cur gVar gPar gK gV gPos gEnv hP hE hS hK hV h1 h2 h3 h4 h5
  obtain ⟨m, rfl⟩ : ∃ m', m = m' + 1 := ⟨m - 1, by omega⟩
  have hl := H.2.2.2.1
  have hp := H.2.2.1
  obtain ⟨f1, f2, f3, f4, f5, f6, f7, f10, f11, f12, f13, f14, f15, fc⟩ := am_yfacts (tk := tk) (ta := ta) hn (Nat.le_of_lt hp) (by omega) h2 h4
  have f8 : nI p < nI n := nI_lt hp (by omega)
  have f9 : vp_in (nI p) 32 := vp_in_nI (by omega) (by decide)
  rw [wY_runPath_46]
  exact br_t rfl (br_f f1 (nm_r f2 (br_f f3 (nm_r f4 ⟨f5, nm_r f6 (br_f f7 (br_t f8 ⟨f9, nm_r f10 ⟨f9, nm_r f11 ⟨f5, nm_r f12 ⟨f5, nm_r f13 (br_f (by rw [hk]; decide) (br_f (by rw [hk]; decide) (br_f (by rw [hk]; decide) (br_t (by rw [hk]; decide) (br_f (by rw [hk]; decide) (br_f (by rw [hk]; decide) (br_f (by rw [hk]; decide) (br_f (by rw [hk]; decide) (br_t hk (br_f (by decide) (br_f (by decide) (nm_r f4 (am_yO (h m cur gVar gPar gK gV gPos gEnv hP hE hS hK hV (by omega) (by omega) h3 (am_fy_tl h4) h5))))))))))))))⟩⟩⟩⟩))⟩))))
theorem am_yr_pop13 (hn : n ≤ 32) (hA : mA ≤ 16) (H : am_H n mC mA s e p stk) (hk : tk p = 13) (h : am_LY post n tk ta mC mA ph sols fails lK lV lL lA ov lB b L0 a stk rk rv s) : am_LY post n tk ta mC mA ph sols fails lK lV lL lA ov lB b L0 (a + 1) ((p, e, 3, k, v) :: stk) rk rv s := by
  intro m cur gVar gPar gK gV gPos gEnv hP hE hS hK hV h1 h2 h3 h4 h5
  obtain ⟨m, rfl⟩ : ∃ m', m = m' + 1 := ⟨m - 1, by omega⟩
  have hl := H.2.2.2.1
  have hp := H.2.2.1
  obtain ⟨f1, f2, f3, f4, f5, f6, f7, f10, f11, f12, f13, f14, f15, fc⟩ := am_yfacts (tk := tk) (ta := ta) hn (Nat.le_of_lt hp) (by omega) h2 h4
  have f8 : nI p < nI n := nI_lt hp (by omega)
  have f9 : vp_in (nI p) 32 := vp_in_nI (by omega) (by decide)
  rw [wY_runPath_46]
  exact br_t rfl (br_f f1 (nm_r f2 (br_f f3 (nm_r f4 ⟨f5, nm_r f6 (br_f f7 (br_t f8 ⟨f9, nm_r f10 ⟨f9, nm_r f11 ⟨f5, nm_r f12 ⟨f5, nm_r f13 (br_f (by rw [hk]; decide) (br_f (by rw [hk]; decide) (br_f (by rw [hk]; decide) (br_t (by rw [hk]; decide) (br_f (by rw [hk]; decide) (br_f (by rw [hk]; decide) (br_f (by rw [hk]; decide) (br_f (by rw [hk]; decide) (br_f (by rw [hk]; decide) (br_f (by rw [hk]; decide) (br_t hk (br_f (by decide) (br_f (by decide) (br_f (by decide) (nm_r f4 (am_yO (h m cur gVar gPar gK gV gPos gEnv hP hE hS hK hV (by omega) (by omega) h3 (am_fy_tl h4) h5)))))))))))))))))⟩⟩⟩⟩))⟩))))
theorem am_yr_pop15 (hn : n ≤ 32) (hA : mA ≤ 16) (H : am_H n mC mA s e p stk) (hk : tk p = 15) (h : am_LY post n tk ta mC mA ph sols fails lK lV lL lA ov lB b L0 a stk rk rv s) : am_LY post n tk ta mC mA ph sols fails lK lV lL lA ov lB b L0 (a + 1) ((p, e, 2, k, v) :: stk) rk rv s := by
  intro m cur gVar gPar gK gV gPos gEnv hP hE hS hK hV h1 h2 h3 h4 h5
  obtain ⟨m, rfl⟩ : ∃ m', m = m' + 1 := ⟨m - 1, by omega⟩
  have hl := H.2.2.2.1
  have hp := H.2.2.1
  obtain ⟨f1, f2, f3, f4, f5, f6, f7, f10, f11, f12, f13, f14, f15, fc⟩ := am_yfacts (tk := tk) (ta := ta) hn (Nat.le_of_lt hp) (by omega) h2 h4
  have f8 : nI p < nI n := nI_lt hp (by omega)
  have f9 : vp_in (nI p) 32 := vp_in_nI (by omega) (by decide)
  rw [wY_runPath_46]
  exact br_t rfl (br_f f1 (nm_r f2 (br_f f3 (nm_r f4 ⟨f5, nm_r f6 (br_f f7 (br_t f8 ⟨f9, nm_r f10 ⟨f9, nm_r f11 ⟨f5, nm_r f12 ⟨f5, nm_r f13 (br_f (by rw [hk]; decide) (br_f (by rw [hk]; decide) (br_f (by rw [hk]; decide) (br_t (by rw [hk]; decide) (br_f (by rw [hk]; decide) (br_f (by rw [hk]; decide) (br_f (by rw [hk]; decide) (br_f (by rw [hk]; decide) (br_f (by rw [hk]; decide) (br_f (by rw [hk]; decide) (br_f (by rw [hk]; decide) (br_f (by rw [hk]; decide) (br_f (by decide) (br_f (by decide) (nm_r f4 (am_yO (h m cur gVar gPar gK gV gPos gEnv hP hE hS hK hV (by omega) (by omega) h3 (am_fy_tl h4) h5)))))))))))))))))⟩⟩⟩⟩))⟩))))
theorem am_yr_pop {st : Int32} (hn : n ≤ 32) (hA : mA ≤ 16) (H : am_H n mC mA s e p stk) (hk : am_tl (tk p) st) (h : am_LY post n tk ta mC mA ph sols fails lK lV lL lA ov lB b L0 a stk rk rv s) : am_LY post n tk ta mC mA ph sols fails lK lV lL lA ov lB b L0 (a + 1) ((p, e, st, k, v) :: stk) rk rv s := by
  rcases hk with ⟨q, z⟩ | ⟨q, z⟩ | ⟨q, z⟩ | ⟨q, z⟩ | ⟨q, z⟩ | ⟨q, z⟩
  · subst z; exact am_yr_pop7 hn hA H q h
  · subst z; exact am_yr_pop8 hn hA H q h
  · subst z; exact am_yr_pop10 hn hA H q h
  · subst z; exact am_yr_pop11 hn hA H q h
  · subst z; exact am_yr_pop13 hn hA H q h
  · subst z; exact am_yr_pop15 hn hA H q h
theorem am_yI (hn : n ≤ 32) (hA : mA ≤ 16) (hC : mC ≤ 6) (hL : L0 ≤ 6) (hz : ∀ j, L0 ≤ j → b j = false) : am_I n tk ta mC mA b (am_LY post n tk ta mC mA ph sols fails lK lV lL lA ov lB b L0) (am_QY post n tk ta mC mA ph sols fails lK lV lL lA ov lB b L0) := by
  refine ⟨?_, ?_, ?_, ?_, ?_, ?_, ?_, ?_, ?_, ?_, ?_, ?_, ?_, ?_, ?_, ?_, ?_, ?_, ?_, ?_, ?_, ?_, ?_, ?_, ?_, ?_⟩
  · intro a a' stk rk rv s ha h; exact am_yr_mono ha h
  · intro a e stk rk rv s _ _ hl hq; exact am_yr_out hn hl hq
  · intro a p e stk rk rv s H hk h; exact am_yr_num hn hA H hk h
  · intro a p e stk rk rv s f H hk hf hlk h; exact am_yr_var hn hA H hk hf hlk h
  · intro a p e stk rk rv s H hk hlk hq; exact am_yr_varF hn hA H hk hlk hq
  · intro a p e stk rk rv s H hk h; exact am_yr_push hn hA H hk h
  · intro a p e stk rk rv s H hk hu h; exact am_yr_amb hn hA hC hL hz H hk hu h
  · intro a p e stk rk rv s H hk hu hq; exact am_yr_ambF hn hA H hC hk hu hq
  · intro a p e stk rk rv s H hk hq; exact am_yr_fail hn hA H hk hq
  · intro a p e stk rk rv s H hk ha h; exact am_yr_lam hn hA H hk ha h
  · intro a p e stk rk rv s H hk ha hq; exact am_yr_lamF hn hA H hk ha hq
  · intro a p e stk rk rv s H _ hk h
    rcases hk with hk | hk
    · exact am_yr_hold13 hn hA H hk h
    · exact am_yr_hold2 hn hA H hk h
  · intro a p e stk v rv s H hk h
    rcases hk with hk | hk | hk | hk | hk
    · exact am_yr_calc2 hn hA H hk h
    · exact am_yr_calc3 hn hA H hk h
    · exact am_yr_calc4 hn hA H hk h
    · exact am_yr_calc5 hn hA H hk h
    · exact am_yr_calc6 hn hA H hk h
  · intro a p e stk k v rk rv s H hk _ _ hno hq; exact am_yr_calcF hn hA H hk hno hq
  · intro a p e stk rv s H hk h; exact am_yr_if hn hA H hk h
  · intro a p e stk rk rv s H hk _ hno hq; exact am_yr_ifF hn hA H hk hno hq
  · intro a p e stk rv s H hk hv h; exact am_yr_req hn hA H hk hv h
  · intro a p e stk rk rv s H hk _ hno hq; exact am_yr_reqF hn hA H hk hno hq
  · intro a p e stk rk rv s H hk _ ha h; exact am_yr_let hn hA H hk ha h
  · intro a p e stk rk rv s H hk _ ha hq; exact am_yr_letF hn hA H hk ha hq
  · intro a p e stk rk rv s f H hk _ hf hlk h; exact am_yr_set hn hA H hk hf hlk h
  · intro a p e stk rk rv s H hk _ hlk hq; exact am_yr_setF hn hA H hk hlk hq
  · intro a p e stk rk rv s H hk _ h; exact am_yr_seq hn hA H hk h
  · intro a p e stk rk rv s c lp H hk _ hc ha hlp elp h; exact am_yr_app hn hA H hk hc ha hlp elp h
  · intro a p e stk k v rk rv s H hk hkv _ hno hq
    by_cases k2 : k = 2
    · rcases hno with hno | hno
      · exact absurd k2 hno
      · subst k2
        rcases hkv with q | ⟨_, c, hc, q⟩
        · exact absurd q (by decide)
        · subst q
          exact am_yr_appF2 hn hA H hk hc hno hq
    · exact am_yr_appF1 hn hA H hk k2 hq
  · intro a p e stk st k v rk rv s H _ hk h; exact am_yr_pop hn hA H hk h
end
end
section
/-! the component's small methods -/
theorem am_nar0 : vp_nar .boolean 0 = 0 := by rfl
theorem am_nar1 : vp_nar .boolean 1 = 1 := by rfl
theorem am_nark (k : Int32) : vp_nar .boolean (am_xk k) = am_xk k := by
  by_cases q : k = 2
  · rw [q, am_xk_2]; rfl
  · have e : am_xk k = 0 := if_neg q
    rw [e]; rfl
theorem am_boolk (k : Int32) : narrow .boolean (.int (am_xk k)) = .int (am_xk k) ∧ fits .boolean (.int (am_xk k)) = true := by
  by_cases q : k = 2
  · rw [q, am_xk_2]; exact ⟨rfl, rfl⟩
  · have e : am_xk k = 0 := if_neg q
    rw [e]; exact ⟨rfl, rfl⟩
theorem am_shr : ∀ x, x < 64 → ∀ k, k < 6 → nI x >>> (nI k &&& 31) = nI (x / 2 ^ k) := by decide +kernel
theorem am_shr1 : ∀ x, x < 64 → nI x >>> ((1 : Int32) &&& 31) = nI (x / 2) := by decide +kernel
theorem am_shl1 : ∀ x, x < 64 → nI x <<< ((1 : Int32) &&& 31) = nI (2 * x) := by decide +kernel
theorem am_and1 : ∀ x, x < 64 → nI x &&& 1 = nI (x % 2) := by decide +kernel
theorem am_or1 : ∀ x, x < 32 → nI (2 * x) ||| 1 = nI (2 * x + 1) := by decide +kernel
theorem am_bit {b : Nat → Bool} {L u : Nat} (hu : u < L) (hL : L ≤ 6) : (nI (am_nm b L) >>> ((nI L - nI (u + 1)) &&& 31)) &&& 1 = nI (am_b1 (b u)) := by
  have hx := am_nm_le (b := b) hL
  have e1 : am_nm b L / 2 ^ (L - (u + 1)) = am_nm b (u + 1) := by
    have h := am_nm_sh b (u + 1) (L - (u + 1))
    have e : u + 1 + (L - (u + 1)) = L := by omega
    rw [e] at h
    exact h
  have hy := am_nm_le (b := b) (L := u + 1) (by omega)
  rw [am_sub (by omega), am_shr _ hx _ (by omega), e1, am_and1 _ hy, am_nm_odd]
section
variable {f_maxChoices f_maxAlloc f_held f_stage f_solutions f_failures f_lastKind f_lastValue f_lastChoices f_lastChoiceCount f_lastAllocCount f_steering f_steeringLength f_pathLeft f_failed f_choicesMade f_allocsMade f_visiting f_position f_environment f_resultIsClosure f_resultValue f_depth : Int32} {a_kinds a_args a_ends a_locationVariable a_locationOuter a_locationIsClosure a_locationValue a_closureToken a_closureEnvironment a_frameToken a_frameEnvironment a_frameHasFirst a_frameFirstIsClosure a_frameFirstValue : Nat → Int32}
theorem am_xvn {post : SX → Prop} {x x' : Int32} (ex : x = x') (h : post (f_maxChoices, f_maxAlloc, f_held, f_stage, f_solutions, f_failures, f_lastKind, f_lastValue, f_lastChoices, f_lastChoiceCount, f_lastAllocCount, f_steering, f_steeringLength, f_pathLeft, f_failed, f_choicesMade, f_allocsMade, 1, x', f_environment, f_resultIsClosure, f_resultValue, f_depth, a_kinds, a_args, a_ends, a_locationVariable, a_locationOuter, a_locationIsClosure, a_locationValue, a_closureToken, a_closureEnvironment, a_frameToken, a_frameEnvironment, a_frameHasFirst, a_frameFirstIsClosure, a_frameFirstValue)) : wpX_visitNext post (f_maxChoices, f_maxAlloc, f_held, f_stage, f_solutions, f_failures, f_lastKind, f_lastValue, f_lastChoices, f_lastChoiceCount, f_lastAllocCount, f_steering, f_steeringLength, f_pathLeft, f_failed, f_choicesMade, f_allocsMade, f_visiting, f_position, f_environment, f_resultIsClosure, f_resultValue, f_depth, a_kinds, a_args, a_ends, a_locationVariable, a_locationOuter, a_locationIsClosure, a_locationValue, a_closureToken, a_closureEnvironment, a_frameToken, a_frameEnvironment, a_frameHasFirst, a_frameFirstIsClosure, a_frameFirstValue) x := by
  rw [ex]
  exact h
theorem am_xholdsT {post : Int32 → Prop} {n p : Nat} (hn : n ≤ 32) (hp : p < n) (h : post 1) : wpX_holds post (f_maxChoices, f_maxAlloc, nI n, f_stage, f_solutions, f_failures, f_lastKind, f_lastValue, f_lastChoices, f_lastChoiceCount, f_lastAllocCount, f_steering, f_steeringLength, f_pathLeft, f_failed, f_choicesMade, f_allocsMade, f_visiting, f_position, f_environment, f_resultIsClosure, f_resultValue, f_depth, a_kinds, a_args, a_ends, a_locationVariable, a_locationOuter, a_locationIsClosure, a_locationValue, a_closureToken, a_closureEnvironment, a_frameToken, a_frameEnvironment, a_frameHasFirst, a_frameFirstIsClosure, a_frameFirstValue) (nI p) := br_f (nI_pos (by omega)) (br_f (nI_ge hp (by omega)) h)
theorem am_xholdsF {post : Int32 → Prop} {n p : Nat} (hp : n ≤ p) (hb : p ≤ 32) (h : post 0) : wpX_holds post (f_maxChoices, f_maxAlloc, nI n, f_stage, f_solutions, f_failures, f_lastKind, f_lastValue, f_lastChoices, f_lastChoiceCount, f_lastAllocCount, f_steering, f_steeringLength, f_pathLeft, f_failed, f_choicesMade, f_allocsMade, f_visiting, f_position, f_environment, f_resultIsClosure, f_resultValue, f_depth, a_kinds, a_args, a_ends, a_locationVariable, a_locationOuter, a_locationIsClosure, a_locationValue, a_closureToken, a_closureEnvironment, a_frameToken, a_frameEnvironment, a_frameHasFirst, a_frameFirstIsClosure, a_frameFirstValue) (nI p) := br_f (nI_pos (by omega)) (br_t (nI_le hp (by omega)) h)
theorem am_xtk {post : Int32 → Prop} {n p : Nat} {tk : Nat → Int32} (hn : n ≤ 32) (hp : p < n) (h : post (tk p)) : wpX_tokenKind post (f_maxChoices, f_maxAlloc, nI n, f_stage, f_solutions, f_failures, f_lastKind, f_lastValue, f_lastChoices, f_lastChoiceCount, f_lastAllocCount, f_steering, f_steeringLength, f_pathLeft, f_failed, f_choicesMade, f_allocsMade, f_visiting, f_position, f_environment, f_resultIsClosure, f_resultValue, f_depth, tk, a_args, a_ends, a_locationVariable, a_locationOuter, a_locationIsClosure, a_locationValue, a_closureToken, a_closureEnvironment, a_frameToken, a_frameEnvironment, a_frameHasFirst, a_frameFirstIsClosure, a_frameFirstValue) (nI p) := by
  have hc : (nI p).toNatClampNeg = p := nI_clamp (by omega)
  unfold wpX_tokenKind
  exact am_xholdsT hn hp (br_f (by decide) ⟨vp_in_nI (by omega) (by decide), by rw [hc]; exact h⟩)
theorem am_xta {post : Int32 → Prop} {n p : Nat} {ta : Nat → Int32} (hn : n ≤ 32) (hp : p < n) (h : post (ta p)) : wpX_tokenArg post (f_maxChoices, f_maxAlloc, nI n, f_stage, f_solutions, f_failures, f_lastKind, f_lastValue, f_lastChoices, f_lastChoiceCount, f_lastAllocCount, f_steering, f_steeringLength, f_pathLeft, f_failed, f_choicesMade, f_allocsMade, f_visiting, f_position, f_environment, f_resultIsClosure, f_resultValue, f_depth, a_kinds, ta, a_ends, a_locationVariable, a_locationOuter, a_locationIsClosure, a_locationValue, a_closureToken, a_closureEnvironment, a_frameToken, a_frameEnvironment, a_frameHasFirst, a_frameFirstIsClosure, a_frameFirstValue) (nI p) := by
  have hc : (nI p).toNatClampNeg = p := nI_clamp (by omega)
  unfold wpX_tokenArg
  exact am_xholdsT hn hp (br_f (by decide) ⟨vp_in_nI (by omega) (by decide), by rw [hc]; exact h⟩)
theorem am_xend {post : Int32 → Prop} {n p : Nat} {tk en : Nat → Int32} {x : Int32} (hn : n ≤ 32) (hp : p ≤ n) (hen : ∀ i, i < n → en i = nI (am_eN tk n i)) (ex : x = nI p) (h : post (nI (am_eN tk n p))) : wpX_endOf post (f_maxChoices, f_maxAlloc, nI n, f_stage, f_solutions, f_failures, f_lastKind, f_lastValue, f_lastChoices, f_lastChoiceCount, f_lastAllocCount, f_steering, f_steeringLength, f_pathLeft, f_failed, f_choicesMade, f_allocsMade, f_visiting, f_position, f_environment, f_resultIsClosure, f_resultValue, f_depth, a_kinds, a_args, en, a_locationVariable, a_locationOuter, a_locationIsClosure, a_locationValue, a_closureToken, a_closureEnvironment, a_frameToken, a_frameEnvironment, a_frameHasFirst, a_frameFirstIsClosure, a_frameFirstValue) x := by
  rw [ex]
  have hc : (nI p).toNatClampNeg = p := nI_clamp (by omega)
  by_cases q : p < n
  · exact br_f (nI_pos (by omega)) (br_f (nI_ge q (by omega)) ⟨vp_in_nI (by omega) (by decide), by rw [hc, hen p q]; exact h⟩)
  · have e : p = n := by omega
    rw [e, am_eN_n] at h
    exact br_f (nI_pos (by omega)) (br_t (nI_le (by omega) (by omega)) h)
theorem am_xfind0 {post : Int32 → Prop} {n mC mA : Nat} {s : am_S} {x : Int32} (w : am_WF n mC mA s) (hA : mA ≤ 16) (hs : am_sx s a_locationVariable a_locationOuter a_locationIsClosure a_locationValue a_closureToken a_closureEnvironment) : ∀ (k j : Nat) (e : Int32), j + k = 16 → am_okE s e → post (am_xe s (am_lk s x k e)) → wX_find_7 post x f_maxChoices f_maxAlloc f_held f_stage f_solutions f_failures f_lastKind f_lastValue f_lastChoices f_lastChoiceCount f_lastAllocCount f_steering f_steeringLength f_pathLeft f_failed f_choicesMade f_allocsMade f_visiting f_position f_environment f_resultIsClosure f_resultValue f_depth a_kinds a_args a_ends a_locationVariable a_locationOuter a_locationIsClosure a_locationValue a_closureToken a_closureEnvironment a_frameToken a_frameEnvironment a_frameHasFirst a_frameFirstIsClosure a_frameFirstValue (k + 1) (am_xe s e) (nI j) := by
  intro k
  induction k with
  | zero =>
    intro j e hj he h
    have h' : post (-1) := by
      rw [show am_lk s x 0 e = -1 from rfl, am_xe_m] at h
      exact h
    have h16 : (16 : Int32) ≤ nI j := by
      have : j = 16 := by omega
      rw [this]
      decide
    rw [wX_find_7]
    exact br_t h16 h'
  | succ k ih =>
    intro j e hj he h
    have j16 : ¬ (16 : Int32) ≤ nI j := nI_ge (b := 16) (by omega) (by decide)
    rw [am_lk_s] at h
    rcases he with he | ⟨f, hf, he⟩
    · subst he
      rw [if_pos (by decide), am_xe_m] at h
      rw [am_xe_m, wX_find_7]
      exact br_f j16 (br_t (by decide) h)
    · subst he
      have hb := am_WF_f w hA hf
      have hxl : am_xl s f < 16 := by
        have h1 := (w.2.2.1 f hf).2.2.1
        have h2 := w.2.1
        omega
      have hc : (nI f).toNatClampNeg = f := nI_clamp (by omega)
      have hd : (nI (am_xl s f)).toNatClampNeg = am_xl s f := nI_clamp (by omega)
      rw [if_neg (nI_pos (by omega)), hc] at h
      obtain ⟨s1, s2, _, _⟩ := hs.1 f hf
      have f16 : ¬ (16 : Int32) ≤ nI (am_xl s f) := nI_ge (b := 16) hxl (by decide)
      have vf : vp_in (nI (am_xl s f)) 16 := vp_in_nI hxl (by decide)
      rw [am_xe_f s (by omega), wX_find_7]
      refine br_f j16 (br_f (nI_pos (by omega)) (br_f f16 ⟨vf, ?_⟩))
      by_cases q : am_fVar s f = x
      · rw [if_pos q, am_xe_f s (by omega)] at h
        exact br_t (by rw [hd, s1]; exact q) h
      · rw [if_neg q] at h
        have e2 : a_locationOuter (nI (am_xl s f)).toNatClampNeg = am_xe s (am_fPar s f) := by rw [hd, s2]
        exact br_f (by rw [hd, s1]; exact q) ⟨vf, nm_r e2 (nm_r (nI_1 j) (ih (j + 1) _ (by omega) (am_wL_par w hf) h))⟩
theorem am_xfind {post : Int32 → Prop} {n mC mA : Nat} {s : am_S} {x e r : Int32} (w : am_WF n mC mA s) (hA : mA ≤ 16) (hs : am_sx s a_locationVariable a_locationOuter a_locationIsClosure a_locationValue a_closureToken a_closureEnvironment) (he : am_okE s e) (er : am_lk s x 17 e = r) (h : post (am_xe s r)) : wpX_find post (f_maxChoices, f_maxAlloc, f_held, f_stage, f_solutions, f_failures, f_lastKind, f_lastValue, f_lastChoices, f_lastChoiceCount, f_lastAllocCount, f_steering, f_steeringLength, f_pathLeft, f_failed, f_choicesMade, f_allocsMade, f_visiting, f_position, am_xe s e, f_resultIsClosure, f_resultValue, f_depth, a_kinds, a_args, a_ends, a_locationVariable, a_locationOuter, a_locationIsClosure, a_locationValue, a_closureToken, a_closureEnvironment, a_frameToken, a_frameEnvironment, a_frameHasFirst, a_frameFirstIsClosure, a_frameFirstValue) x := by
  rw [← er, am_lk_16 w hA he] at h
  exact ⟨17, am_xfind0 w hA hs 16 0 e (by omega) he h⟩
theorem am_xopen {post : SX → Prop} {t p : Nat} (ht : t < 544) (h : post (f_maxChoices, f_maxAlloc, f_held, f_stage, f_solutions, f_failures, f_lastKind, f_lastValue, f_lastChoices, f_lastChoiceCount, f_lastAllocCount, f_steering, f_steeringLength, f_pathLeft, f_failed, f_choicesMade, f_allocsMade, 1, nI (p + 1), f_environment, f_resultIsClosure, f_resultValue, nI (t + 1), a_kinds, a_args, a_ends, a_locationVariable, a_locationOuter, a_locationIsClosure, a_locationValue, a_closureToken, a_closureEnvironment, upd a_frameToken t (nI p), upd a_frameEnvironment t f_environment, upd a_frameHasFirst t 0, a_frameFirstIsClosure, a_frameFirstValue)) : wpX_openFrame post (f_maxChoices, f_maxAlloc, f_held, f_stage, f_solutions, f_failures, f_lastKind, f_lastValue, f_lastChoices, f_lastChoiceCount, f_lastAllocCount, f_steering, f_steeringLength, f_pathLeft, f_failed, f_choicesMade, f_allocsMade, f_visiting, f_position, f_environment, f_resultIsClosure, f_resultValue, nI t, a_kinds, a_args, a_ends, a_locationVariable, a_locationOuter, a_locationIsClosure, a_locationValue, a_closureToken, a_closureEnvironment, a_frameToken, a_frameEnvironment, a_frameHasFirst, a_frameFirstIsClosure, a_frameFirstValue) (nI p) := by
  have hc : (nI t).toNatClampNeg = t := nI_clamp (by omega)
  have v : vp_in (nI t) 544 := vp_in_nI ht (by decide)
  have l : nI t < 544 := nI_lt (b := 544) ht (by decide)
  exact br_t l ⟨v, nm_r (by rw [hc]) ⟨v, nm_r (by rw [hc]) ⟨v, nm_r (by rw [hc, am_nar0]) (nm_r (nI_1 t) (am_xvn (nI_1 p) h))⟩⟩⟩
theorem am_xbindT {post : SX → Prop} {a mA : Nat} {x x' o o' c : Int32} (h1 : a < mA) (h2 : mA ≤ 16) (ec : vp_nar .boolean c = c) (ex : x = x') (eo : o = o') (h : post (f_maxChoices, nI mA, f_held, f_stage, f_solutions, f_failures, f_lastKind, f_lastValue, f_lastChoices, f_lastChoiceCount, f_lastAllocCount, f_steering, f_steeringLength, f_pathLeft, f_failed, f_choicesMade, nI (a + 1), f_visiting, f_position, nI a, c, f_resultValue, f_depth, a_kinds, a_args, a_ends, upd a_locationVariable a x', upd a_locationOuter a o', upd a_locationIsClosure a c, upd a_locationValue a f_resultValue, a_closureToken, a_closureEnvironment, a_frameToken, a_frameEnvironment, a_frameHasFirst, a_frameFirstIsClosure, a_frameFirstValue)) : wpX_bind post (f_maxChoices, nI mA, f_held, f_stage, f_solutions, f_failures, f_lastKind, f_lastValue, f_lastChoices, f_lastChoiceCount, f_lastAllocCount, f_steering, f_steeringLength, f_pathLeft, f_failed, f_choicesMade, nI a, f_visiting, f_position, f_environment, c, f_resultValue, f_depth, a_kinds, a_args, a_ends, a_locationVariable, a_locationOuter, a_locationIsClosure, a_locationValue, a_closureToken, a_closureEnvironment, a_frameToken, a_frameEnvironment, a_frameHasFirst, a_frameFirstIsClosure, a_frameFirstValue) x o := by
  subst ex
  subst eo
  have hc : (nI a).toNatClampNeg = a := nI_clamp (by omega)
  have v : vp_in (nI a) 16 := vp_in_nI (by omega) (by decide)
  exact br_t (nI_lt h1 (by omega)) ⟨v, nm_r (by rw [hc]) ⟨v, nm_r (by rw [hc]) ⟨v, nm_r (by rw [hc, ec]) ⟨v, nm_r (by rw [hc]) (nm_r (nI_1 a) h)⟩⟩⟩⟩
theorem am_xbindF {post : SX → Prop} {a mA : Nat} {x o : Int32} (h1 : mA ≤ a) (h2 : a ≤ 16) (h : post (f_maxChoices, nI mA, f_held, f_stage, f_solutions, f_failures, f_lastKind, f_lastValue, f_lastChoices, f_lastChoiceCount, f_lastAllocCount, f_steering, f_steeringLength, f_pathLeft, 1, f_choicesMade, nI a, f_visiting, f_position, f_environment, f_resultIsClosure, f_resultValue, f_depth, a_kinds, a_args, a_ends, a_locationVariable, a_locationOuter, a_locationIsClosure, a_locationValue, a_closureToken, a_closureEnvironment, a_frameToken, a_frameEnvironment, a_frameHasFirst, a_frameFirstIsClosure, a_frameFirstValue)) : wpX_bind post (f_maxChoices, nI mA, f_held, f_stage, f_solutions, f_failures, f_lastKind, f_lastValue, f_lastChoices, f_lastChoiceCount, f_lastAllocCount, f_steering, f_steeringLength, f_pathLeft, f_failed, f_choicesMade, nI a, f_visiting, f_position, f_environment, f_resultIsClosure, f_resultValue, f_depth, a_kinds, a_args, a_ends, a_locationVariable, a_locationOuter, a_locationIsClosure, a_locationValue, a_closureToken, a_closureEnvironment, a_frameToken, a_frameEnvironment, a_frameHasFirst, a_frameFirstIsClosure, a_frameFirstValue) x o := br_f (nI_nlt h1 (by omega)) h
theorem am_xcomb {post : Int32 → Prop} {k x x' y : Int32} (hk : am_bin k) (ex : x' = x) (h : post (am_op k x y)) : wpX_combine post k x' y := by
  subst ex
  rcases hk with q | q | q | q | q
  · subst q
    exact br_f (by decide) (br_f (by decide) (br_t rfl h))
  · subst q
    exact br_f (by decide) (br_f (by decide) (br_f (by decide) (br_t rfl h)))
  · subst q
    exact br_f (by decide) (br_f (by decide) (br_f (by decide) (br_f (by decide) (br_t rfl h))))
  · subst q
    have eo : am_op 5 x' y = if x' < y then 1 else 0 := rfl
    rw [eo] at h
    exact br_f (by decide) (br_f (by decide) (br_f (by decide) (br_f (by decide) (br_f (by decide) (br_t rfl (br_c (fun z => by rw [if_neg (Int32.not_lt.mpr z)] at h; exact h) (fun z => by rw [if_pos (Int32.not_le.mp z)] at h; exact h)))))))
  · subst q
    have eo : am_op 6 x' y = if x' = y then 1 else 0 := rfl
    rw [eo] at h
    exact br_f (by decide) (br_t (by decide) (br_c (fun z => by rw [if_pos z] at h; exact h) (fun z => by rw [if_neg z] at h; exact h)))
theorem am_nm1 {a : Nat} (h : a < 2 ^ 31) : ¬ nI a = -1 := by
  intro q
  have h2 := nI_pos h
  rw [q] at h2
  exact h2 (by decide)
theorem am_xgi {post : SX → Prop} {x x' : Int32} (ex : x = x') (h : post (f_maxChoices, f_maxAlloc, f_held, f_stage, f_solutions, f_failures, f_lastKind, f_lastValue, f_lastChoices, f_lastChoiceCount, f_lastAllocCount, f_steering, f_steeringLength, f_pathLeft, f_failed, f_choicesMade, f_allocsMade, 0, f_position, f_environment, 0, x', f_depth, a_kinds, a_args, a_ends, a_locationVariable, a_locationOuter, a_locationIsClosure, a_locationValue, a_closureToken, a_closureEnvironment, a_frameToken, a_frameEnvironment, a_frameHasFirst, a_frameFirstIsClosure, a_frameFirstValue)) : wpX_giveInt post (f_maxChoices, f_maxAlloc, f_held, f_stage, f_solutions, f_failures, f_lastKind, f_lastValue, f_lastChoices, f_lastChoiceCount, f_lastAllocCount, f_steering, f_steeringLength, f_pathLeft, f_failed, f_choicesMade, f_allocsMade, f_visiting, f_position, f_environment, f_resultIsClosure, f_resultValue, f_depth, a_kinds, a_args, a_ends, a_locationVariable, a_locationOuter, a_locationIsClosure, a_locationValue, a_closureToken, a_closureEnvironment, a_frameToken, a_frameEnvironment, a_frameHasFirst, a_frameFirstIsClosure, a_frameFirstValue) x := by
  rw [ex]
  exact h
theorem am_xrvT {post : SX → Prop} {n mC mA f : Nat} {s : am_S} {x x' e : Int32} (w : am_WF n mC mA s) (hA : mA ≤ 16) (hs : am_sx s a_locationVariable a_locationOuter a_locationIsClosure a_locationValue a_closureToken a_closureEnvironment) (he : am_okE s e) (ex : x = x') (hf : f < am_nf s) (er : am_lk s x' 17 e = nI f) (h : post (f_maxChoices, f_maxAlloc, f_held, f_stage, f_solutions, f_failures, f_lastKind, f_lastValue, f_lastChoices, f_lastChoiceCount, f_lastAllocCount, f_steering, f_steeringLength, f_pathLeft, f_failed, f_choicesMade, f_allocsMade, 0, f_position, am_xe s e, am_xk (am_fK s f), am_xv s (am_fK s f) (am_fV s f), f_depth, a_kinds, a_args, a_ends, a_locationVariable, a_locationOuter, a_locationIsClosure, a_locationValue, a_closureToken, a_closureEnvironment, a_frameToken, a_frameEnvironment, a_frameHasFirst, a_frameFirstIsClosure, a_frameFirstValue)) : wpX_readVariable post (f_maxChoices, f_maxAlloc, f_held, f_stage, f_solutions, f_failures, f_lastKind, f_lastValue, f_lastChoices, f_lastChoiceCount, f_lastAllocCount, f_steering, f_steeringLength, f_pathLeft, f_failed, f_choicesMade, f_allocsMade, f_visiting, f_position, am_xe s e, f_resultIsClosure, f_resultValue, f_depth, a_kinds, a_args, a_ends, a_locationVariable, a_locationOuter, a_locationIsClosure, a_locationValue, a_closureToken, a_closureEnvironment, a_frameToken, a_frameEnvironment, a_frameHasFirst, a_frameFirstIsClosure, a_frameFirstValue) x := by
  subst ex
  have hb := am_WF_f w hA hf
  have hxl : am_xl s f < 16 := by
    have h1 := (w.2.2.1 f hf).2.2.1
    have h2 := w.2.1
    omega
  have hd : (nI (am_xl s f)).toNatClampNeg = am_xl s f := nI_clamp (by omega)
  obtain ⟨_, _, s3, s4⟩ := hs.1 f hf
  have v : vp_in (nI (am_xl s f)) 16 := vp_in_nI hxl (by decide)
  have e3 : a_locationIsClosure (nI (am_xl s f)).toNatClampNeg = am_xk (am_fK s f) := by rw [hd, s3]
  have e4 : a_locationValue (nI (am_xl s f)).toNatClampNeg = am_xv s (am_fK s f) (am_fV s f) := by rw [hd, s4]
  unfold wpX_readVariable
  refine am_xfind w hA hs he er ?_
  rw [am_xe_f s (by omega)]
  exact br_f (am_nm1 (by omega)) ⟨v, nm_r e3 ⟨(am_boolk _).1, (am_boolk _).2, v, nm_r e4 h⟩⟩
theorem am_xrvF {post : SX → Prop} {n mC mA : Nat} {s : am_S} {x x' e : Int32} (w : am_WF n mC mA s) (hA : mA ≤ 16) (hs : am_sx s a_locationVariable a_locationOuter a_locationIsClosure a_locationValue a_closureToken a_closureEnvironment) (he : am_okE s e) (ex : x = x') (er : am_lk s x' 17 e = -1) (h : post (f_maxChoices, f_maxAlloc, f_held, f_stage, f_solutions, f_failures, f_lastKind, f_lastValue, f_lastChoices, f_lastChoiceCount, f_lastAllocCount, f_steering, f_steeringLength, f_pathLeft, 1, f_choicesMade, f_allocsMade, f_visiting, f_position, am_xe s e, f_resultIsClosure, f_resultValue, f_depth, a_kinds, a_args, a_ends, a_locationVariable, a_locationOuter, a_locationIsClosure, a_locationValue, a_closureToken, a_closureEnvironment, a_frameToken, a_frameEnvironment, a_frameHasFirst, a_frameFirstIsClosure, a_frameFirstValue)) : wpX_readVariable post (f_maxChoices, f_maxAlloc, f_held, f_stage, f_solutions, f_failures, f_lastKind, f_lastValue, f_lastChoices, f_lastChoiceCount, f_lastAllocCount, f_steering, f_steeringLength, f_pathLeft, f_failed, f_choicesMade, f_allocsMade, f_visiting, f_position, am_xe s e, f_resultIsClosure, f_resultValue, f_depth, a_kinds, a_args, a_ends, a_locationVariable, a_locationOuter, a_locationIsClosure, a_locationValue, a_closureToken, a_closureEnvironment, a_frameToken, a_frameEnvironment, a_frameHasFirst, a_frameFirstIsClosure, a_frameFirstValue) x := by
  subst ex
  unfold wpX_readVariable
  refine am_xfind w hA hs he er ?_
  rw [am_xe_m]
  exact br_t rfl h
theorem am_xasT {post : SX → Prop} {n mC mA f : Nat} {s : am_S} {x e c : Int32} (w : am_WF n mC mA s) (hA : mA ≤ 16) (hs : am_sx s a_locationVariable a_locationOuter a_locationIsClosure a_locationValue a_closureToken a_closureEnvironment) (he : am_okE s e) (hf : f < am_nf s) (er : am_lk s x 17 e = nI f) (ec : vp_nar .boolean c = c) (h : post (f_maxChoices, f_maxAlloc, f_held, f_stage, f_solutions, f_failures, f_lastKind, f_lastValue, f_lastChoices, f_lastChoiceCount, f_lastAllocCount, f_steering, f_steeringLength, f_pathLeft, f_failed, f_choicesMade, f_allocsMade, f_visiting, f_position, am_xe s e, c, f_resultValue, f_depth, a_kinds, a_args, a_ends, a_locationVariable, a_locationOuter, upd a_locationIsClosure (am_xl s f) c, upd a_locationValue (am_xl s f) f_resultValue, a_closureToken, a_closureEnvironment, a_frameToken, a_frameEnvironment, a_frameHasFirst, a_frameFirstIsClosure, a_frameFirstValue)) : wpX_assign post (f_maxChoices, f_maxAlloc, f_held, f_stage, f_solutions, f_failures, f_lastKind, f_lastValue, f_lastChoices, f_lastChoiceCount, f_lastAllocCount, f_steering, f_steeringLength, f_pathLeft, f_failed, f_choicesMade, f_allocsMade, f_visiting, f_position, am_xe s e, c, f_resultValue, f_depth, a_kinds, a_args, a_ends, a_locationVariable, a_locationOuter, a_locationIsClosure, a_locationValue, a_closureToken, a_closureEnvironment, a_frameToken, a_frameEnvironment, a_frameHasFirst, a_frameFirstIsClosure, a_frameFirstValue) x := by
  have hb := am_WF_f w hA hf
  have hxl : am_xl s f < 16 := by
    have h1 := (w.2.2.1 f hf).2.2.1
    have h2 := w.2.1
    omega
  have hd : (nI (am_xl s f)).toNatClampNeg = am_xl s f := nI_clamp (by omega)
  have v : vp_in (nI (am_xl s f)) 16 := vp_in_nI hxl (by decide)
  unfold wpX_assign
  refine am_xfind w hA hs he er ?_
  rw [am_xe_f s (by omega)]
  exact br_f (am_nm1 (by omega)) ⟨v, nm_r (by rw [hd, ec]) ⟨v, nm_r (by rw [hd]) h⟩⟩
theorem am_xasF {post : SX → Prop} {n mC mA : Nat} {s : am_S} {x e : Int32} (w : am_WF n mC mA s) (hA : mA ≤ 16) (hs : am_sx s a_locationVariable a_locationOuter a_locationIsClosure a_locationValue a_closureToken a_closureEnvironment) (he : am_okE s e) (er : am_lk s x 17 e = -1) (h : post (f_maxChoices, f_maxAlloc, f_held, f_stage, f_solutions, f_failures, f_lastKind, f_lastValue, f_lastChoices, f_lastChoiceCount, f_lastAllocCount, f_steering, f_steeringLength, f_pathLeft, 1, f_choicesMade, f_allocsMade, f_visiting, f_position, am_xe s e, f_resultIsClosure, f_resultValue, f_depth, a_kinds, a_args, a_ends, a_locationVariable, a_locationOuter, a_locationIsClosure, a_locationValue, a_closureToken, a_closureEnvironment, a_frameToken, a_frameEnvironment, a_frameHasFirst, a_frameFirstIsClosure, a_frameFirstValue)) : wpX_assign post (f_maxChoices, f_maxAlloc, f_held, f_stage, f_solutions, f_failures, f_lastKind, f_lastValue, f_lastChoices, f_lastChoiceCount, f_lastAllocCount, f_steering, f_steeringLength, f_pathLeft, f_failed, f_choicesMade, f_allocsMade, f_visiting, f_position, am_xe s e, f_resultIsClosure, f_resultValue, f_depth, a_kinds, a_args, a_ends, a_locationVariable, a_locationOuter, a_locationIsClosure, a_locationValue, a_closureToken, a_closureEnvironment, a_frameToken, a_frameEnvironment, a_frameHasFirst, a_frameFirstIsClosure, a_frameFirstValue) x := by
  unfold wpX_assign
  refine am_xfind w hA hs he er ?_
  rw [am_xe_m]
  exact br_t rfl h
theorem am_xmcT {post : SX → Prop} {a mA p : Nat} (h1 : a < mA) (h2 : mA ≤ 16) (h : post (f_maxChoices, nI mA, f_held, f_stage, f_solutions, f_failures, f_lastKind, f_lastValue, f_lastChoices, f_lastChoiceCount, f_lastAllocCount, f_steering, f_steeringLength, f_pathLeft, f_failed, f_choicesMade, nI (a + 1), 0, f_position, f_environment, 1, nI a, f_depth, a_kinds, a_args, a_ends, a_locationVariable, a_locationOuter, a_locationIsClosure, a_locationValue, upd a_closureToken a (nI p), upd a_closureEnvironment a f_environment, a_frameToken, a_frameEnvironment, a_frameHasFirst, a_frameFirstIsClosure, a_frameFirstValue)) : wpX_makeClosure post (f_maxChoices, nI mA, f_held, f_stage, f_solutions, f_failures, f_lastKind, f_lastValue, f_lastChoices, f_lastChoiceCount, f_lastAllocCount, f_steering, f_steeringLength, f_pathLeft, f_failed, f_choicesMade, nI a, f_visiting, f_position, f_environment, f_resultIsClosure, f_resultValue, f_depth, a_kinds, a_args, a_ends, a_locationVariable, a_locationOuter, a_locationIsClosure, a_locationValue, a_closureToken, a_closureEnvironment, a_frameToken, a_frameEnvironment, a_frameHasFirst, a_frameFirstIsClosure, a_frameFirstValue) (nI p) := by
  have hc : (nI a).toNatClampNeg = a := nI_clamp (by omega)
  have v : vp_in (nI a) 16 := vp_in_nI (by omega) (by decide)
  exact br_t (nI_lt h1 (by omega)) ⟨v, nm_r (by rw [hc]) ⟨v, nm_r (by rw [hc]) (nm_r (nI_1 a) h)⟩⟩
theorem am_xmcF {post : SX → Prop} {a mA : Nat} {x : Int32} (h1 : mA ≤ a) (h2 : a ≤ 16) (h : post (f_maxChoices, nI mA, f_held, f_stage, f_solutions, f_failures, f_lastKind, f_lastValue, f_lastChoices, f_lastChoiceCount, f_lastAllocCount, f_steering, f_steeringLength, f_pathLeft, 1, f_choicesMade, nI a, f_visiting, f_position, f_environment, f_resultIsClosure, f_resultValue, f_depth, a_kinds, a_args, a_ends, a_locationVariable, a_locationOuter, a_locationIsClosure, a_locationValue, a_closureToken, a_closureEnvironment, a_frameToken, a_frameEnvironment, a_frameHasFirst, a_frameFirstIsClosure, a_frameFirstValue)) : wpX_makeClosure post (f_maxChoices, nI mA, f_held, f_stage, f_solutions, f_failures, f_lastKind, f_lastValue, f_lastChoices, f_lastChoiceCount, f_lastAllocCount, f_steering, f_steeringLength, f_pathLeft, f_failed, f_choicesMade, nI a, f_visiting, f_position, f_environment, f_resultIsClosure, f_resultValue, f_depth, a_kinds, a_args, a_ends, a_locationVariable, a_locationOuter, a_locationIsClosure, a_locationValue, a_closureToken, a_closureEnvironment, a_frameToken, a_frameEnvironment, a_frameHasFirst, a_frameFirstIsClosure, a_frameFirstValue) x := br_f (nI_nlt h1 (by omega)) h
theorem am_xhf {post : SX → Prop} {t : Nat} {x c : Int32} (ht : t < 544) (ec : vp_nar .boolean c = c) (h : post (f_maxChoices, f_maxAlloc, f_held, f_stage, f_solutions, f_failures, f_lastKind, f_lastValue, f_lastChoices, f_lastChoiceCount, f_lastAllocCount, f_steering, f_steeringLength, f_pathLeft, f_failed, f_choicesMade, f_allocsMade, 1, x, f_environment, c, f_resultValue, nI (t + 1), a_kinds, a_args, a_ends, a_locationVariable, a_locationOuter, a_locationIsClosure, a_locationValue, a_closureToken, a_closureEnvironment, a_frameToken, a_frameEnvironment, upd a_frameHasFirst t 1, upd a_frameFirstIsClosure t c, upd a_frameFirstValue t f_resultValue)) : wpX_holdFirst post (f_maxChoices, f_maxAlloc, f_held, f_stage, f_solutions, f_failures, f_lastKind, f_lastValue, f_lastChoices, f_lastChoiceCount, f_lastAllocCount, f_steering, f_steeringLength, f_pathLeft, f_failed, f_choicesMade, f_allocsMade, f_visiting, f_position, f_environment, c, f_resultValue, nI t, a_kinds, a_args, a_ends, a_locationVariable, a_locationOuter, a_locationIsClosure, a_locationValue, a_closureToken, a_closureEnvironment, a_frameToken, a_frameEnvironment, a_frameHasFirst, a_frameFirstIsClosure, a_frameFirstValue) x := by
  have hc : (nI t).toNatClampNeg = t := nI_clamp (by omega)
  have v : vp_in (nI t) 544 := vp_in_nI ht (by decide)
  exact ⟨v, nm_r (by rw [hc, am_nar1]) ⟨v, nm_r (by rw [hc, ec]) ⟨v, nm_r (by rw [hc]) (nm_r (nI_1 t) (am_xvn rfl h))⟩⟩⟩
theorem am_x48 {post : SX → Prop} {b : Nat → Bool} {n p u L : Nat} {tk en : Nat → Int32} (hn : n ≤ 32) (hp : p < n) (hen : ∀ i, i < n → en i = nI (am_eN tk n i)) (hu : u < L) (hL : L ≤ 6) (h : post (f_maxChoices, f_maxAlloc, nI n, f_stage, f_solutions, f_failures, f_lastKind, f_lastValue, f_lastChoices, f_lastChoiceCount, f_lastAllocCount, nI (am_nm b L), nI L, f_pathLeft, f_failed, nI (u + 1), f_allocsMade, 1, nI (am_q8 n tk p (b u)), f_environment, f_resultIsClosure, f_resultValue, f_depth, a_kinds, a_args, en, a_locationVariable, a_locationOuter, a_locationIsClosure, a_locationValue, a_closureToken, a_closureEnvironment, a_frameToken, a_frameEnvironment, a_frameHasFirst, a_frameFirstIsClosure, a_frameFirstValue)) : wX_choose_48 post (nI p) f_maxChoices f_maxAlloc (nI n) f_stage f_solutions f_failures f_lastKind f_lastValue f_lastChoices f_lastChoiceCount f_lastAllocCount (nI (am_nm b L)) (nI L) f_pathLeft f_failed (nI u) f_allocsMade f_visiting f_position f_environment f_resultIsClosure f_resultValue f_depth a_kinds a_args en a_locationVariable a_locationOuter a_locationIsClosure a_locationValue a_closureToken a_closureEnvironment a_frameToken a_frameEnvironment a_frameHasFirst a_frameFirstIsClosure a_frameFirstValue := by
  refine nm_r (nI_1 u) (nm_r (am_bit hu hL) (am_xend hn hp hen (nI_1 p) ?_))
  unfold am_q8 at h
  cases hb : b u with
  | true =>
    rw [hb, if_pos rfl] at h
    exact br_f (by decide) (am_xvn rfl h)
  | false =>
    rw [hb, if_neg (by decide)] at h
    exact br_t rfl (am_xvn (nI_1 p) h)
theorem am_xchoose {post : SX → Prop} {b : Nat → Bool} {n p u L0 mC : Nat} {tk en : Nat → Int32} (hn : n ≤ 32) (hp : p < n) (hen : ∀ i, i < n → en i = nI (am_eN tk n i)) (hu : u < mC) (hC : mC ≤ 6) (hL : L0 ≤ 6) (hz : ∀ j, L0 ≤ j → b j = false) (h : post (nI mC, f_maxAlloc, nI n, f_stage, f_solutions, f_failures, f_lastKind, f_lastValue, f_lastChoices, f_lastChoiceCount, f_lastAllocCount, nI (am_nm b (am_mx L0 (u + 1))), nI (am_mx L0 (u + 1)), f_pathLeft, f_failed, nI (u + 1), f_allocsMade, 1, nI (am_q8 n tk p (b u)), f_environment, f_resultIsClosure, f_resultValue, f_depth, a_kinds, a_args, en, a_locationVariable, a_locationOuter, a_locationIsClosure, a_locationValue, a_closureToken, a_closureEnvironment, a_frameToken, a_frameEnvironment, a_frameHasFirst, a_frameFirstIsClosure, a_frameFirstValue)) : wpX_choose post (nI mC, f_maxAlloc, nI n, f_stage, f_solutions, f_failures, f_lastKind, f_lastValue, f_lastChoices, f_lastChoiceCount, f_lastAllocCount, nI (am_nm b (am_mx L0 u)), nI (am_mx L0 u), f_pathLeft, f_failed, nI u, f_allocsMade, f_visiting, f_position, f_environment, f_resultIsClosure, f_resultValue, f_depth, a_kinds, a_args, en, a_locationVariable, a_locationOuter, a_locationIsClosure, a_locationValue, a_closureToken, a_closureEnvironment, a_frameToken, a_frameEnvironment, a_frameHasFirst, a_frameFirstIsClosure, a_frameFirstValue) (nI p) := by
  refine br_t (nI_lt hu (by omega)) ?_
  by_cases q : u < L0
  · have em : am_mx L0 u = L0 := by unfold am_mx; omega
    have em' : am_mx L0 (u + 1) = L0 := by unfold am_mx; omega
    rw [em'] at h
    rw [em]
    exact br_t (nI_lt q (by omega)) (am_x48 hn hp hen q hL h)
  · have em : am_mx L0 u = u := by unfold am_mx; omega
    have em' : am_mx L0 (u + 1) = u + 1 := by unfold am_mx; omega
    rw [em'] at h
    rw [em]
    have ez : am_nm b (u + 1) = 2 * am_nm b u := by
      rw [am_nm_s, hz u (by omega)]
      rfl
    have es : nI (am_nm b u) <<< ((1 : Int32) &&& 31) = nI (am_nm b (u + 1)) := by rw [am_shl1 _ (am_nm_le (by omega)), ez]
    exact br_f (nI_nlt (Nat.le_refl _) (by omega)) (nm_r es (nm_r (nI_1 u) (am_x48 hn hp hen (Nat.lt_succ_self u) (by omega) h)))
/-- behind a step -/
theorem am_x62v {post : SX → Prop} {J : Int32 → Int32 → Int32 → Int32 → Int32 → Int32 → Int32 → Int32 → Int32 → Int32 → Int32 → Int32 → Int32 → Int32 → Int32 → Int32 → Int32 → Int32 → Int32 → Int32 → Int32 → Int32 → Int32 → Int32 → Int32 → (Nat → Int32) → (Nat → Int32) → (Nat → Int32) → (Nat → Int32) → (Nat → Int32) → (Nat → Int32) → (Nat → Int32) → (Nat → Int32) → (Nat → Int32) → (Nat → Int32) → (Nat → Int32) → (Nat → Int32) → (Nat → Int32) → (Nat → Int32) → Prop} {x2 x2' : Int32} (ex : x2 + 1 = x2') (h : J 0 x2' f_maxChoices f_maxAlloc f_held f_stage f_solutions f_failures f_lastKind f_lastValue f_lastChoices f_lastChoiceCount f_lastAllocCount f_steering f_steeringLength f_pathLeft 0 f_choicesMade f_allocsMade 1 f_position f_environment f_resultIsClosure f_resultValue f_depth a_kinds a_args a_ends a_locationVariable a_locationOuter a_locationIsClosure a_locationValue a_closureToken a_closureEnvironment a_frameToken a_frameEnvironment a_frameHasFirst a_frameFirstIsClosure a_frameFirstValue) : wX_runPath_62 post J x2 f_maxChoices f_maxAlloc f_held f_stage f_solutions f_failures f_lastKind f_lastValue f_lastChoices f_lastChoiceCount f_lastAllocCount f_steering f_steeringLength f_pathLeft 0 f_choicesMade f_allocsMade 1 f_position f_environment f_resultIsClosure f_resultValue f_depth a_kinds a_args a_ends a_locationVariable a_locationOuter a_locationIsClosure a_locationValue a_closureToken a_closureEnvironment a_frameToken a_frameEnvironment a_frameHasFirst a_frameFirstIsClosure a_frameFirstValue := br_t rfl (br_f (by decide) (nm_r ex h))
def am_en : List am_F → Int32
  | [] => 1
  | _ :: _ => 0
theorem am_x62r {post : SX → Prop} {J : Int32 → Int32 → Int32 → Int32 → Int32 → Int32 → Int32 → Int32 → Int32 → Int32 → Int32 → Int32 → Int32 → Int32 → Int32 → Int32 → Int32 → Int32 → Int32 → Int32 → Int32 → Int32 → Int32 → Int32 → Int32 → (Nat → Int32) → (Nat → Int32) → (Nat → Int32) → (Nat → Int32) → (Nat → Int32) → (Nat → Int32) → (Nat → Int32) → (Nat → Int32) → (Nat → Int32) → (Nat → Int32) → (Nat → Int32) → (Nat → Int32) → (Nat → Int32) → (Nat → Int32) → Prop} {x2 x2' : Int32} (r : List am_F) (hr : r.length < 1000) (ex : x2 + 1 = x2') (h : J (am_en r) x2' f_maxChoices f_maxAlloc f_held f_stage f_solutions f_failures f_lastKind f_lastValue f_lastChoices f_lastChoiceCount f_lastAllocCount f_steering f_steeringLength f_pathLeft 0 f_choicesMade f_allocsMade 0 f_position f_environment f_resultIsClosure f_resultValue (nI r.length) a_kinds a_args a_ends a_locationVariable a_locationOuter a_locationIsClosure a_locationValue a_closureToken a_closureEnvironment a_frameToken a_frameEnvironment a_frameHasFirst a_frameFirstIsClosure a_frameFirstValue) : wX_runPath_62 post J x2 f_maxChoices f_maxAlloc f_held f_stage f_solutions f_failures f_lastKind f_lastValue f_lastChoices f_lastChoiceCount f_lastAllocCount f_steering f_steeringLength f_pathLeft 0 f_choicesMade f_allocsMade 0 f_position f_environment f_resultIsClosure f_resultValue (nI r.length) a_kinds a_args a_ends a_locationVariable a_locationOuter a_locationIsClosure a_locationValue a_closureToken a_closureEnvironment a_frameToken a_frameEnvironment a_frameHasFirst a_frameFirstIsClosure a_frameFirstValue := by
  cases r with
  | nil => exact br_t rfl (br_t rfl (br_t rfl (nm_r ex h)))
  | cons f r =>
    have hr' : r.length + 1 < 1000 := hr
    have hd : ¬ nI (r.length + 1) = 0 := nI_ne0 (by omega) (by omega)
    exact br_t rfl (br_t rfl (br_f hd (nm_r ex h)))
theorem am_x62F {post : SX → Prop} {m : Nat} {x2 : Int32} (h : post (f_maxChoices, f_maxAlloc, f_held, f_stage, f_solutions, f_failures, f_lastKind, f_lastValue, f_lastChoices, f_lastChoiceCount, f_lastAllocCount, f_steering, f_steeringLength, f_pathLeft, 1, f_choicesMade, f_allocsMade, f_visiting, f_position, f_environment, f_resultIsClosure, f_resultValue, f_depth, a_kinds, a_args, a_ends, a_locationVariable, a_locationOuter, a_locationIsClosure, a_locationValue, a_closureToken, a_closureEnvironment, a_frameToken, a_frameEnvironment, a_frameHasFirst, a_frameFirstIsClosure, a_frameFirstValue)) : wX_runPath_62 post (wX_runPath_34 post (m + 1)) x2 f_maxChoices f_maxAlloc f_held f_stage f_solutions f_failures f_lastKind f_lastValue f_lastChoices f_lastChoiceCount f_lastAllocCount f_steering f_steeringLength f_pathLeft 1 f_choicesMade f_allocsMade f_visiting f_position f_environment f_resultIsClosure f_resultValue f_depth a_kinds a_args a_ends a_locationVariable a_locationOuter a_locationIsClosure a_locationValue a_closureToken a_closureEnvironment a_frameToken a_frameEnvironment a_frameHasFirst a_frameFirstIsClosure a_frameFirstValue := by
  refine br_f (by decide) (nm_e ?_)
  rw [wX_runPath_34]
  exact br_c (fun _ => h) (fun _ => br_f (by decide) h)
end
/-- the machine at the head of its loop, about to visit p -/
def am_LXv (post : SX → Prop) (n : Nat) (tk ta en : Nat → Int32) (mC mA : Nat) (ph sols fails lK lV lH lL lA pl : Int32) (b : Nat → Bool) (L0 : Nat) (a p : Nat) (e : Int32) (r : List am_F) (s : am_S) : Prop :=
  ∀ (m : Nat) (rC rW : Int32) (jV jO jC jW kT kE fT fE fH fC fW : Nat → Int32), a + 128 * (16 - am_al s) ≤ m → m ≤ 1000000 → am_sx s jV jO jC jW kT kE → am_fx s fT fE fH fC fW r →
  wX_runPath_34 post (m + 1) 0 (nI (1000000 - m)) (nI mC) (nI mA) (nI n) ph sols fails lK lV lH lL lA (nI (am_nm b (am_mx L0 (am_us s)))) (nI (am_mx L0 (am_us s))) pl 0 (nI (am_us s)) (nI (am_al s)) 1 (nI p) (am_xe s e) rC rW (nI r.length) tk ta en jV jO jC jW kT kE fT fE fH fC fW
/-- .. and about to hand a value to its top frame -/
def am_LXr (post : SX → Prop) (n : Nat) (tk ta en : Nat → Int32) (mC mA : Nat) (ph sols fails lK lV lH lL lA pl : Int32) (b : Nat → Bool) (L0 : Nat) (a : Nat) (k v : Int32) (r : List am_F) (s : am_S) : Prop :=
  ∀ (m : Nat) (po ev : Int32) (jV jO jC jW kT kE fT fE fH fC fW : Nat → Int32), a + 128 * (16 - am_al s) ≤ m → m ≤ 1000000 → am_sx s jV jO jC jW kT kE → am_fx s fT fE fH fC fW r →
  wX_runPath_34 post (m + 1) (am_en r) (nI (1000000 - m)) (nI mC) (nI mA) (nI n) ph sols fails lK lV lH lL lA (nI (am_nm b (am_mx L0 (am_us s)))) (nI (am_mx L0 (am_us s))) pl 0 (nI (am_us s)) (nI (am_al s)) 0 po ev (am_xk k) (am_xv s k v) (nI r.length) tk ta en jV jO jC jW kT kE fT fE fH fC fW
/-- a path that failed -/
def am_QX (post : SX → Prop) (n : Nat) (tk ta en : Nat → Int32) (mC mA : Nat) (ph sols fails lK lV lH lL lA pl : Int32) (b : Nat → Bool) (L0 : Nat) (s : am_S) : Prop :=
  ∀ (f_allocsMade f_visiting f_position f_environment f_resultIsClosure f_resultValue f_depth : Int32) (jV jO jC jW kT kE fT fE fH fC fW : Nat → Int32), post (nI mC, nI mA, nI n, ph, sols, fails, lK, lV, lH, lL, lA, nI (am_nm b (am_mx L0 (am_us s))), nI (am_mx L0 (am_us s)), pl, 1, nI (am_us s), f_allocsMade, f_visiting, f_position, f_environment, f_resultIsClosure, f_resultValue, f_depth, tk, ta, en, jV, jO, jC, jW, kT, kE, fT, fE, fH, fC, fW)
def am_LX (post : SX → Prop) (n : Nat) (tk ta en : Nat → Int32) (mC mA : Nat) (ph sols fails lK lV lH lL lA pl : Int32) (b : Nat → Bool) (L0 : Nat) (a : Nat) (stk : List am_F) (rk rv : Int32) (s : am_S) : Prop :=
  match stk with
  | [] => am_LXr post n tk ta en mC mA ph sols fails lK lV lH lL lA pl b L0 a rk rv [] s
  | (p, e, st, k, v) :: r => if st = 0 then am_LXv post n tk ta en mC mA ph sols fails lK lV lH lL lA pl b L0 a p e (am_er tk r) s else am_LXr post n tk ta en mC mA ph sols fails lK lV lH lL lA pl b L0 a rk rv (am_er tk ((p, e, st, k, v) :: r)) s
end
section
/-! the component's machine keeps the rules -/
theorem am_fx_open {s : am_S} {fT fE fH fC fW : Nat → Int32} {p : Nat} {e : Int32} {r : List am_F} (he : am_okE s e) (h : am_fx s fT fE fH fC fW r) : am_fx s (upd fT r.length (nI p)) (upd fE r.length (am_xe s e)) (upd fH r.length 0) fC fW ((p, e, 1, 0, 0) :: r) :=
  ⟨am_up_s, he, am_up_s, Or.inl ⟨rfl, am_up_s⟩, am_fx_eq r (fun i hi => ⟨am_up_n (Nat.ne_of_lt hi), am_up_n (Nat.ne_of_lt hi), am_up_n (Nat.ne_of_lt hi), rfl, rfl⟩) h⟩
theorem am_fx_hold {s : am_S} {fT fE fH fC fW : Nat → Int32} {p : Nat} {e k v : Int32} {r : List am_F} (hv : am_okV s k v) (h : am_fx s fT fE fH fC fW ((p, e, 1, 0, 0) :: r)) : am_fx s fT fE (upd fH r.length 1) (upd fC r.length (am_xk k)) (upd fW r.length (am_xv s k v)) ((p, e, 2, k, v) :: r) :=
  ⟨h.1, h.2.1, h.2.2.1, Or.inr ⟨rfl, am_up_s, hv, am_up_s, am_up_s⟩, am_fx_eq r (fun i hi => ⟨rfl, rfl, am_up_n (Nat.ne_of_lt hi), am_up_n (Nat.ne_of_lt hi), am_up_n (Nat.ne_of_lt hi)⟩) h.2.2.2.2⟩
theorem am_xe_nl (x e k v : Int32) {s : am_S} (hb : am_nf s ≤ 16) : am_xe (am_nl x e k v s) (nI (am_nf s)) = nI (am_al s) := by
  rw [am_xe_f _ (by omega)]
  exact congrArg nI am_un_s
theorem am_xv_nk (p : Nat) (e : Int32) {s : am_S} (hb : am_nc s ≤ 16) : am_xv (am_nk p e s) 2 (nI (am_nc s)) = nI (am_al s) := by
  rw [am_xv_2 _ (by omega)]
  exact congrArg nI am_un_s
section
variable {post : SX → Prop} {n : Nat} {tk ta en : Nat → Int32} {mC mA : Nat} {ph sols fails lK lV lH lL lA pl : Int32} {b : Nat → Bool} {L0 : Nat} {a p : Nat} {e : Int32} {r : List am_F} {k v rk rv : Int32} {s : am_S}
theorem am_xr_monoV {a' : Nat} (ha : a ≤ a') (h : am_LXv post n tk ta en mC mA ph sols fails lK lV lH lL lA pl b L0 a p e r s) : am_LXv post n tk ta en mC mA ph sols fails lK lV lH lL lA pl b L0 a' p e r s :=
  fun m rC rW jV jO jC jW kT kE fT fE fH fC fW h1 h2 h3 h4 => h m rC rW jV jO jC jW kT kE fT fE fH fC fW (by omega) h2 h3 h4
theorem am_xr_monoR {a' : Nat} (ha : a ≤ a') (h : am_LXr post n tk ta en mC mA ph sols fails lK lV lH lL lA pl b L0 a rk rv r s) : am_LXr post n tk ta en mC mA ph sols fails lK lV lH lL lA pl b L0 a' rk rv r s :=
  fun m po ev jV jO jC jW kT kE fT fE fH fC fW h1 h2 h3 h4 => h m po ev jV jO jC jW kT kE fT fE fH fC fW (by omega) h2 h3 h4
theorem am_xr_out (hn : n ≤ 32) (hq : am_QX post n tk ta en mC mA ph sols fails lK lV lH lL lA pl b L0 s) : am_LXv post n tk ta en mC mA ph sols fails lK lV lH lL lA pl b L0 (a + 1) n e r s := by
  intro m rC rW jV jO jC jW kT kE fT fE fH fC fW h1 h2 h3 h4
  obtain ⟨m, rfl⟩ : ∃ m', m = m' + 1 := ⟨m - 1, by omega⟩
  have g1 : ¬ (1000000 : Int32) ≤ nI (1000000 - (m + 1)) := nI_ge (b := 1000000) (by omega) (by decide)
  have g2 : nI (1000000 - (m + 1)) + 1 = nI (1000000 - m) := by rw [nI_1]; exact congrArg nI (by omega)
  rw [wX_runPath_34]
  refine br_f g1 (br_t rfl (br_f (by decide) ?_))
  unfold wpX_visitToken
  exact am_xholdsF (Nat.le_refl n) hn (br_t rfl (am_x62F (hq _ _ _ _ _ _ _ _ _ _ _ _ _ _ _ _ _ _)))
theorem am_xr_num (hn : n ≤ 32) (hA : mA ≤ 16) (hen : ∀ i, i < n → en i = nI (am_eN tk n i)) (w : am_WF n mC mA s) (he : am_okE s e) (hp : p < n) (hl : r.length < 544) (hk : tk p = 0) (h : am_LXr post n tk ta en mC mA ph sols fails lK lV lH lL lA pl b L0 a 1 (ta p) r s) : am_LXv post n tk ta en mC mA ph sols fails lK lV lH lL lA pl b L0 (a + 1) p e r s := by
  intro m rC rW jV jO jC jW kT kE fT fE fH fC fW h1 h2 h3 h4
  obtain ⟨m, rfl⟩ : ∃ m', m = m' + 1 := ⟨m - 1, by omega⟩
  have g1 : ¬ (1000000 : Int32) ≤ nI (1000000 - (m + 1)) := nI_ge (b := 1000000) (by omega) (by decide)
  have g2 : nI (1000000 - (m + 1)) + 1 = nI (1000000 - m) := by rw [nI_1]; exact congrArg nI (by omega)
  have hc : (nI p).toNatClampNeg = p := nI_clamp (by omega)
  have v32 : vp_in (nI p) 32 := vp_in_nI (by omega) (by decide)
  have ek : tk (nI p).toNatClampNeg = tk p := by rw [hc]
  have ea : ta (nI p).toNatClampNeg = ta p := by rw [hc]
  have hh := h m (nI p) (am_xe s e) jV jO jC jW kT kE fT fE fH fC fW (by omega) (by omega) h3 h4
  rw [am_xk_1, am_xv_1] at hh
  rw [wX_runPath_34]
  refine br_f g1 (br_t rfl (br_f (by decide) ?_))
  unfold wpX_visitToken
  exact am_xholdsT hn hp (br_f (by decide) ⟨v32, nm_r ek (br_f (by rw [hk]; decide) (br_f (by rw [hk]; decide) (br_t hk (⟨v32, am_xgi ea (am_x62r r (by omega) g2 hh)⟩))))⟩)
theorem am_xr_var (hn : n ≤ 32) (hA : mA ≤ 16) (hen : ∀ i, i < n → en i = nI (am_eN tk n i)) (w : am_WF n mC mA s) (he : am_okE s e) (hp : p < n) (hl : r.length < 544) (hk : tk p = 1) {f : Nat} (hf : f < am_nf s) (hlk : am_lk s (ta p) 17 e = nI f) (h : am_LXr post n tk ta en mC mA ph sols fails lK lV lH lL lA pl b L0 a (am_fK s f) (am_fV s f) r s) : am_LXv post n tk ta en mC mA ph sols fails lK lV lH lL lA pl b L0 (a + 1) p e r s := by
  intro m rC rW jV jO jC jW kT kE fT fE fH fC fW h1 h2 h3 h4
  obtain ⟨m, rfl⟩ : ∃ m', m = m' + 1 := ⟨m - 1, by omega⟩
  have g1 : ¬ (1000000 : Int32) ≤ nI (1000000 - (m + 1)) := nI_ge (b := 1000000) (by omega) (by decide)
  have g2 : nI (1000000 - (m + 1)) + 1 = nI (1000000 - m) := by rw [nI_1]; exact congrArg nI (by omega)
  have hc : (nI p).toNatClampNeg = p := nI_clamp (by omega)
  have v32 : vp_in (nI p) 32 := vp_in_nI (by omega) (by decide)
  have ek : tk (nI p).toNatClampNeg = tk p := by rw [hc]
  have ea : ta (nI p).toNatClampNeg = ta p := by rw [hc]
  rw [wX_runPath_34]
  refine br_f g1 (br_t rfl (br_f (by decide) ?_))
  unfold wpX_visitToken
  exact am_xholdsT hn hp (br_f (by decide) ⟨v32, nm_r ek (br_f (by rw [hk]; decide) (br_f (by rw [hk]; decide) (br_f (by rw [hk]; decide) (br_t hk (⟨v32, am_xrvT w hA h3 he ea hf hlk (am_x62r r (by omega) g2 (h m (nI p) (am_xe s e) jV jO jC jW kT kE fT fE fH fC fW (by omega) (by omega) h3 h4))⟩)))))⟩)
theorem am_xr_varF (hn : n ≤ 32) (hA : mA ≤ 16) (hen : ∀ i, i < n → en i = nI (am_eN tk n i)) (w : am_WF n mC mA s) (he : am_okE s e) (hp : p < n) (hl : r.length < 544) (hk : tk p = 1) (hlk : am_lk s (ta p) 17 e = -1) (hq : am_QX post n tk ta en mC mA ph sols fails lK lV lH lL lA pl b L0 s) : am_LXv post n tk ta en mC mA ph sols fails lK lV lH lL lA pl b L0 (a + 1) p e r s := by
  intro m rC rW jV jO jC jW kT kE fT fE fH fC fW h1 h2 h3 h4
  obtain ⟨m, rfl⟩ : ∃ m', m = m' + 1 := ⟨m - 1, by omega⟩
  have g1 : ¬ (1000000 : Int32) ≤ nI (1000000 - (m + 1)) := nI_ge (b := 1000000) (by omega) (by decide)
  have g2 : nI (1000000 - (m + 1)) + 1 = nI (1000000 - m) := by rw [nI_1]; exact congrArg nI (by omega)
  have hc : (nI p).toNatClampNeg = p := nI_clamp (by omega)
  have v32 : vp_in (nI p) 32 := vp_in_nI (by omega) (by decide)
  have ek : tk (nI p).toNatClampNeg = tk p := by rw [hc]
  have ea : ta (nI p).toNatClampNeg = ta p := by rw [hc]
  rw [wX_runPath_34]
  refine br_f g1 (br_t rfl (br_f (by decide) ?_))
  unfold wpX_visitToken
  exact am_xholdsT hn hp (br_f (by decide) ⟨v32, nm_r ek (br_f (by rw [hk]; decide) (br_f (by rw [hk]; decide) (br_f (by rw [hk]; decide) (br_t hk (⟨v32, am_xrvF w hA h3 he ea hlk (am_x62F (hq _ _ _ _ _ _ _ _ _ _ _ _ _ _ _ _ _ _))⟩)))))⟩)
theorem am_xr_open2 (hn : n ≤ 32) (hA : mA ≤ 16) (hen : ∀ i, i < n → en i = nI (am_eN tk n i)) (w : am_WF n mC mA s) (he : am_okE s e) (hp : p < n) (hl : r.length < 544) (hk : tk p = 2) (h : am_LXv post n tk ta en mC mA ph sols fails lK lV lH lL lA pl b L0 a (p + 1) e ((p, e, 1, 0, 0) :: r) s) : am_LXv post n tk ta en mC mA ph sols fails lK lV lH lL lA pl b L0 (a + 1) p e r s := by
  intro m rC rW jV jO jC jW kT kE fT fE fH fC fW h1 h2 h3 h4
  obtain ⟨m, rfl⟩ : ∃ m', m = m' + 1 := ⟨m - 1, by omega⟩
  have g1 : ¬ (1000000 : Int32) ≤ nI (1000000 - (m + 1)) := nI_ge (b := 1000000) (by omega) (by decide)
  have g2 : nI (1000000 - (m + 1)) + 1 = nI (1000000 - m) := by rw [nI_1]; exact congrArg nI (by omega)
  have hc : (nI p).toNatClampNeg = p := nI_clamp (by omega)
  have v32 : vp_in (nI p) 32 := vp_in_nI (by omega) (by decide)
  have ek : tk (nI p).toNatClampNeg = tk p := by rw [hc]
  have ea : ta (nI p).toNatClampNeg = ta p := by rw [hc]
  rw [wX_runPath_34]
  refine br_f g1 (br_t rfl (br_f (by decide) ?_))
  unfold wpX_visitToken
  exact am_xholdsT hn hp (br_f (by decide) ⟨v32, nm_r ek (br_f (by rw [hk]; decide) (br_f (by rw [hk]; decide) (br_f (by rw [hk]; decide) (br_f (by rw [hk]; decide) (br_t hk (am_xopen hl (am_x62v g2 (h m rC rW jV jO jC jW kT kE (upd fT r.length (nI p)) (upd fE r.length (am_xe s e)) (upd fH r.length 0) fC fW (by omega) (by omega) h3 (am_fx_open he h4)))))))))⟩)
theorem am_xr_open3 (hn : n ≤ 32) (hA : mA ≤ 16) (hen : ∀ i, i < n → en i = nI (am_eN tk n i)) (w : am_WF n mC mA s) (he : am_okE s e) (hp : p < n) (hl : r.length < 544) (hk : tk p = 3) (h : am_LXv post n tk ta en mC mA ph sols fails lK lV lH lL lA pl b L0 a (p + 1) e ((p, e, 1, 0, 0) :: r) s) : am_LXv post n tk ta en mC mA ph sols fails lK lV lH lL lA pl b L0 (a + 1) p e r s := by
  intro m rC rW jV jO jC jW kT kE fT fE fH fC fW h1 h2 h3 h4
  obtain ⟨m, rfl⟩ : ∃ m', m = m' + 1 := ⟨m - 1, by omega⟩
  have g1 : ¬ (1000000 : Int32) ≤ nI (1000000 - (m + 1)) := nI_ge (b := 1000000) (by omega) (by decide)
  have g2 : nI (1000000 - (m + 1)) + 1 = nI (1000000 - m) := by rw [nI_1]; exact congrArg nI (by omega)
  have hc : (nI p).toNatClampNeg = p := nI_clamp (by omega)
  have v32 : vp_in (nI p) 32 := vp_in_nI (by omega) (by decide)
  have ek : tk (nI p).toNatClampNeg = tk p := by rw [hc]
  have ea : ta (nI p).toNatClampNeg = ta p := by rw [hc]
  rw [wX_runPath_34]
  refine br_f g1 (br_t rfl (br_f (by decide) ?_))
  unfold wpX_visitToken
  exact am_xholdsT hn hp (br_f (by decide) ⟨v32, nm_r ek (br_f (by rw [hk]; decide) (br_f (by rw [hk]; decide) (br_f (by rw [hk]; decide) (br_f (by rw [hk]; decide) (br_f (by rw [hk]; decide) (br_t hk (am_xopen hl (am_x62v g2 (h m rC rW jV jO jC jW kT kE (upd fT r.length (nI p)) (upd fE r.length (am_xe s e)) (upd fH r.length 0) fC fW (by omega) (by omega) h3 (am_fx_open he h4))))))))))⟩)
theorem am_xr_open4 (hn : n ≤ 32) (hA : mA ≤ 16) (hen : ∀ i, i < n → en i = nI (am_eN tk n i)) (w : am_WF n mC mA s) (he : am_okE s e) (hp : p < n) (hl : r.length < 544) (hk : tk p = 4) (h : am_LXv post n tk ta en mC mA ph sols fails lK lV lH lL lA pl b L0 a (p + 1) e ((p, e, 1, 0, 0) :: r) s) : am_LXv post n tk ta en mC mA ph sols fails lK lV lH lL lA pl b L0 (a + 1) p e r s := by
  intro m rC rW jV jO jC jW kT kE fT fE fH fC fW h1 h2 h3 h4
  obtain ⟨m, rfl⟩ : ∃ m', m = m' + 1 := ⟨m - 1, by omega⟩
  have g1 : ¬ (1000000 : Int32) ≤ nI (1000000 - (m + 1)) := nI_ge (b := 1000000) (by omega) (by decide)
  have g2 : nI (1000000 - (m + 1)) + 1 = nI (1000000 - m) := by rw [nI_1]; exact congrArg nI (by omega)
  have hc : (nI p).toNatClampNeg = p := nI_clamp (by omega)
  have v32 : vp_in (nI p) 32 := vp_in_nI (by omega) (by decide)
  have ek : tk (nI p).toNatClampNeg = tk p := by rw [hc]
  have ea : ta (nI p).toNatClampNeg = ta p := by rw [hc]
  rw [wX_runPath_34]
  refine br_f g1 (br_t rfl (br_f (by decide) ?_))
  unfold wpX_visitToken
  exact am_xholdsT hn hp (br_f (by decide) ⟨v32, nm_r ek (br_f (by rw [hk]; decide) (br_f (by rw [hk]; decide) (br_f (by rw [hk]; decide) (br_f (by rw [hk]; decide) (br_f (by rw [hk]; decide) (br_f (by rw [hk]; decide) (br_t hk (am_xopen hl (am_x62v g2 (h m rC rW jV jO jC jW kT kE (upd fT r.length (nI p)) (upd fE r.length (am_xe s e)) (upd fH r.length 0) fC fW (by omega) (by omega) h3 (am_fx_open he h4)))))))))))⟩)
theorem am_xr_open5 (hn : n ≤ 32) (hA : mA ≤ 16) (hen : ∀ i, i < n → en i = nI (am_eN tk n i)) (w : am_WF n mC mA s) (he : am_okE s e) (hp : p < n) (hl : r.length < 544) (hk : tk p = 5) (h : am_LXv post n tk ta en mC mA ph sols fails lK lV lH lL lA pl b L0 a (p + 1) e ((p, e, 1, 0, 0) :: r) s) : am_LXv post n tk ta en mC mA ph sols fails lK lV lH lL lA pl b L0 (a + 1) p e r s := by
  intro m rC rW jV jO jC jW kT kE fT fE fH fC fW h1 h2 h3 h4
  obtain ⟨m, rfl⟩ : ∃ m', m = m' + 1 := ⟨m - 1, by omega⟩
  have g1 : ¬ (1000000 : Int32) ≤ nI (1000000 - (m + 1)) := nI_ge (b := 1000000) (by omega) (by decide)
  have g2 : nI (1000000 - (m + 1)) + 1 = nI (1000000 - m) := by rw [nI_1]; exact congrArg nI (by omega)
  have hc : (nI p).toNatClampNeg = p := nI_clamp (by omega)
  have v32 : vp_in (nI p) 32 := vp_in_nI (by omega) (by decide)
  have ek : tk (nI p).toNatClampNeg = tk p := by rw [hc]
  have ea : ta (nI p).toNatClampNeg = ta p := by rw [hc]
  rw [wX_runPath_34]
  refine br_f g1 (br_t rfl (br_f (by decide) ?_))
  unfold wpX_visitToken
  exact am_xholdsT hn hp (br_f (by decide) ⟨v32, nm_r ek (br_f (by rw [hk]; decide) (br_f (by rw [hk]; decide) (br_f (by rw [hk]; decide) (br_f (by rw [hk]; decide) (br_f (by rw [hk]; decide) (br_f (by rw [hk]; decide) (br_f (by rw [hk]; decide) (br_t hk (am_xopen hl (am_x62v g2 (h m rC rW jV jO jC jW kT kE (upd fT r.length (nI p)) (upd fE r.length (am_xe s e)) (upd fH r.length 0) fC fW (by omega) (by omega) h3 (am_fx_open he h4))))))))))))⟩)
theorem am_xr_open6 (hn : n ≤ 32) (hA : mA ≤ 16) (hen : ∀ i, i < n → en i = nI (am_eN tk n i)) (w : am_WF n mC mA s) (he : am_okE s e) (hp : p < n) (hl : r.length < 544) (hk : tk p = 6) (h : am_LXv post n tk ta en mC mA ph sols fails lK lV lH lL lA pl b L0 a (p + 1) e ((p, e, 1, 0, 0) :: r) s) : am_LXv post n tk ta en mC mA ph sols fails lK lV lH lL lA pl b L0 (a + 1) p e r s := by
  intro m rC rW jV jO jC jW kT kE fT fE fH fC fW h1 h2 h3 h4
  obtain ⟨m, rfl⟩ : ∃ m', m = m' + 1 := ⟨m - 1, by omega⟩
  have g1 : ¬ (1000000 : Int32) ≤ nI (1000000 - (m + 1)) := nI_ge (b := 1000000) (by omega) (by decide)
  have g2 : nI (1000000 - (m + 1)) + 1 = nI (1000000 - m) := by rw [nI_1]; exact congrArg nI (by omega)
  have hc : (nI p).toNatClampNeg = p := nI_clamp (by omega)
  have v32 : vp_in (nI p) 32 := vp_in_nI (by omega) (by decide)
  have ek : tk (nI p).toNatClampNeg = tk p := by rw [hc]
  have ea : ta (nI p).toNatClampNeg = ta p := by rw [hc]
  rw [wX_runPath_34]
  refine br_f g1 (br_t rfl (br_f (by decide) ?_))
  unfold wpX_visitToken
  exact am_xholdsT hn hp (br_f (by decide) ⟨v32, nm_r ek (br_f (by rw [hk]; decide) (br_f (by rw [hk]; decide) (br_f (by rw [hk]; decide) (br_f (by rw [hk]; decide) (br_f (by rw [hk]; decide) (br_f (by rw [hk]; decide) (br_f (by rw [hk]; decide) (br_f (by rw [hk]; decide) (br_t hk (am_xopen hl (am_x62v g2 (h m rC rW jV jO jC jW kT kE (upd fT r.length (nI p)) (upd fE r.length (am_xe s e)) (upd fH r.length 0) fC fW (by omega) (by omega) h3 (am_fx_open he h4)))))))))))))⟩)
theorem am_xr_open7 (hn : n ≤ 32) (hA : mA ≤ 16) (hen : ∀ i, i < n → en i = nI (am_eN tk n i)) (w : am_WF n mC mA s) (he : am_okE s e) (hp : p < n) (hl : r.length < 544) (hk : tk p = 7) (h : am_LXv post n tk ta en mC mA ph sols fails lK lV lH lL lA pl b L0 a (p + 1) e ((p, e, 1, 0, 0) :: r) s) : am_LXv post n tk ta en mC mA ph sols fails lK lV lH lL lA pl b L0 (a + 1) p e r s := by
  intro m rC rW jV jO jC jW kT kE fT fE fH fC fW h1 h2 h3 h4
  obtain ⟨m, rfl⟩ : ∃ m', m = m' + 1 := ⟨m - 1, by omega⟩
  have g1 : ¬ (1000000 : Int32) ≤ nI (1000000 - (m + 1)) := nI_ge (b := 1000000) (by omega) (by decide)
  have g2 : nI (1000000 - (m + 1)) + 1 = nI (1000000 - m) := by rw [nI_1]; exact congrArg nI (by omega)
  have hc : (nI p).toNatClampNeg = p := nI_clamp (by omega)
  have v32 : vp_in (nI p) 32 := vp_in_nI (by omega) (by decide)
  have ek : tk (nI p).toNatClampNeg = tk p := by rw [hc]
  have ea : ta (nI p).toNatClampNeg = ta p := by rw [hc]
  rw [wX_runPath_34]
  refine br_f g1 (br_t rfl (br_f (by decide) ?_))
  unfold wpX_visitToken
  exact am_xholdsT hn hp (br_f (by decide) ⟨v32, nm_r ek (br_f (by rw [hk]; decide) (br_f (by rw [hk]; decide) (br_f (by rw [hk]; decide) (br_f (by rw [hk]; decide) (br_f (by rw [hk]; decide) (br_f (by rw [hk]; decide) (br_f (by rw [hk]; decide) (br_f (by rw [hk]; decide) (br_f (by rw [hk]; decide) (br_t hk (am_xopen hl (am_x62v g2 (h m rC rW jV jO jC jW kT kE (upd fT r.length (nI p)) (upd fE r.length (am_xe s e)) (upd fH r.length 0) fC fW (by omega) (by omega) h3 (am_fx_open he h4))))))))))))))⟩)
theorem am_xr_open10 (hn : n ≤ 32) (hA : mA ≤ 16) (hen : ∀ i, i < n → en i = nI (am_eN tk n i)) (w : am_WF n mC mA s) (he : am_okE s e) (hp : p < n) (hl : r.length < 544) (hk : tk p = 10) (h : am_LXv post n tk ta en mC mA ph sols fails lK lV lH lL lA pl b L0 a (p + 1) e ((p, e, 1, 0, 0) :: r) s) : am_LXv post n tk ta en mC mA ph sols fails lK lV lH lL lA pl b L0 (a + 1) p e r s := by
  intro m rC rW jV jO jC jW kT kE fT fE fH fC fW h1 h2 h3 h4
  obtain ⟨m, rfl⟩ : ∃ m', m = m' + 1 := ⟨m - 1, by omega⟩
  have g1 : ¬ (1000000 : Int32) ≤ nI (1000000 - (m + 1)) := nI_ge (b := 1000000) (by omega) (by decide)
  have g2 : nI (1000000 - (m + 1)) + 1 = nI (1000000 - m) := by rw [nI_1]; exact congrArg nI (by omega)
  have hc : (nI p).toNatClampNeg = p := nI_clamp (by omega)
  have v32 : vp_in (nI p) 32 := vp_in_nI (by omega) (by decide)
  have ek : tk (nI p).toNatClampNeg = tk p := by rw [hc]
  have ea : ta (nI p).toNatClampNeg = ta p := by rw [hc]
  rw [wX_runPath_34]
  refine br_f g1 (br_t rfl (br_f (by decide) ?_))
  unfold wpX_visitToken
  exact am_xholdsT hn hp (br_f (by decide) ⟨v32, nm_r ek (br_f (by rw [hk]; decide) (br_f (by rw [hk]; decide) (br_f (by rw [hk]; decide) (br_f (by rw [hk]; decide) (br_f (by rw [hk]; decide) (br_f (by rw [hk]; decide) (br_f (by rw [hk]; decide) (br_f (by rw [hk]; decide) (br_f (by rw [hk]; decide) (br_f (by rw [hk]; decide) (br_f (by rw [hk]; decide) (br_f (by rw [hk]; decide) (br_t hk (am_xopen hl (am_x62v g2 (h m rC rW jV jO jC jW kT kE (upd fT r.length (nI p)) (upd fE r.length (am_xe s e)) (upd fH r.length 0) fC fW (by omega) (by omega) h3 (am_fx_open he h4)))))))))))))))))⟩)
theorem am_xr_open11 (hn : n ≤ 32) (hA : mA ≤ 16) (hen : ∀ i, i < n → en i = nI (am_eN tk n i)) (w : am_WF n mC mA s) (he : am_okE s e) (hp : p < n) (hl : r.length < 544) (hk : tk p = 11) (h : am_LXv post n tk ta en mC mA ph sols fails lK lV lH lL lA pl b L0 a (p + 1) e ((p, e, 1, 0, 0) :: r) s) : am_LXv post n tk ta en mC mA ph sols fails lK lV lH lL lA pl b L0 (a + 1) p e r s := by
  intro m rC rW jV jO jC jW kT kE fT fE fH fC fW h1 h2 h3 h4
  obtain ⟨m, rfl⟩ : ∃ m', m = m' + 1 := ⟨m - 1, by omega⟩
  have g1 : ¬ (1000000 : Int32) ≤ nI (1000000 - (m + 1)) := nI_ge (b := 1000000) (by omega) (by decide)
  have g2 : nI (1000000 - (m + 1)) + 1 = nI (1000000 - m) := by rw [nI_1]; exact congrArg nI (by omega)
  have hc : (nI p).toNatClampNeg = p := nI_clamp (by omega)
  have v32 : vp_in (nI p) 32 := vp_in_nI (by omega) (by decide)
  have ek : tk (nI p).toNatClampNeg = tk p := by rw [hc]
  have ea : ta (nI p).toNatClampNeg = ta p := by rw [hc]
  rw [wX_runPath_34]
  refine br_f g1 (br_t rfl (br_f (by decide) ?_))
  unfold wpX_visitToken
  exact am_xholdsT hn hp (br_f (by decide) ⟨v32, nm_r ek (br_f (by rw [hk]; decide) (br_f (by rw [hk]; decide) (br_f (by rw [hk]; decide) (br_f (by rw [hk]; decide) (br_f (by rw [hk]; decide) (br_f (by rw [hk]; decide) (br_f (by rw [hk]; decide) (br_f (by rw [hk]; decide) (br_f (by rw [hk]; decide) (br_f (by rw [hk]; decide) (br_f (by rw [hk]; decide) (br_f (by rw [hk]; decide) (br_f (by rw [hk]; decide) (br_t hk (am_xopen hl (am_x62v g2 (h m rC rW jV jO jC jW kT kE (upd fT r.length (nI p)) (upd fE r.length (am_xe s e)) (upd fH r.length 0) fC fW (by omega) (by omega) h3 (am_fx_open he h4))))))))))))))))))⟩)
theorem am_xr_open13 (hn : n ≤ 32) (hA : mA ≤ 16) (hen : ∀ i, i < n → en i = nI (am_eN tk n i)) (w : am_WF n mC mA s) (he : am_okE s e) (hp : p < n) (hl : r.length < 544) (hk : tk p = 13) (h : am_LXv post n tk ta en mC mA ph sols fails lK lV lH lL lA pl b L0 a (p + 1) e ((p, e, 1, 0, 0) :: r) s) : am_LXv post n tk ta en mC mA ph sols fails lK lV lH lL lA pl b L0 (a + 1) p e r s := by
  intro m rC rW jV jO jC jW kT kE fT fE fH fC fW h1 h2 h3 h4
  obtain ⟨m, rfl⟩ : ∃ m', m = m' + 1 := ⟨m - 1, by omega⟩
  have g1 : ¬ (1000000 : Int32) ≤ nI (1000000 - (m + 1)) := nI_ge (b := 1000000) (by omega) (by decide)
  have g2 : nI (1000000 - (m + 1)) + 1 = nI (1000000 - m) := by rw [nI_1]; exact congrArg nI (by omega)
  have hc : (nI p).toNatClampNeg = p := nI_clamp (by omega)
  have v32 : vp_in (nI p) 32 := vp_in_nI (by omega) (by decide)
  have ek : tk (nI p).toNatClampNeg = tk p := by rw [hc]
  have ea : ta (nI p).toNatClampNeg = ta p := by rw [hc]
  rw [wX_runPath_34]
  refine br_f g1 (br_t rfl (br_f (by decide) ?_))
  unfold wpX_visitToken
  exact am_xholdsT hn hp (br_f (by decide) ⟨v32, nm_r ek (br_f (by rw [hk]; decide) (br_t (by rw [hk]; decide) (am_xopen hl (am_x62v g2 (h m rC rW jV jO jC jW kT kE (upd fT r.length (nI p)) (upd fE r.length (am_xe s e)) (upd fH r.length 0) fC fW (by omega) (by omega) h3 (am_fx_open he h4))))))⟩)
theorem am_xr_open14 (hn : n ≤ 32) (hA : mA ≤ 16) (hen : ∀ i, i < n → en i = nI (am_eN tk n i)) (w : am_WF n mC mA s) (he : am_okE s e) (hp : p < n) (hl : r.length < 544) (hk : tk p = 14) (h : am_LXv post n tk ta en mC mA ph sols fails lK lV lH lL lA pl b L0 a (p + 1) e ((p, e, 1, 0, 0) :: r) s) : am_LXv post n tk ta en mC mA ph sols fails lK lV lH lL lA pl b L0 (a + 1) p e r s := by
  intro m rC rW jV jO jC jW kT kE fT fE fH fC fW h1 h2 h3 h4
  obtain ⟨m, rfl⟩ : ∃ m', m = m' + 1 := ⟨m - 1, by omega⟩
  have g1 : ¬ (1000000 : Int32) ≤ nI (1000000 - (m + 1)) := nI_ge (b := 1000000) (by omega) (by decide)
  have g2 : nI (1000000 - (m + 1)) + 1 = nI (1000000 - m) := by rw [nI_1]; exact congrArg nI (by omega)
  have hc : (nI p).toNatClampNeg = p := nI_clamp (by omega)
  have v32 : vp_in (nI p) 32 := vp_in_nI (by omega) (by decide)
  have ek : tk (nI p).toNatClampNeg = tk p := by rw [hc]
  have ea : ta (nI p).toNatClampNeg = ta p := by rw [hc]
  rw [wX_runPath_34]
  refine br_f g1 (br_t rfl (br_f (by decide) ?_))
  unfold wpX_visitToken
  exact am_xholdsT hn hp (br_f (by decide) ⟨v32, nm_r ek (br_f (by rw [hk]; decide) (br_t (by rw [hk]; decide) (am_xopen hl (am_x62v g2 (h m rC rW jV jO jC jW kT kE (upd fT r.length (nI p)) (upd fE r.length (am_xe s e)) (upd fH r.length 0) fC fW (by omega) (by omega) h3 (am_fx_open he h4))))))⟩)
theorem am_xr_open15 (hn : n ≤ 32) (hA : mA ≤ 16) (hen : ∀ i, i < n → en i = nI (am_eN tk n i)) (w : am_WF n mC mA s) (he : am_okE s e) (hp : p < n) (hl : r.length < 544) (hk : tk p = 15) (h : am_LXv post n tk ta en mC mA ph sols fails lK lV lH lL lA pl b L0 a (p + 1) e ((p, e, 1, 0, 0) :: r) s) : am_LXv post n tk ta en mC mA ph sols fails lK lV lH lL lA pl b L0 (a + 1) p e r s := by
  intro m rC rW jV jO jC jW kT kE fT fE fH fC fW h1 h2 h3 h4
  obtain ⟨m, rfl⟩ : ∃ m', m = m' + 1 := ⟨m - 1, by omega⟩
  have g1 : ¬ (1000000 : Int32) ≤ nI (1000000 - (m + 1)) := nI_ge (b := 1000000) (by omega) (by decide)
  have g2 : nI (1000000 - (m + 1)) + 1 = nI (1000000 - m) := by rw [nI_1]; exact congrArg nI (by omega)
  have hc : (nI p).toNatClampNeg = p := nI_clamp (by omega)
  have v32 : vp_in (nI p) 32 := vp_in_nI (by omega) (by decide)
  have ek : tk (nI p).toNatClampNeg = tk p := by rw [hc]
  have ea : ta (nI p).toNatClampNeg = ta p := by rw [hc]
  rw [wX_runPath_34]
  refine br_f g1 (br_t rfl (br_f (by decide) ?_))
  unfold wpX_visitToken
  exact am_xholdsT hn hp (br_f (by decide) ⟨v32, nm_r ek (br_f (by rw [hk]; decide) (br_t (by rw [hk]; decide) (am_xopen hl (am_x62v g2 (h m rC rW jV jO jC jW kT kE (upd fT r.length (nI p)) (upd fE r.length (am_xe s e)) (upd fH r.length 0) fC fW (by omega) (by omega) h3 (am_fx_open he h4))))))⟩)
theorem am_xr_open (hn : n ≤ 32) (hA : mA ≤ 16) (hen : ∀ i, i < n → en i = nI (am_eN tk n i)) (w : am_WF n mC mA s) (he : am_okE s e) (hp : p < n) (hl : r.length < 544) (hk : am_psh (tk p)) (h : am_LXv post n tk ta en mC mA ph sols fails lK lV lH lL lA pl b L0 a (p + 1) e ((p, e, 1, 0, 0) :: r) s) : am_LXv post n tk ta en mC mA ph sols fails lK lV lH lL lA pl b L0 (a + 1) p e r s := by
  rcases hk with q | q | q | q | q | q | q | q | q | q | q
  · exact am_xr_open7 hn hA hen w he hp hl q h
  · exact am_xr_open10 hn hA hen w he hp hl q h
  · exact am_xr_open11 hn hA hen w he hp hl q h
  · exact am_xr_open13 hn hA hen w he hp hl q h
  · exact am_xr_open14 hn hA hen w he hp hl q h
  · exact am_xr_open15 hn hA hen w he hp hl q h
  · exact am_xr_open2 hn hA hen w he hp hl q h
  · exact am_xr_open3 hn hA hen w he hp hl q h
  · exact am_xr_open4 hn hA hen w he hp hl q h
  · exact am_xr_open5 hn hA hen w he hp hl q h
  · exact am_xr_open6 hn hA hen w he hp hl q h
theorem am_xr_amb (hn : n ≤ 32) (hA : mA ≤ 16) (hen : ∀ i, i < n → en i = nI (am_eN tk n i)) (w : am_WF n mC mA s) (he : am_okE s e) (hp : p < n) (hl : r.length < 544) (hC : mC ≤ 6) (hL : L0 ≤ 6) (hz : ∀ j, L0 ≤ j → b j = false) (hk : tk p = 8) (hu : am_us s < mC) (h : am_LXv post n tk ta en mC mA ph sols fails lK lV lH lL lA pl b L0 a (am_q8 n tk p (b (am_us s))) e r (am_tick s)) : am_LXv post n tk ta en mC mA ph sols fails lK lV lH lL lA pl b L0 (a + 1) p e r s := by
  intro m rC rW jV jO jC jW kT kE fT fE fH fC fW h1 h2 h3 h4
  obtain ⟨m, rfl⟩ : ∃ m', m = m' + 1 := ⟨m - 1, by omega⟩
  have g1 : ¬ (1000000 : Int32) ≤ nI (1000000 - (m + 1)) := nI_ge (b := 1000000) (by omega) (by decide)
  have g2 : nI (1000000 - (m + 1)) + 1 = nI (1000000 - m) := by rw [nI_1]; exact congrArg nI (by omega)
  have hc : (nI p).toNatClampNeg = p := nI_clamp (by omega)
  have v32 : vp_in (nI p) 32 := vp_in_nI (by omega) (by decide)
  have ek : tk (nI p).toNatClampNeg = tk p := by rw [hc]
  have ea : ta (nI p).toNatClampNeg = ta p := by rw [hc]
  have at1 := am_al_tick s
  have b12 := am_nf16 w hA
  rw [wX_runPath_34]
  refine br_f g1 (br_t rfl (br_f (by decide) ?_))
  unfold wpX_visitToken
  exact am_xholdsT hn hp (br_f (by decide) ⟨v32, nm_r ek (br_f (by rw [hk]; decide) (br_f (by rw [hk]; decide) (br_f (by rw [hk]; decide) (br_f (by rw [hk]; decide) (br_f (by rw [hk]; decide) (br_f (by rw [hk]; decide) (br_f (by rw [hk]; decide) (br_f (by rw [hk]; decide) (br_f (by rw [hk]; decide) (br_f (by rw [hk]; decide) (br_t hk (am_xchoose hn hp hen hu hC hL hz (am_x62v g2 (h m rC rW jV jO jC jW kT kE fT fE fH fC fW (by omega) (by omega) h3 (am_fx_x (am_ext_tick s) b12.1 b12.2.1 r h4)))))))))))))))⟩)
theorem am_xr_ambF (hn : n ≤ 32) (hA : mA ≤ 16) (hen : ∀ i, i < n → en i = nI (am_eN tk n i)) (w : am_WF n mC mA s) (he : am_okE s e) (hp : p < n) (hl : r.length < 544) (hC : mC ≤ 6) (hk : tk p = 8) (hu : mC ≤ am_us s) (hq : am_QX post n tk ta en mC mA ph sols fails lK lV lH lL lA pl b L0 s) : am_LXv post n tk ta en mC mA ph sols fails lK lV lH lL lA pl b L0 (a + 1) p e r s := by
  intro m rC rW jV jO jC jW kT kE fT fE fH fC fW h1 h2 h3 h4
  obtain ⟨m, rfl⟩ : ∃ m', m = m' + 1 := ⟨m - 1, by omega⟩
  have g1 : ¬ (1000000 : Int32) ≤ nI (1000000 - (m + 1)) := nI_ge (b := 1000000) (by omega) (by decide)
  have g2 : nI (1000000 - (m + 1)) + 1 = nI (1000000 - m) := by rw [nI_1]; exact congrArg nI (by omega)
  have hc : (nI p).toNatClampNeg = p := nI_clamp (by omega)
  have v32 : vp_in (nI p) 32 := vp_in_nI (by omega) (by decide)
  have ek : tk (nI p).toNatClampNeg = tk p := by rw [hc]
  have ea : ta (nI p).toNatClampNeg = ta p := by rw [hc]
  have hu2 := w.1
  rw [wX_runPath_34]
  refine br_f g1 (br_t rfl (br_f (by decide) ?_))
  unfold wpX_visitToken
  exact am_xholdsT hn hp (br_f (by decide) ⟨v32, nm_r ek (br_f (by rw [hk]; decide) (br_f (by rw [hk]; decide) (br_f (by rw [hk]; decide) (br_f (by rw [hk]; decide) (br_f (by rw [hk]; decide) (br_f (by rw [hk]; decide) (br_f (by rw [hk]; decide) (br_f (by rw [hk]; decide) (br_f (by rw [hk]; decide) (br_f (by rw [hk]; decide) (br_t hk (br_f (nI_nlt hu (by omega)) (am_x62F (hq _ _ _ _ _ _ _ _ _ _ _ _ _ _ _ _ _ _))))))))))))))⟩)
theorem am_xr_fail (hn : n ≤ 32) (hA : mA ≤ 16) (hen : ∀ i, i < n → en i = nI (am_eN tk n i)) (w : am_WF n mC mA s) (he : am_okE s e) (hp : p < n) (hl : r.length < 544) (hk : tk p = 9) (hq : am_QX post n tk ta en mC mA ph sols fails lK lV lH lL lA pl b L0 s) : am_LXv post n tk ta en mC mA ph sols fails lK lV lH lL lA pl b L0 (a + 1) p e r s := by
  intro m rC rW jV jO jC jW kT kE fT fE fH fC fW h1 h2 h3 h4
  obtain ⟨m, rfl⟩ : ∃ m', m = m' + 1 := ⟨m - 1, by omega⟩
  have g1 : ¬ (1000000 : Int32) ≤ nI (1000000 - (m + 1)) := nI_ge (b := 1000000) (by omega) (by decide)
  have g2 : nI (1000000 - (m + 1)) + 1 = nI (1000000 - m) := by rw [nI_1]; exact congrArg nI (by omega)
  have hc : (nI p).toNatClampNeg = p := nI_clamp (by omega)
  have v32 : vp_in (nI p) 32 := vp_in_nI (by omega) (by decide)
  have ek : tk (nI p).toNatClampNeg = tk p := by rw [hc]
  have ea : ta (nI p).toNatClampNeg = ta p := by rw [hc]
  rw [wX_runPath_34]
  refine br_f g1 (br_t rfl (br_f (by decide) ?_))
  unfold wpX_visitToken
  exact am_xholdsT hn hp (br_f (by decide) ⟨v32, nm_r ek (br_f (by rw [hk]; decide) (br_f (by rw [hk]; decide) (br_f (by rw [hk]; decide) (br_f (by rw [hk]; decide) (br_f (by rw [hk]; decide) (br_f (by rw [hk]; decide) (br_f (by rw [hk]; decide) (br_f (by rw [hk]; decide) (br_f (by rw [hk]; decide) (br_f (by rw [hk]; decide) (br_f (by rw [hk]; decide) (br_t hk (am_x62F (hq _ _ _ _ _ _ _ _ _ _ _ _ _ _ _ _ _ _))))))))))))))⟩)
theorem am_xr_lam (hn : n ≤ 32) (hA : mA ≤ 16) (hen : ∀ i, i < n → en i = nI (am_eN tk n i)) (w : am_WF n mC mA s) (he : am_okE s e) (hp : p < n) (hl : r.length < 544) (hk : tk p = 12) (ha : am_al s < mA) (h : am_LXr post n tk ta en mC mA ph sols fails lK lV lH lL lA pl b L0 a 2 (nI (am_nc s)) r (am_nk p e s)) : am_LXv post n tk ta en mC mA ph sols fails lK lV lH lL lA pl b L0 (a + 1) p e r s := by
  intro m rC rW jV jO jC jW kT kE fT fE fH fC fW h1 h2 h3 h4
  obtain ⟨m, rfl⟩ : ∃ m', m = m' + 1 := ⟨m - 1, by omega⟩
  have g1 : ¬ (1000000 : Int32) ≤ nI (1000000 - (m + 1)) := nI_ge (b := 1000000) (by omega) (by decide)
  have g2 : nI (1000000 - (m + 1)) + 1 = nI (1000000 - m) := by rw [nI_1]; exact congrArg nI (by omega)
  have hc : (nI p).toNatClampNeg = p := nI_clamp (by omega)
  have v32 : vp_in (nI p) 32 := vp_in_nI (by omega) (by decide)
  have ek : tk (nI p).toNatClampNeg = tk p := by rw [hc]
  have ea : ta (nI p).toNatClampNeg = ta p := by rw [hc]
  have an := am_al_nk p e s
  have b12 := am_nf16 w hA
  have hh := h m (nI p) (am_xe s e) jV jO jC jW (upd kT (am_al s) (nI p)) (upd kE (am_al s) (am_xe s e)) fT fE fH fC fW (by omega) (by omega) (am_sx_nk w hA he h3) (am_fx_x (am_ext_nk p e s) b12.1 b12.2.1 r h4)
  rw [am_xk_2, am_xv_nk p e b12.2.1] at hh
  rw [wX_runPath_34]
  refine br_f g1 (br_t rfl (br_f (by decide) ?_))
  unfold wpX_visitToken
  exact am_xholdsT hn hp (br_f (by decide) ⟨v32, nm_r ek (br_f (by rw [hk]; decide) (br_f (by rw [hk]; decide) (br_f (by rw [hk]; decide) (br_f (by rw [hk]; decide) (br_f (by rw [hk]; decide) (br_f (by rw [hk]; decide) (br_f (by rw [hk]; decide) (br_f (by rw [hk]; decide) (br_f (by rw [hk]; decide) (br_f (by rw [hk]; decide) (br_f (by rw [hk]; decide) (br_f (by rw [hk]; decide) (br_f (by rw [hk]; decide) (br_f (by rw [hk]; decide) (br_t hk (am_xmcT ha hA (am_x62r r (by omega) g2 hh)))))))))))))))))⟩)
theorem am_xr_lamF (hn : n ≤ 32) (hA : mA ≤ 16) (hen : ∀ i, i < n → en i = nI (am_eN tk n i)) (w : am_WF n mC mA s) (he : am_okE s e) (hp : p < n) (hl : r.length < 544) (hk : tk p = 12) (ha : mA ≤ am_al s) (hq : am_QX post n tk ta en mC mA ph sols fails lK lV lH lL lA pl b L0 s) : am_LXv post n tk ta en mC mA ph sols fails lK lV lH lL lA pl b L0 (a + 1) p e r s := by
  intro m rC rW jV jO jC jW kT kE fT fE fH fC fW h1 h2 h3 h4
  obtain ⟨m, rfl⟩ : ∃ m', m = m' + 1 := ⟨m - 1, by omega⟩
  have g1 : ¬ (1000000 : Int32) ≤ nI (1000000 - (m + 1)) := nI_ge (b := 1000000) (by omega) (by decide)
  have g2 : nI (1000000 - (m + 1)) + 1 = nI (1000000 - m) := by rw [nI_1]; exact congrArg nI (by omega)
  have hc : (nI p).toNatClampNeg = p := nI_clamp (by omega)
  have v32 : vp_in (nI p) 32 := vp_in_nI (by omega) (by decide)
  have ek : tk (nI p).toNatClampNeg = tk p := by rw [hc]
  have ea : ta (nI p).toNatClampNeg = ta p := by rw [hc]
  rw [wX_runPath_34]
  refine br_f g1 (br_t rfl (br_f (by decide) ?_))
  unfold wpX_visitToken
  exact am_xholdsT hn hp (br_f (by decide) ⟨v32, nm_r ek (br_f (by rw [hk]; decide) (br_f (by rw [hk]; decide) (br_f (by rw [hk]; decide) (br_f (by rw [hk]; decide) (br_f (by rw [hk]; decide) (br_f (by rw [hk]; decide) (br_f (by rw [hk]; decide) (br_f (by rw [hk]; decide) (br_f (by rw [hk]; decide) (br_f (by rw [hk]; decide) (br_f (by rw [hk]; decide) (br_f (by rw [hk]; decide) (br_f (by rw [hk]; decide) (br_f (by rw [hk]; decide) (br_t hk (am_xmcF ha (am_nf16 w hA).2.2 (am_x62F (hq _ _ _ _ _ _ _ _ _ _ _ _ _ _ _ _ _ _))))))))))))))))))⟩)
theorem am_xr_hold2 (hn : n ≤ 32) (hA : mA ≤ 16) (hen : ∀ i, i < n → en i = nI (am_eN tk n i)) (w : am_WF n mC mA s) (he : am_okE s e) (hp : p < n) (hl : r.length < 544) (hv : am_okV s rk rv) (hk : tk p = 2) (h : am_LXv post n tk ta en mC mA ph sols fails lK lV lH lL lA pl b L0 a (am_eN tk n (p + 1)) e ((p, e, 2, rk, rv) :: r) s) : am_LXr post n tk ta en mC mA ph sols fails lK lV lH lL lA pl b L0 (a + 1) rk rv ((p, e, 1, 0, 0) :: r) s := by
  intro m po ev jV jO jC jW kT kE fT fE fH fC fW h1 h2 h3 h4
  obtain ⟨m, rfl⟩ : ∃ m', m = m' + 1 := ⟨m - 1, by omega⟩
  have g1 : ¬ (1000000 : Int32) ≤ nI (1000000 - (m + 1)) := nI_ge (b := 1000000) (by omega) (by decide)
  have g2 : nI (1000000 - (m + 1)) + 1 = nI (1000000 - m) := by rw [nI_1]; exact congrArg nI (by omega)
  have hf0 := h4
  obtain ⟨q1, q2, q3, q4, q5⟩ := h4
  have hc : (nI r.length).toNatClampNeg = r.length := nI_clamp (by omega)
  have v544 : vp_in (nI r.length) 544 := vp_in_nI hl (by decide)
  have et : fT (nI r.length).toNatClampNeg = nI p := by rw [hc]; exact q1
  have ee : fE (nI r.length).toNatClampNeg = am_xe s e := by rw [hc]; exact q3
  have d0 : (0 : Int32) < nI (r.length + 1) := nI_lt (a := 0) (by omega) (by omega)
  have hh0 : fH (nI r.length).toNatClampNeg = 0 := by
    rw [hc]
    rcases q4 with ⟨_, z⟩ | ⟨z, _⟩
    · exact z
    · exact absurd z (by decide)
  rw [wX_runPath_34]
  refine br_f g1 (br_t rfl (br_t rfl ?_))
  exact br_t d0 (nm_r (nI_pred r.length) ⟨v544, nm_r et (am_xtk hn hp (am_xta hn hp (am_xend hn hp hen (nI_1 p) ⟨v544, nm_r ee (br_t (by rw [hk]; decide) (⟨v544, br_t hh0 (am_xhf hl (am_nark rk) (am_x62v g2 (h m (am_xk rk) (am_xv s rk rv) jV jO jC jW kT kE fT fE (upd fH r.length 1) (upd fC r.length (am_xk rk)) (upd fW r.length (am_xv s rk rv)) (by omega) (by omega) h3 (am_fx_hold hv hf0))))⟩))⟩)))⟩)
theorem am_xr_hold3 (hn : n ≤ 32) (hA : mA ≤ 16) (hen : ∀ i, i < n → en i = nI (am_eN tk n i)) (w : am_WF n mC mA s) (he : am_okE s e) (hp : p < n) (hl : r.length < 544) (hv : am_okV s rk rv) (hk : tk p = 3) (h : am_LXv post n tk ta en mC mA ph sols fails lK lV lH lL lA pl b L0 a (am_eN tk n (p + 1)) e ((p, e, 2, rk, rv) :: r) s) : am_LXr post n tk ta en mC mA ph sols fails lK lV lH lL lA pl b L0 (a + 1) rk rv ((p, e, 1, 0, 0) :: r) s := by
  intro m po ev jV jO jC jW kT kE fT fE fH fC fW h1 h2 h3 h4
  obtain ⟨m, rfl⟩ : ∃ m', m = m' + 1 := ⟨m - 1, by omega⟩
  have g1 : ¬ (1000000 : Int32) ≤ nI (1000000 - (m + 1)) := nI_ge (b := 1000000) (by omega) (by decide)
  have g2 : nI (1000000 - (m + 1)) + 1 = nI (1000000 - m) := by rw [nI_1]; exact congrArg nI (by omega)
  have hf0 := h4
  obtain ⟨q1, q2, q3, q4, q5⟩ := h4
  have hc : (nI r.length).toNatClampNeg = r.length := nI_clamp (by omega)
  have v544 : vp_in (nI r.length) 544 := vp_in_nI hl (by decide)
  have et : fT (nI r.length).toNatClampNeg = nI p := by rw [hc]; exact q1
  have ee : fE (nI r.length).toNatClampNeg = am_xe s e := by rw [hc]; exact q3
  have d0 : (0 : Int32) < nI (r.length + 1) := nI_lt (a := 0) (by omega) (by omega)
  have hh0 : fH (nI r.length).toNatClampNeg = 0 := by
    rw [hc]
    rcases q4 with ⟨_, z⟩ | ⟨z, _⟩
    · exact z
    · exact absurd z (by decide)
  rw [wX_runPath_34]
  refine br_f g1 (br_t rfl (br_t rfl ?_))
  exact br_t d0 (nm_r (nI_pred r.length) ⟨v544, nm_r et (am_xtk hn hp (am_xta hn hp (am_xend hn hp hen (nI_1 p) ⟨v544, nm_r ee (br_t (by rw [hk]; decide) (⟨v544, br_t hh0 (am_xhf hl (am_nark rk) (am_x62v g2 (h m (am_xk rk) (am_xv s rk rv) jV jO jC jW kT kE fT fE (upd fH r.length 1) (upd fC r.length (am_xk rk)) (upd fW r.length (am_xv s rk rv)) (by omega) (by omega) h3 (am_fx_hold hv hf0))))⟩))⟩)))⟩)
theorem am_xr_hold4 (hn : n ≤ 32) (hA : mA ≤ 16) (hen : ∀ i, i < n → en i = nI (am_eN tk n i)) (w : am_WF n mC mA s) (he : am_okE s e) (hp : p < n) (hl : r.length < 544) (hv : am_okV s rk rv) (hk : tk p = 4) (h : am_LXv post n tk ta en mC mA ph sols fails lK lV lH lL lA pl b L0 a (am_eN tk n (p + 1)) e ((p, e, 2, rk, rv) :: r) s) : am_LXr post n tk ta en mC mA ph sols fails lK lV lH lL lA pl b L0 (a + 1) rk rv ((p, e, 1, 0, 0) :: r) s := by
  intro m po ev jV jO jC jW kT kE fT fE fH fC fW h1 h2 h3 h4
  obtain ⟨m, rfl⟩ : ∃ m', m = m' + 1 := ⟨m - 1, by omega⟩
  have g1 : ¬ (1000000 : Int32) ≤ nI (1000000 - (m + 1)) := nI_ge (b := 1000000) (by omega) (by decide)
  have g2 : nI (1000000 - (m + 1)) + 1 = nI (1000000 - m) := by rw [nI_1]; exact congrArg nI (by omega)
  have hf0 := h4
  obtain ⟨q1, q2, q3, q4, q5⟩ := h4
  have hc : (nI r.length).toNatClampNeg = r.length := nI_clamp (by omega)
  have v544 : vp_in (nI r.length) 544 := vp_in_nI hl (by decide)
  have et : fT (nI r.length).toNatClampNeg = nI p := by rw [hc]; exact q1
  have ee : fE (nI r.length).toNatClampNeg = am_xe s e := by rw [hc]; exact q3
  have d0 : (0 : Int32) < nI (r.length + 1) := nI_lt (a := 0) (by omega) (by omega)
  have hh0 : fH (nI r.length).toNatClampNeg = 0 := by
    rw [hc]
    rcases q4 with ⟨_, z⟩ | ⟨z, _⟩
    · exact z
    · exact absurd z (by decide)
  rw [wX_runPath_34]
  refine br_f g1 (br_t rfl (br_t rfl ?_))
  exact br_t d0 (nm_r (nI_pred r.length) ⟨v544, nm_r et (am_xtk hn hp (am_xta hn hp (am_xend hn hp hen (nI_1 p) ⟨v544, nm_r ee (br_t (by rw [hk]; decide) (⟨v544, br_t hh0 (am_xhf hl (am_nark rk) (am_x62v g2 (h m (am_xk rk) (am_xv s rk rv) jV jO jC jW kT kE fT fE (upd fH r.length 1) (upd fC r.length (am_xk rk)) (upd fW r.length (am_xv s rk rv)) (by omega) (by omega) h3 (am_fx_hold hv hf0))))⟩))⟩)))⟩)
theorem am_xr_hold5 (hn : n ≤ 32) (hA : mA ≤ 16) (hen : ∀ i, i < n → en i = nI (am_eN tk n i)) (w : am_WF n mC mA s) (he : am_okE s e) (hp : p < n) (hl : r.length < 544) (hv : am_okV s rk rv) (hk : tk p = 5) (h : am_LXv post n tk ta en mC mA ph sols fails lK lV lH lL lA pl b L0 a (am_eN tk n (p + 1)) e ((p, e, 2, rk, rv) :: r) s) : am_LXr post n tk ta en mC mA ph sols fails lK lV lH lL lA pl b L0 (a + 1) rk rv ((p, e, 1, 0, 0) :: r) s := by
  intro m po ev jV jO jC jW kT kE fT fE fH fC fW h1 h2 h3 h4
  obtain ⟨m, rfl⟩ : ∃ m', m = m' + 1 := ⟨m - 1, by omega⟩
  have g1 : ¬ (1000000 : Int32) ≤ nI (1000000 - (m + 1)) := nI_ge (b := 1000000) (by omega) (by decide)
  have g2 : nI (1000000 - (m + 1)) + 1 = nI (1000000 - m) := by rw [nI_1]; exact congrArg nI (by omega)
  have hf0 := h4
  obtain ⟨q1, q2, q3, q4, q5⟩ := h4
  have hc : (nI r.length).toNatClampNeg = r.length := nI_clamp (by omega)
  have v544 : vp_in (nI r.length) 544 := vp_in_nI hl (by decide)
  have et : fT (nI r.length).toNatClampNeg = nI p := by rw [hc]; exact q1
  have ee : fE (nI r.length).toNatClampNeg = am_xe s e := by rw [hc]; exact q3
  have d0 : (0 : Int32) < nI (r.length + 1) := nI_lt (a := 0) (by omega) (by omega)
  have hh0 : fH (nI r.length).toNatClampNeg = 0 := by
    rw [hc]
    rcases q4 with ⟨_, z⟩ | ⟨z, _⟩
    · exact z
    · exact absurd z (by decide)
  rw [wX_runPath_34]
  refine br_f g1 (br_t rfl (br_t rfl ?_))
  exact br_t d0 (nm_r (nI_pred r.length) ⟨v544, nm_r et (am_xtk hn hp (am_xta hn hp (am_xend hn hp hen (nI_1 p) ⟨v544, nm_r ee (br_t (by rw [hk]; decide) (⟨v544, br_t hh0 (am_xhf hl (am_nark rk) (am_x62v g2 (h m (am_xk rk) (am_xv s rk rv) jV jO jC jW kT kE fT fE (upd fH r.length 1) (upd fC r.length (am_xk rk)) (upd fW r.length (am_xv s rk rv)) (by omega) (by omega) h3 (am_fx_hold hv hf0))))⟩))⟩)))⟩)
theorem am_xr_hold6 (hn : n ≤ 32) (hA : mA ≤ 16) (hen : ∀ i, i < n → en i = nI (am_eN tk n i)) (w : am_WF n mC mA s) (he : am_okE s e) (hp : p < n) (hl : r.length < 544) (hv : am_okV s rk rv) (hk : tk p = 6) (h : am_LXv post n tk ta en mC mA ph sols fails lK lV lH lL lA pl b L0 a (am_eN tk n (p + 1)) e ((p, e, 2, rk, rv) :: r) s) : am_LXr post n tk ta en mC mA ph sols fails lK lV lH lL lA pl b L0 (a + 1) rk rv ((p, e, 1, 0, 0) :: r) s := by
  intro m po ev jV jO jC jW kT kE fT fE fH fC fW h1 h2 h3 h4
  obtain ⟨m, rfl⟩ : ∃ m', m = m' + 1 := ⟨m - 1, by omega⟩
  have g1 : ¬ (1000000 : Int32) ≤ nI (1000000 - (m + 1)) := nI_ge (b := 1000000) (by omega) (by decide)
  have g2 : nI (1000000 - (m + 1)) + 1 = nI (1000000 - m) := by rw [nI_1]; exact congrArg nI (by omega)
  have hf0 := h4
  obtain ⟨q1, q2, q3, q4, q5⟩ := h4
  have hc : (nI r.length).toNatClampNeg = r.length := nI_clamp (by omega)
  have v544 : vp_in (nI r.length) 544 := vp_in_nI hl (by decide)
  have et : fT (nI r.length).toNatClampNeg = nI p := by rw [hc]; exact q1
  have ee : fE (nI r.length).toNatClampNeg = am_xe s e := by rw [hc]; exact q3
  have d0 : (0 : Int32) < nI (r.length + 1) := nI_lt (a := 0) (by omega) (by omega)
  have hh0 : fH (nI r.length).toNatClampNeg = 0 := by
    rw [hc]
    rcases q4 with ⟨_, z⟩ | ⟨z, _⟩
    · exact z
    · exact absurd z (by decide)
  rw [wX_runPath_34]
  refine br_f g1 (br_t rfl (br_t rfl ?_))
  exact br_t d0 (nm_r (nI_pred r.length) ⟨v544, nm_r et (am_xtk hn hp (am_xta hn hp (am_xend hn hp hen (nI_1 p) ⟨v544, nm_r ee (br_t (by rw [hk]; decide) (⟨v544, br_t hh0 (am_xhf hl (am_nark rk) (am_x62v g2 (h m (am_xk rk) (am_xv s rk rv) jV jO jC jW kT kE fT fE (upd fH r.length 1) (upd fC r.length (am_xk rk)) (upd fW r.length (am_xv s rk rv)) (by omega) (by omega) h3 (am_fx_hold hv hf0))))⟩))⟩)))⟩)
theorem am_xr_hold13 (hn : n ≤ 32) (hA : mA ≤ 16) (hen : ∀ i, i < n → en i = nI (am_eN tk n i)) (w : am_WF n mC mA s) (he : am_okE s e) (hp : p < n) (hl : r.length < 544) (hv : am_okV s rk rv) (hk : tk p = 13) (h : am_LXv post n tk ta en mC mA ph sols fails lK lV lH lL lA pl b L0 a (am_eN tk n (p + 1)) e ((p, e, 2, rk, rv) :: r) s) : am_LXr post n tk ta en mC mA ph sols fails lK lV lH lL lA pl b L0 (a + 1) rk rv ((p, e, 1, 0, 0) :: r) s := by
  intro m po ev jV jO jC jW kT kE fT fE fH fC fW h1 h2 h3 h4
  obtain ⟨m, rfl⟩ : ∃ m', m = m' + 1 := ⟨m - 1, by omega⟩
  have g1 : ¬ (1000000 : Int32) ≤ nI (1000000 - (m + 1)) := nI_ge (b := 1000000) (by omega) (by decide)
  have g2 : nI (1000000 - (m + 1)) + 1 = nI (1000000 - m) := by rw [nI_1]; exact congrArg nI (by omega)
  have hf0 := h4
  obtain ⟨q1, q2, q3, q4, q5⟩ := h4
  have hc : (nI r.length).toNatClampNeg = r.length := nI_clamp (by omega)
  have v544 : vp_in (nI r.length) 544 := vp_in_nI hl (by decide)
  have et : fT (nI r.length).toNatClampNeg = nI p := by rw [hc]; exact q1
  have ee : fE (nI r.length).toNatClampNeg = am_xe s e := by rw [hc]; exact q3
  have d0 : (0 : Int32) < nI (r.length + 1) := nI_lt (a := 0) (by omega) (by omega)
  have hh0 : fH (nI r.length).toNatClampNeg = 0 := by
    rw [hc]
    rcases q4 with ⟨_, z⟩ | ⟨z, _⟩
    · exact z
    · exact absurd z (by decide)
  rw [wX_runPath_34]
  refine br_f g1 (br_t rfl (br_t rfl ?_))
  exact br_t d0 (nm_r (nI_pred r.length) ⟨v544, nm_r et (am_xtk hn hp (am_xta hn hp (am_xend hn hp hen (nI_1 p) ⟨v544, nm_r ee (br_f (by rw [hk]; decide) (br_f (by rw [hk]; decide) (br_f (by rw [hk]; decide) (br_f (by rw [hk]; decide) (br_f (by rw [hk]; decide) (br_f (by rw [hk]; decide) (br_f (by rw [hk]; decide) (br_f (by rw [hk]; decide) (br_t hk (⟨v544, br_t hh0 (am_xhf hl (am_nark rk) (am_x62v g2 (h m (am_xk rk) (am_xv s rk rv) jV jO jC jW kT kE fT fE (upd fH r.length 1) (upd fC r.length (am_xk rk)) (upd fW r.length (am_xv s rk rv)) (by omega) (by omega) h3 (am_fx_hold hv hf0))))⟩))))))))))⟩)))⟩)
theorem am_xr_calc2 (hn : n ≤ 32) (hA : mA ≤ 16) (hen : ∀ i, i < n → en i = nI (am_eN tk n i)) (w : am_WF n mC mA s) (he : am_okE s e) (hp : p < n) (hl : r.length < 544) (hk : tk p = 2) (h : am_LXr post n tk ta en mC mA ph sols fails lK lV lH lL lA pl b L0 a 1 (am_op (tk p) v rv) r s) : am_LXr post n tk ta en mC mA ph sols fails lK lV lH lL lA pl b L0 (a + 1) 1 rv ((p, e, 2, 1, v) :: r) s := by
  intro m po ev jV jO jC jW kT kE fT fE fH fC fW h1 h2 h3 h4
  obtain ⟨m, rfl⟩ : ∃ m', m = m' + 1 := ⟨m - 1, by omega⟩
  have g1 : ¬ (1000000 : Int32) ≤ nI (1000000 - (m + 1)) := nI_ge (b := 1000000) (by omega) (by decide)
  have g2 : nI (1000000 - (m + 1)) + 1 = nI (1000000 - m) := by rw [nI_1]; exact congrArg nI (by omega)
  have hf0 := h4
  obtain ⟨q1, q2, q3, q4, q5⟩ := h4
  have hc : (nI r.length).toNatClampNeg = r.length := nI_clamp (by omega)
  have v544 : vp_in (nI r.length) 544 := vp_in_nI hl (by decide)
  have et : fT (nI r.length).toNatClampNeg = nI p := by rw [hc]; exact q1
  have ee : fE (nI r.length).toNatClampNeg = am_xe s e := by rw [hc]; exact q3
  have d0 : (0 : Int32) < nI (r.length + 1) := nI_lt (a := 0) (by omega) (by omega)
  obtain ⟨z1, z2, z3, z4⟩ : fH r.length = 1 ∧ am_okV s 1 v ∧ fC r.length = am_xk 1 ∧ fW r.length = am_xv s 1 v := by
    rcases q4 with ⟨z, _⟩ | ⟨_, z⟩
    · exact absurd z (by decide)
    · exact z
  have hh1 : ¬ fH (nI r.length).toNatClampNeg = 0 := by rw [hc, z1]; decide
  have ec : fC (nI r.length).toNatClampNeg = am_xk 1 := by rw [hc]; exact z3
  have ew : fW (nI r.length).toNatClampNeg = am_xv s 1 v := by rw [hc]; exact z4
  rw [am_xk_1] at ec
  rw [am_xv_1] at ew
  have hh := h m po (am_xe s e) jV jO jC jW kT kE fT fE fH fC fW (by omega) (by omega) h3 q5
  rw [am_xk_1, am_xv_1] at hh
  have hb : am_bin (tk p) := by rw [hk]; unfold am_bin; decide
  rw [am_xk_1, am_xv_1]
  rw [wX_runPath_34]
  refine br_f g1 (br_t rfl (br_t rfl ?_))
  exact br_t d0 (nm_r (nI_pred r.length) ⟨v544, nm_r et (am_xtk hn hp (am_xta hn hp (am_xend hn hp hen (nI_1 p) ⟨v544, nm_r ee (br_t (by rw [hk]; decide) (⟨v544, br_f hh1 (br_f (by rw [hk]; decide) ⟨v544, br_t ec (br_t rfl ⟨v544, am_xcomb hb ew (am_xgi rfl (am_x62r r (by omega) g2 hh))⟩)⟩)⟩))⟩)))⟩)
theorem am_xr_calcF2 (hn : n ≤ 32) (hA : mA ≤ 16) (hen : ∀ i, i < n → en i = nI (am_eN tk n i)) (w : am_WF n mC mA s) (he : am_okE s e) (hp : p < n) (hl : r.length < 544) (hv : am_okV s rk rv) (hk : tk p = 2) (hno : ¬ (k = 1 ∧ rk = 1)) (hq : am_QX post n tk ta en mC mA ph sols fails lK lV lH lL lA pl b L0 s) : am_LXr post n tk ta en mC mA ph sols fails lK lV lH lL lA pl b L0 (a + 1) rk rv ((p, e, 2, k, v) :: r) s := by
  intro m po ev jV jO jC jW kT kE fT fE fH fC fW h1 h2 h3 h4
  obtain ⟨m, rfl⟩ : ∃ m', m = m' + 1 := ⟨m - 1, by omega⟩
  have g1 : ¬ (1000000 : Int32) ≤ nI (1000000 - (m + 1)) := nI_ge (b := 1000000) (by omega) (by decide)
  have g2 : nI (1000000 - (m + 1)) + 1 = nI (1000000 - m) := by rw [nI_1]; exact congrArg nI (by omega)
  have hf0 := h4
  obtain ⟨q1, q2, q3, q4, q5⟩ := h4
  have hc : (nI r.length).toNatClampNeg = r.length := nI_clamp (by omega)
  have v544 : vp_in (nI r.length) 544 := vp_in_nI hl (by decide)
  have et : fT (nI r.length).toNatClampNeg = nI p := by rw [hc]; exact q1
  have ee : fE (nI r.length).toNatClampNeg = am_xe s e := by rw [hc]; exact q3
  have d0 : (0 : Int32) < nI (r.length + 1) := nI_lt (a := 0) (by omega) (by omega)
  obtain ⟨z1, z2, z3, z4⟩ : fH r.length = 1 ∧ am_okV s k v ∧ fC r.length = am_xk k ∧ fW r.length = am_xv s k v := by
    rcases q4 with ⟨z, _⟩ | ⟨_, z⟩
    · exact absurd z (by decide)
    · exact z
  have hh1 : ¬ fH (nI r.length).toNatClampNeg = 0 := by rw [hc, z1]; decide
  have ec : fC (nI r.length).toNatClampNeg = am_xk k := by rw [hc]; exact z3
  have ew : fW (nI r.length).toNatClampNeg = am_xv s k v := by rw [hc]; exact z4
  rcases z2 with y | ⟨y, _⟩
  · rcases hv with y2 | ⟨y2, _⟩
    · exact absurd ⟨y, y2⟩ hno
    · rw [y, am_xk_1] at ec
      rw [y2, am_xk_2]
      rw [wX_runPath_34]
      refine br_f g1 (br_t rfl (br_t rfl ?_))
      exact br_t d0 (nm_r (nI_pred r.length) ⟨v544, nm_r et (am_xtk hn hp (am_xta hn hp (am_xend hn hp hen (nI_1 p) ⟨v544, nm_r ee (br_t (by rw [hk]; decide) (⟨v544, br_f hh1 (br_f (by rw [hk]; decide) ⟨v544, br_t ec (br_f (by decide) (am_x62F (hq _ _ _ _ _ _ _ _ _ _ _ _ _ _ _ _ _ _)))⟩)⟩))⟩)))⟩)
  · have nc : ¬ fC (nI r.length).toNatClampNeg = 0 := by rw [ec, y, am_xk_2]; decide
    rw [wX_runPath_34]
    refine br_f g1 (br_t rfl (br_t rfl ?_))
    exact br_t d0 (nm_r (nI_pred r.length) ⟨v544, nm_r et (am_xtk hn hp (am_xta hn hp (am_xend hn hp hen (nI_1 p) ⟨v544, nm_r ee (br_t (by rw [hk]; decide) (⟨v544, br_f hh1 (br_f (by rw [hk]; decide) ⟨v544, br_f nc (am_x62F (hq _ _ _ _ _ _ _ _ _ _ _ _ _ _ _ _ _ _))⟩)⟩))⟩)))⟩)
theorem am_xr_calc3 (hn : n ≤ 32) (hA : mA ≤ 16) (hen : ∀ i, i < n → en i = nI (am_eN tk n i)) (w : am_WF n mC mA s) (he : am_okE s e) (hp : p < n) (hl : r.length < 544) (hk : tk p = 3) (h : am_LXr post n tk ta en mC mA ph sols fails lK lV lH lL lA pl b L0 a 1 (am_op (tk p) v rv) r s) : am_LXr post n tk ta en mC mA ph sols fails lK lV lH lL lA pl b L0 (a + 1) 1 rv ((p, e, 2, 1, v) :: r) s := by
  intro m po ev jV jO jC jW kT kE fT fE fH fC fW h1 h2 h3 h4
  obtain ⟨m, rfl⟩ : ∃ m', m = m' + 1 := ⟨m - 1, by omega⟩
  have g1 : ¬ (1000000 : Int32) ≤ nI (1000000 - (m + 1)) := nI_ge (b := 1000000) (by omega) (by decide)
  have g2 : nI (1000000 - (m + 1)) + 1 = nI (1000000 - m) := by rw [nI_1]; exact congrArg nI (by omega)
  have hf0 := h4
  obtain ⟨q1, q2, q3, q4, q5⟩ := h4
  have hc : (nI r.length).toNatClampNeg = r.length := nI_clamp (by omega)
  have v544 : vp_in (nI r.length) 544 := vp_in_nI hl (by decide)
  have et : fT (nI r.length).toNatClampNeg = nI p := by rw [hc]; exact q1
  have ee : fE (nI r.length).toNatClampNeg = am_xe s e := by rw [hc]; exact q3
  have d0 : (0 : Int32) < nI (r.length + 1) := nI_lt (a := 0) (by omega) (by omega)
  obtain ⟨z1, z2, z3, z4⟩ : fH r.length = 1 ∧ am_okV s 1 v ∧ fC r.length = am_xk 1 ∧ fW r.length = am_xv s 1 v := by
    rcases q4 with ⟨z, _⟩ | ⟨_, z⟩
    · exact absurd z (by decide)
    · exact z
  have hh1 : ¬ fH (nI r.length).toNatClampNeg = 0 := by rw [hc, z1]; decide
  have ec : fC (nI r.length).toNatClampNeg = am_xk 1 := by rw [hc]; exact z3
  have ew : fW (nI r.length).toNatClampNeg = am_xv s 1 v := by rw [hc]; exact z4
  rw [am_xk_1] at ec
  rw [am_xv_1] at ew
  have hh := h m po (am_xe s e) jV jO jC jW kT kE fT fE fH fC fW (by omega) (by omega) h3 q5
  rw [am_xk_1, am_xv_1] at hh
  have hb : am_bin (tk p) := by rw [hk]; unfold am_bin; decide
  rw [am_xk_1, am_xv_1]
  rw [wX_runPath_34]
  refine br_f g1 (br_t rfl (br_t rfl ?_))
  exact br_t d0 (nm_r (nI_pred r.length) ⟨v544, nm_r et (am_xtk hn hp (am_xta hn hp (am_xend hn hp hen (nI_1 p) ⟨v544, nm_r ee (br_t (by rw [hk]; decide) (⟨v544, br_f hh1 (br_f (by rw [hk]; decide) ⟨v544, br_t ec (br_t rfl ⟨v544, am_xcomb hb ew (am_xgi rfl (am_x62r r (by omega) g2 hh))⟩)⟩)⟩))⟩)))⟩)
theorem am_xr_calcF3 (hn : n ≤ 32) (hA : mA ≤ 16) (hen : ∀ i, i < n → en i = nI (am_eN tk n i)) (w : am_WF n mC mA s) (he : am_okE s e) (hp : p < n) (hl : r.length < 544) (hv : am_okV s rk rv) (hk : tk p = 3) (hno : ¬ (k = 1 ∧ rk = 1)) (hq : am_QX post n tk ta en mC mA ph sols fails lK lV lH lL lA pl b L0 s) : am_LXr post n tk ta en mC mA ph sols fails lK lV lH lL lA pl b L0 (a + 1) rk rv ((p, e, 2, k, v) :: r) s := by
  intro m po ev jV jO jC jW kT kE fT fE fH fC fW h1 h2 h3 h4
  obtain ⟨m, rfl⟩ : ∃ m', m = m' + 1 := ⟨m - 1, by omega⟩
  have g1 : ¬ (1000000 : Int32) ≤ nI (1000000 - (m + 1)) := nI_ge (b := 1000000) (by omega) (by decide)
  have g2 : nI (1000000 - (m + 1)) + 1 = nI (1000000 - m) := by rw [nI_1]; exact congrArg nI (by omega)
  have hf0 := h4
  obtain ⟨q1, q2, q3, q4, q5⟩ := h4
  have hc : (nI r.length).toNatClampNeg = r.length := nI_clamp (by omega)
  have v544 : vp_in (nI r.length) 544 := vp_in_nI hl (by decide)
  have et : fT (nI r.length).toNatClampNeg = nI p := by rw [hc]; exact q1
  have ee : fE (nI r.length).toNatClampNeg = am_xe s e := by rw [hc]; exact q3
  have d0 : (0 : Int32) < nI (r.length + 1) := nI_lt (a := 0) (by omega) (by omega)
  obtain ⟨z1, z2, z3, z4⟩ : fH r.length = 1 ∧ am_okV s k v ∧ fC r.length = am_xk k ∧ fW r.length = am_xv s k v := by
    rcases q4 with ⟨z, _⟩ | ⟨_, z⟩
    · exact absurd z (by decide)
    · exact z
  have hh1 : ¬ fH (nI r.length).toNatClampNeg = 0 := by rw [hc, z1]; decide
  have ec : fC (nI r.length).toNatClampNeg = am_xk k := by rw [hc]; exact z3
  have ew : fW (nI r.length).toNatClampNeg = am_xv s k v := by rw [hc]; exact z4
  rcases z2 with y | ⟨y, _⟩
  · rcases hv with y2 | ⟨y2, _⟩
    · exact absurd ⟨y, y2⟩ hno
    · rw [y, am_xk_1] at ec
      rw [y2, am_xk_2]
      rw [wX_runPath_34]
      refine br_f g1 (br_t rfl (br_t rfl ?_))
      exact br_t d0 (nm_r (nI_pred r.length) ⟨v544, nm_r et (am_xtk hn hp (am_xta hn hp (am_xend hn hp hen (nI_1 p) ⟨v544, nm_r ee (br_t (by rw [hk]; decide) (⟨v544, br_f hh1 (br_f (by rw [hk]; decide) ⟨v544, br_t ec (br_f (by decide) (am_x62F (hq _ _ _ _ _ _ _ _ _ _ _ _ _ _ _ _ _ _)))⟩)⟩))⟩)))⟩)
  · have nc : ¬ fC (nI r.length).toNatClampNeg = 0 := by rw [ec, y, am_xk_2]; decide
    rw [wX_runPath_34]
    refine br_f g1 (br_t rfl (br_t rfl ?_))
    exact br_t d0 (nm_r (nI_pred r.length) ⟨v544, nm_r et (am_xtk hn hp (am_xta hn hp (am_xend hn hp hen (nI_1 p) ⟨v544, nm_r ee (br_t (by rw [hk]; decide) (⟨v544, br_f hh1 (br_f (by rw [hk]; decide) ⟨v544, br_f nc (am_x62F (hq _ _ _ _ _ _ _ _ _ _ _ _ _ _ _ _ _ _))⟩)⟩))⟩)))⟩)
theorem am_xr_calc4 (hn : n ≤ 32) (hA : mA ≤ 16) (hen : ∀ i, i < n → en i = nI (am_eN tk n i)) (w : am_WF n mC mA s) (he : am_okE s e) (hp : p < n) (hl : r.length < 544) (hk : tk p = 4) (h : am_LXr post n tk ta en mC mA ph sols fails lK lV lH lL lA pl b L0 a 1 (am_op (tk p) v rv) r s) : am_LXr post n tk ta en mC mA ph sols fails lK lV lH lL lA pl b L0 (a + 1) 1 rv ((p, e, 2, 1, v) :: r) s := by
  intro m po ev jV jO jC jW kT kE fT fE fH fC fW h1 h2 h3 h4
  obtain ⟨m, rfl⟩ : ∃ m', m = m' + 1 := ⟨m - 1, by omega⟩
  have g1 : ¬ (1000000 : Int32) ≤ nI (1000000 - (m + 1)) := nI_ge (b := 1000000) (by omega) (by decide)
  have g2 : nI (1000000 - (m + 1)) + 1 = nI (1000000 - m) := by rw [nI_1]; exact congrArg nI (by omega)
  have hf0 := h4
  obtain ⟨q1, q2, q3, q4, q5⟩ := h4
  have hc : (nI r.length).toNatClampNeg = r.length := nI_clamp (by omega)
  have v544 : vp_in (nI r.length) 544 := vp_in_nI hl (by decide)
  have et : fT (nI r.length).toNatClampNeg = nI p := by rw [hc]; exact q1
  have ee : fE (nI r.length).toNatClampNeg = am_xe s e := by rw [hc]; exact q3
  have d0 : (0 : Int32) < nI (r.length + 1) := nI_lt (a := 0) (by omega) (by omega)
  obtain ⟨z1, z2, z3, z4⟩ : fH r.length = 1 ∧ am_okV s 1 v ∧ fC r.length = am_xk 1 ∧ fW r.length = am_xv s 1 v := by
    rcases q4 with ⟨z, _⟩ | ⟨_, z⟩
    · exact absurd z (by decide)
    · exact z
  have hh1 : ¬ fH (nI r.length).toNatClampNeg = 0 := by rw [hc, z1]; decide
  have ec : fC (nI r.length).toNatClampNeg = am_xk 1 := by rw [hc]; exact z3
  have ew : fW (nI r.length).toNatClampNeg = am_xv s 1 v := by rw [hc]; exact z4
  rw [am_xk_1] at ec
  rw [am_xv_1] at ew
  have hh := h m po (am_xe s e) jV jO jC jW kT kE fT fE fH fC fW (by omega) (by omega) h3 q5
  rw [am_xk_1, am_xv_1] at hh
  have hb : am_bin (tk p) := by rw [hk]; unfold am_bin; decide
  rw [am_xk_1, am_xv_1]
  rw [wX_runPath_34]
  refine br_f g1 (br_t rfl (br_t rfl ?_))
  exact br_t d0 (nm_r (nI_pred r.length) ⟨v544, nm_r et (am_xtk hn hp (am_xta hn hp (am_xend hn hp hen (nI_1 p) ⟨v544, nm_r ee (br_t (by rw [hk]; decide) (⟨v544, br_f hh1 (br_f (by rw [hk]; decide) ⟨v544, br_t ec (br_t rfl ⟨v544, am_xcomb hb ew (am_xgi rfl (am_x62r r (by omega) g2 hh))⟩)⟩)⟩))⟩)))⟩)
theorem am_xr_calcF4 (hn : n ≤ 32) (hA : mA ≤ 16) (hen : ∀ i, i < n → en i = nI (am_eN tk n i)) (w : am_WF n mC mA s) (he : am_okE s e) (hp : p < n) (hl : r.length < 544) (hv : am_okV s rk rv) (hk : tk p = 4) (hno : ¬ (k = 1 ∧ rk = 1)) (hq : am_QX post n tk ta en mC mA ph sols fails lK lV lH lL lA pl b L0 s) : am_LXr post n tk ta en mC mA ph sols fails lK lV lH lL lA pl b L0 (a + 1) rk rv ((p, e, 2, k, v) :: r) s := by
  intro m po ev jV jO jC jW kT kE fT fE fH fC fW h1 h2 h3 h4
  obtain ⟨m, rfl⟩ : ∃ m', m = m' + 1 := ⟨m - 1, by omega⟩
  have g1 : ¬ (1000000 : Int32) ≤ nI (1000000 - (m + 1)) := nI_ge (b := 1000000) (by omega) (by decide)
  have g2 : nI (1000000 - (m + 1)) + 1 = nI (1000000 - m) := by rw [nI_1]; exact congrArg nI (by omega)
  have hf0 := h4
  obtain ⟨q1, q2, q3, q4, q5⟩ := h4
  have hc : (nI r.length).toNatClampNeg = r.length := nI_clamp (by omega)
  have v544 : vp_in (nI r.length) 544 := vp_in_nI hl (by decide)
  have et : fT (nI r.length).toNatClampNeg = nI p := by rw [hc]; exact q1
  have ee : fE (nI r.length).toNatClampNeg = am_xe s e := by rw [hc]; exact q3
  have d0 : (0 : Int32) < nI (r.length + 1) := nI_lt (a := 0) (by omega) (by omega)
  obtain ⟨z1, z2, z3, z4⟩ : fH r.length = 1 ∧ am_okV s k v ∧ fC r.length = am_xk k ∧ fW r.length = am_xv s k v := by
    rcases q4 with ⟨z, _⟩ | ⟨_, z⟩
    · exact absurd z (by decide)
    · exact z
  have hh1 : ¬ fH (nI r.length).toNatClampNeg = 0 := by rw [hc, z1]; decide
  have ec : fC (nI r.length).toNatClampNeg = am_xk k := by rw [hc]; exact z3
  have ew : fW (nI r.length).toNatClampNeg = am_xv s k v := by rw [hc]; exact z4
  rcases z2 with y | ⟨y, _⟩
  · rcases hv with y2 | ⟨y2, _⟩
    · exact absurd ⟨y, y2⟩ hno
    · rw [y, am_xk_1] at ec
      rw [y2, am_xk_2]
      rw [wX_runPath_34]
      refine br_f g1 (br_t rfl (br_t rfl ?_))
      exact br_t d0 (nm_r (nI_pred r.length) ⟨v544, nm_r et (am_xtk hn hp (am_xta hn hp (am_xend hn hp hen (nI_1 p) ⟨v544, nm_r ee (br_t (by rw [hk]; decide) (⟨v544, br_f hh1 (br_f (by rw [hk]; decide) ⟨v544, br_t ec (br_f (by decide) (am_x62F (hq _ _ _ _ _ _ _ _ _ _ _ _ _ _ _ _ _ _)))⟩)⟩))⟩)))⟩)
  · have nc : ¬ fC (nI r.length).toNatClampNeg = 0 := by rw [ec, y, am_xk_2]; decide
    rw [wX_runPath_34]
    refine br_f g1 (br_t rfl (br_t rfl ?_))
    exact br_t d0 (nm_r (nI_pred r.length) ⟨v544, nm_r et (am_xtk hn hp (am_xta hn hp (am_xend hn hp hen (nI_1 p) ⟨v544, nm_r ee (br_t (by rw [hk]; decide) (⟨v544, br_f hh1 (br_f (by rw [hk]; decide) ⟨v544, br_f nc (am_x62F (hq _ _ _ _ _ _ _ _ _ _ _ _ _ _ _ _ _ _))⟩)⟩))⟩)))⟩)
theorem am_xr_calc5 (hn : n ≤ 32) (hA : mA ≤ 16) (hen : ∀ i, i < n → en i = nI (am_eN tk n i)) (w : am_WF n mC mA s) (he : am_okE s e) (hp : p < n) (hl : r.length < 544) (hk : tk p = 5) (h : am_LXr post n tk ta en mC mA ph sols fails lK lV lH lL lA pl b L0 a 1 (am_op (tk p) v rv) r s) : am_LXr post n tk ta en mC mA ph sols fails lK lV lH lL lA pl b L0 (a + 1) 1 rv ((p, e, 2, 1, v) :: r) s := by
  intro m po ev jV jO jC jW kT kE fT fE fH fC fW h1 h2 h3 h4
  obtain ⟨m, rfl⟩ : ∃ m', m = m' + 1 := ⟨m - 1, by omega⟩
  have g1 : ¬ (1000000 : Int32) ≤ nI (1000000 - (m + 1)) := nI_ge (b := 1000000) (by omega) (by decide)
  have g2 : nI (1000000 - (m + 1)) + 1 = nI (1000000 - m) := by rw [nI_1]; exact congrArg nI (by omega)
  have hf0 := h4
  obtain ⟨q1, q2, q3, q4, q5⟩ := h4
  have hc : (nI r.length).toNatClampNeg = r.length := nI_clamp (by omega)
  have v544 : vp_in (nI r.length) 544 := vp_in_nI hl (by decide)
  have et : fT (nI r.length).toNatClampNeg = nI p := by rw [hc]; exact q1
  have ee : fE (nI r.length).toNatClampNeg = am_xe s e := by rw [hc]; exact q3
  have d0 : (0 : Int32) < nI (r.length + 1) := nI_lt (a := 0) (by omega) (by omega)
  obtain ⟨z1, z2, z3, z4⟩ : fH r.length = 1 ∧ am_okV s 1 v ∧ fC r.length = am_xk 1 ∧ fW r.length = am_xv s 1 v := by
    rcases q4 with ⟨z, _⟩ | ⟨_, z⟩
    · exact absurd z (by decide)
    · exact z
  have hh1 : ¬ fH (nI r.length).toNatClampNeg = 0 := by rw [hc, z1]; decide
  have ec : fC (nI r.length).toNatClampNeg = am_xk 1 := by rw [hc]; exact z3
  have ew : fW (nI r.length).toNatClampNeg = am_xv s 1 v := by rw [hc]; exact z4
  rw [am_xk_1] at ec
  rw [am_xv_1] at ew
  have hh := h m po (am_xe s e) jV jO jC jW kT kE fT fE fH fC fW (by omega) (by omega) h3 q5
  rw [am_xk_1, am_xv_1] at hh
  have hb : am_bin (tk p) := by rw [hk]; unfold am_bin; decide
  rw [am_xk_1, am_xv_1]
  rw [wX_runPath_34]
  refine br_f g1 (br_t rfl (br_t rfl ?_))
  exact br_t d0 (nm_r (nI_pred r.length) ⟨v544, nm_r et (am_xtk hn hp (am_xta hn hp (am_xend hn hp hen (nI_1 p) ⟨v544, nm_r ee (br_t (by rw [hk]; decide) (⟨v544, br_f hh1 (br_f (by rw [hk]; decide) ⟨v544, br_t ec (br_t rfl ⟨v544, am_xcomb hb ew (am_xgi rfl (am_x62r r (by omega) g2 hh))⟩)⟩)⟩))⟩)))⟩)
theorem am_xr_calcF5 (hn : n ≤ 32) (hA : mA ≤ 16) (hen : ∀ i, i < n → en i = nI (am_eN tk n i)) (w : am_WF n mC mA s) (he : am_okE s e) (hp : p < n) (hl : r.length < 544) (hv : am_okV s rk rv) (hk : tk p = 5) (hno : ¬ (k = 1 ∧ rk = 1)) (hq : am_QX post n tk ta en mC mA ph sols fails lK lV lH lL lA pl b L0 s) : am_LXr post n tk ta en mC mA ph sols fails lK lV lH lL lA pl b L0 (a + 1) rk rv ((p, e, 2, k, v) :: r) s := by
  intro m po ev jV jO jC jW kT kE fT fE fH fC fW h1 h2 h3 h4
  obtain ⟨m, rfl⟩ : ∃ m', m = m' + 1 := ⟨m - 1, by omega⟩
  have g1 : ¬ (1000000 : Int32) ≤ nI (1000000 - (m + 1)) := nI_ge (b := 1000000) (by omega) (by decide)
  have g2 : nI (1000000 - (m + 1)) + 1 = nI (1000000 - m) := by rw [nI_1]; exact congrArg nI (by omega)
  have hf0 := h4
  obtain ⟨q1, q2, q3, q4, q5⟩ := h4
  have hc : (nI r.length).toNatClampNeg = r.length := nI_clamp (by omega)
  have v544 : vp_in (nI r.length) 544 := vp_in_nI hl (by decide)
  have et : fT (nI r.length).toNatClampNeg = nI p := by rw [hc]; exact q1
  have ee : fE (nI r.length).toNatClampNeg = am_xe s e := by rw [hc]; exact q3
  have d0 : (0 : Int32) < nI (r.length + 1) := nI_lt (a := 0) (by omega) (by omega)
  obtain ⟨z1, z2, z3, z4⟩ : fH r.length = 1 ∧ am_okV s k v ∧ fC r.length = am_xk k ∧ fW r.length = am_xv s k v := by
    rcases q4 with ⟨z, _⟩ | ⟨_, z⟩
    · exact absurd z (by decide)
    · exact z
  have hh1 : ¬ fH (nI r.length).toNatClampNeg = 0 := by rw [hc, z1]; decide
  have ec : fC (nI r.length).toNatClampNeg = am_xk k := by rw [hc]; exact z3
  have ew : fW (nI r.length).toNatClampNeg = am_xv s k v := by rw [hc]; exact z4
  rcases z2 with y | ⟨y, _⟩
  · rcases hv with y2 | ⟨y2, _⟩
    · exact absurd ⟨y, y2⟩ hno
    · rw [y, am_xk_1] at ec
      rw [y2, am_xk_2]
      rw [wX_runPath_34]
      refine br_f g1 (br_t rfl (br_t rfl ?_))
      exact br_t d0 (nm_r (nI_pred r.length) ⟨v544, nm_r et (am_xtk hn hp (am_xta hn hp (am_xend hn hp hen (nI_1 p) ⟨v544, nm_r ee (br_t (by rw [hk]; decide) (⟨v544, br_f hh1 (br_f (by rw [hk]; decide) ⟨v544, br_t ec (br_f (by decide) (am_x62F (hq _ _ _ _ _ _ _ _ _ _ _ _ _ _ _ _ _ _)))⟩)⟩))⟩)))⟩)
  · have nc : ¬ fC (nI r.length).toNatClampNeg = 0 := by rw [ec, y, am_xk_2]; decide
    rw [wX_runPath_34]
    refine br_f g1 (br_t rfl (br_t rfl ?_))
    exact br_t d0 (nm_r (nI_pred r.length) ⟨v544, nm_r et (am_xtk hn hp (am_xta hn hp (am_xend hn hp hen (nI_1 p) ⟨v544, nm_r ee (br_t (by rw [hk]; decide) (⟨v544, br_f hh1 (br_f (by rw [hk]; decide) ⟨v544, br_f nc (am_x62F (hq _ _ _ _ _ _ _ _ _ _ _ _ _ _ _ _ _ _))⟩)⟩))⟩)))⟩)
theorem am_xr_calc6 (hn : n ≤ 32) (hA : mA ≤ 16) (hen : ∀ i, i < n → en i = nI (am_eN tk n i)) (w : am_WF n mC mA s) (he : am_okE s e) (hp : p < n) (hl : r.length < 544) (hk : tk p = 6) (h : am_LXr post n tk ta en mC mA ph sols fails lK lV lH lL lA pl b L0 a 1 (am_op (tk p) v rv) r s) : am_LXr post n tk ta en mC mA ph sols fails lK lV lH lL lA pl b L0 (a + 1) 1 rv ((p, e, 2, 1, v) :: r) s := by
  intro m po ev jV jO jC jW kT kE fT fE fH fC fW h1 h2 h3 h4
  obtain ⟨m, rfl⟩ : ∃ m', m = m' + 1 := ⟨m - 1, by omega⟩
  have g1 : ¬ (1000000 : Int32) ≤ nI (1000000 - (m + 1)) := nI_ge (b := 1000000) (by omega) (by decide)
  have g2 : nI (1000000 - (m + 1)) + 1 = nI (1000000 - m) := by rw [nI_1]; exact congrArg nI (by omega)
  have hf0 := h4
  obtain ⟨q1, q2, q3, q4, q5⟩ := h4
  have hc : (nI r.length).toNatClampNeg = r.length := nI_clamp (by omega)
  have v544 : vp_in (nI r.length) 544 := vp_in_nI hl (by decide)
  have et : fT (nI r.length).toNatClampNeg = nI p := by rw [hc]; exact q1
  have ee : fE (nI r.length).toNatClampNeg = am_xe s e := by rw [hc]; exact q3
  have d0 : (0 : Int32) < nI (r.length + 1) := nI_lt (a := 0) (by omega) (by omega)
  obtain ⟨z1, z2, z3, z4⟩ : fH r.length = 1 ∧ am_okV s 1 v ∧ fC r.length = am_xk 1 ∧ fW r.length = am_xv s 1 v := by
    rcases q4 with ⟨z, _⟩ | ⟨_, z⟩
    · exact absurd z (by decide)
    · exact z
  have hh1 : ¬ fH (nI r.length).toNatClampNeg = 0 := by rw [hc, z1]; decide
  have ec : fC (nI r.length).toNatClampNeg = am_xk 1 := by rw [hc]; exact z3
  have ew : fW (nI r.length).toNatClampNeg = am_xv s 1 v := by rw [hc]; exact z4
  rw [am_xk_1] at ec
  rw [am_xv_1] at ew
  have hh := h m po (am_xe s e) jV jO jC jW kT kE fT fE fH fC fW (by omega) (by omega) h3 q5
  rw [am_xk_1, am_xv_1] at hh
  have hb : am_bin (tk p) := by rw [hk]; unfold am_bin; decide
  rw [am_xk_1, am_xv_1]
  rw [wX_runPath_34]
  refine br_f g1 (br_t rfl (br_t rfl ?_))
  exact br_t d0 (nm_r (nI_pred r.length) ⟨v544, nm_r et (am_xtk hn hp (am_xta hn hp (am_xend hn hp hen (nI_1 p) ⟨v544, nm_r ee (br_t (by rw [hk]; decide) (⟨v544, br_f hh1 (br_f (by rw [hk]; decide) ⟨v544, br_t ec (br_t rfl ⟨v544, am_xcomb hb ew (am_xgi rfl (am_x62r r (by omega) g2 hh))⟩)⟩)⟩))⟩)))⟩)
theorem am_xr_calcF6 (hn : n ≤ 32) (hA : mA ≤ 16) (hen : ∀ i, i < n → en i = nI (am_eN tk n i)) (w : am_WF n mC mA s) (he : am_okE s e) (hp : p < n) (hl : r.length < 544) (hv : am_okV s rk rv) (hk : tk p = 6) (hno : ¬ (k = 1 ∧ rk = 1)) (hq : am_QX post n tk ta en mC mA ph sols fails lK lV lH lL lA pl b L0 s) : am_LXr post n tk ta en mC mA ph sols fails lK lV lH lL lA pl b L0 (a + 1) rk rv ((p, e, 2, k, v) :: r) s := by
  intro m po ev jV jO jC jW kT kE fT fE fH fC fW h1 h2 h3 h4
  obtain ⟨m, rfl⟩ : ∃ m', m = m' + 1 := ⟨m - 1, by omega⟩
  have g1 : ¬ (1000000 : Int32) ≤ nI (1000000 - (m + 1)) := nI_ge (b := 1000000) (by omega) (by decide)
  have g2 : nI (1000000 - (m + 1)) + 1 = nI (1000000 - m) := by rw [nI_1]; exact congrArg nI (by omega)
  have hf0 := h4
  obtain ⟨q1, q2, q3, q4, q5⟩ := h4
  have hc : (nI r.length).toNatClampNeg = r.length := nI_clamp (by omega)
  have v544 : vp_in (nI r.length) 544 := vp_in_nI hl (by decide)
  have et : fT (nI r.length).toNatClampNeg = nI p := by rw [hc]; exact q1
  have ee : fE (nI r.length).toNatClampNeg = am_xe s e := by rw [hc]; exact q3
  have d0 : (0 : Int32) < nI (r.length + 1) := nI_lt (a := 0) (by omega) (by omega)
  obtain ⟨z1, z2, z3, z4⟩ : fH r.length = 1 ∧ am_okV s k v ∧ fC r.length = am_xk k ∧ fW r.length = am_xv s k v := by
    rcases q4 with ⟨z, _⟩ | ⟨_, z⟩
    · exact absurd z (by decide)
    · exact z
  have hh1 : ¬ fH (nI r.length).toNatClampNeg = 0 := by rw [hc, z1]; decide
  have ec : fC (nI r.length).toNatClampNeg = am_xk k := by rw [hc]; exact z3
  have ew : fW (nI r.length).toNatClampNeg = am_xv s k v := by rw [hc]; exact z4
  rcases z2 with y | ⟨y, _⟩
  · rcases hv with y2 | ⟨y2, _⟩
    · exact absurd ⟨y, y2⟩ hno
    · rw [y, am_xk_1] at ec
      rw [y2, am_xk_2]
      rw [wX_runPath_34]
      refine br_f g1 (br_t rfl (br_t rfl ?_))
      exact br_t d0 (nm_r (nI_pred r.length) ⟨v544, nm_r et (am_xtk hn hp (am_xta hn hp (am_xend hn hp hen (nI_1 p) ⟨v544, nm_r ee (br_t (by rw [hk]; decide) (⟨v544, br_f hh1 (br_f (by rw [hk]; decide) ⟨v544, br_t ec (br_f (by decide) (am_x62F (hq _ _ _ _ _ _ _ _ _ _ _ _ _ _ _ _ _ _)))⟩)⟩))⟩)))⟩)
  · have nc : ¬ fC (nI r.length).toNatClampNeg = 0 := by rw [ec, y, am_xk_2]; decide
    rw [wX_runPath_34]
    refine br_f g1 (br_t rfl (br_t rfl ?_))
    exact br_t d0 (nm_r (nI_pred r.length) ⟨v544, nm_r et (am_xtk hn hp (am_xta hn hp (am_xend hn hp hen (nI_1 p) ⟨v544, nm_r ee (br_t (by rw [hk]; decide) (⟨v544, br_f hh1 (br_f (by rw [hk]; decide) ⟨v544, br_f nc (am_x62F (hq _ _ _ _ _ _ _ _ _ _ _ _ _ _ _ _ _ _))⟩)⟩))⟩)))⟩)
theorem am_xr_if (hn : n ≤ 32) (hA : mA ≤ 16) (hen : ∀ i, i < n → en i = nI (am_eN tk n i)) (w : am_WF n mC mA s) (he : am_okE s e) (hp : p < n) (hl : r.length < 544) (hk : tk p = 7) (h : am_LXv post n tk ta en mC mA ph sols fails lK lV lH lL lA pl b L0 a (am_q7 n tk p rv) e r s) : am_LXr post n tk ta en mC mA ph sols fails lK lV lH lL lA pl b L0 (a + 1) 1 rv ((p, e, 1, 0, 0) :: r) s := by
  intro m po ev jV jO jC jW kT kE fT fE fH fC fW h1 h2 h3 h4
  obtain ⟨m, rfl⟩ : ∃ m', m = m' + 1 := ⟨m - 1, by omega⟩
  have g1 : ¬ (1000000 : Int32) ≤ nI (1000000 - (m + 1)) := nI_ge (b := 1000000) (by omega) (by decide)
  have g2 : nI (1000000 - (m + 1)) + 1 = nI (1000000 - m) := by rw [nI_1]; exact congrArg nI (by omega)
  have hf0 := h4
  obtain ⟨q1, q2, q3, q4, q5⟩ := h4
  have hc : (nI r.length).toNatClampNeg = r.length := nI_clamp (by omega)
  have v544 : vp_in (nI r.length) 544 := vp_in_nI hl (by decide)
  have et : fT (nI r.length).toNatClampNeg = nI p := by rw [hc]; exact q1
  have ee : fE (nI r.length).toNatClampNeg = am_xe s e := by rw [hc]; exact q3
  have d0 : (0 : Int32) < nI (r.length + 1) := nI_lt (a := 0) (by omega) (by omega)
  rw [am_xk_1, am_xv_1]
  have hh := h m 0 rv jV jO jC jW kT kE fT fE fH fC fW (by omega) (by omega) h3 q5
  unfold am_q7 at hh
  rw [wX_runPath_34]
  refine br_f g1 (br_t rfl (br_t rfl ?_))
  exact br_t d0 (nm_r (nI_pred r.length) ⟨v544, nm_r et (am_xtk hn hp (am_xta hn hp (am_xend hn hp hen (nI_1 p) ⟨v544, nm_r ee (br_f (by rw [hk]; decide) (br_f (by rw [hk]; decide) (br_t hk (br_t rfl (am_xend hn (am_eN_le hp) hen rfl (br_c (fun q => by rw [if_pos q] at hh; exact am_xvn rfl (am_x62v g2 hh)) (fun q => by rw [if_neg q] at hh; exact am_xvn rfl (am_x62v g2 hh))))))))⟩)))⟩)
theorem am_xr_ifF (hn : n ≤ 32) (hA : mA ≤ 16) (hen : ∀ i, i < n → en i = nI (am_eN tk n i)) (w : am_WF n mC mA s) (he : am_okE s e) (hp : p < n) (hl : r.length < 544) (hv : am_okV s rk rv) (hk : tk p = 7) (hno : ¬ rk = 1) (hq : am_QX post n tk ta en mC mA ph sols fails lK lV lH lL lA pl b L0 s) : am_LXr post n tk ta en mC mA ph sols fails lK lV lH lL lA pl b L0 (a + 1) rk rv ((p, e, 1, 0, 0) :: r) s := by
  intro m po ev jV jO jC jW kT kE fT fE fH fC fW h1 h2 h3 h4
  obtain ⟨m, rfl⟩ : ∃ m', m = m' + 1 := ⟨m - 1, by omega⟩
  have g1 : ¬ (1000000 : Int32) ≤ nI (1000000 - (m + 1)) := nI_ge (b := 1000000) (by omega) (by decide)
  have g2 : nI (1000000 - (m + 1)) + 1 = nI (1000000 - m) := by rw [nI_1]; exact congrArg nI (by omega)
  have hf0 := h4
  obtain ⟨q1, q2, q3, q4, q5⟩ := h4
  have hc : (nI r.length).toNatClampNeg = r.length := nI_clamp (by omega)
  have v544 : vp_in (nI r.length) 544 := vp_in_nI hl (by decide)
  have et : fT (nI r.length).toNatClampNeg = nI p := by rw [hc]; exact q1
  have ee : fE (nI r.length).toNatClampNeg = am_xe s e := by rw [hc]; exact q3
  have d0 : (0 : Int32) < nI (r.length + 1) := nI_lt (a := 0) (by omega) (by omega)
  have y : rk = 2 := by
    rcases hv with y | ⟨y, _⟩
    · exact absurd y hno
    · exact y
  have nk : ¬ am_xk rk = 0 := by rw [y, am_xk_2]; decide
  rw [wX_runPath_34]
  refine br_f g1 (br_t rfl (br_t rfl ?_))
  exact br_t d0 (nm_r (nI_pred r.length) ⟨v544, nm_r et (am_xtk hn hp (am_xta hn hp (am_xend hn hp hen (nI_1 p) ⟨v544, nm_r ee (br_f (by rw [hk]; decide) (br_f (by rw [hk]; decide) (br_t hk (br_f nk (am_x62F (hq _ _ _ _ _ _ _ _ _ _ _ _ _ _ _ _ _ _))))))⟩)))⟩)
theorem am_xr_req (hn : n ≤ 32) (hA : mA ≤ 16) (hen : ∀ i, i < n → en i = nI (am_eN tk n i)) (w : am_WF n mC mA s) (he : am_okE s e) (hp : p < n) (hl : r.length < 544) (hk : tk p = 10) (hv : ¬ rv = 0) (h : am_LXv post n tk ta en mC mA ph sols fails lK lV lH lL lA pl b L0 a (am_eN tk n (p + 1)) e r s) : am_LXr post n tk ta en mC mA ph sols fails lK lV lH lL lA pl b L0 (a + 1) 1 rv ((p, e, 1, 0, 0) :: r) s := by
  intro m po ev jV jO jC jW kT kE fT fE fH fC fW h1 h2 h3 h4
  obtain ⟨m, rfl⟩ : ∃ m', m = m' + 1 := ⟨m - 1, by omega⟩
  have g1 : ¬ (1000000 : Int32) ≤ nI (1000000 - (m + 1)) := nI_ge (b := 1000000) (by omega) (by decide)
  have g2 : nI (1000000 - (m + 1)) + 1 = nI (1000000 - m) := by rw [nI_1]; exact congrArg nI (by omega)
  have hf0 := h4
  obtain ⟨q1, q2, q3, q4, q5⟩ := h4
  have hc : (nI r.length).toNatClampNeg = r.length := nI_clamp (by omega)
  have v544 : vp_in (nI r.length) 544 := vp_in_nI hl (by decide)
  have et : fT (nI r.length).toNatClampNeg = nI p := by rw [hc]; exact q1
  have ee : fE (nI r.length).toNatClampNeg = am_xe s e := by rw [hc]; exact q3
  have d0 : (0 : Int32) < nI (r.length + 1) := nI_lt (a := 0) (by omega) (by omega)
  rw [am_xk_1, am_xv_1]
  rw [wX_runPath_34]
  refine br_f g1 (br_t rfl (br_t rfl ?_))
  exact br_t d0 (nm_r (nI_pred r.length) ⟨v544, nm_r et (am_xtk hn hp (am_xta hn hp (am_xend hn hp hen (nI_1 p) ⟨v544, nm_r ee (br_f (by rw [hk]; decide) (br_f (by rw [hk]; decide) (br_f (by rw [hk]; decide) (br_f (by rw [hk]; decide) (br_f (by rw [hk]; decide) (br_t hk (br_t rfl (br_f hv (am_xvn rfl (am_x62v g2 (h m 0 rv jV jO jC jW kT kE fT fE fH fC fW (by omega) (by omega) h3 q5)))))))))))⟩)))⟩)
theorem am_xr_reqF (hn : n ≤ 32) (hA : mA ≤ 16) (hen : ∀ i, i < n → en i = nI (am_eN tk n i)) (w : am_WF n mC mA s) (he : am_okE s e) (hp : p < n) (hl : r.length < 544) (hv : am_okV s rk rv) (hk : tk p = 10) (hno : ¬ (rk = 1 ∧ ¬ rv = 0)) (hq : am_QX post n tk ta en mC mA ph sols fails lK lV lH lL lA pl b L0 s) : am_LXr post n tk ta en mC mA ph sols fails lK lV lH lL lA pl b L0 (a + 1) rk rv ((p, e, 1, 0, 0) :: r) s := by
  intro m po ev jV jO jC jW kT kE fT fE fH fC fW h1 h2 h3 h4
  obtain ⟨m, rfl⟩ : ∃ m', m = m' + 1 := ⟨m - 1, by omega⟩
  have g1 : ¬ (1000000 : Int32) ≤ nI (1000000 - (m + 1)) := nI_ge (b := 1000000) (by omega) (by decide)
  have g2 : nI (1000000 - (m + 1)) + 1 = nI (1000000 - m) := by rw [nI_1]; exact congrArg nI (by omega)
  have hf0 := h4
  obtain ⟨q1, q2, q3, q4, q5⟩ := h4
  have hc : (nI r.length).toNatClampNeg = r.length := nI_clamp (by omega)
  have v544 : vp_in (nI r.length) 544 := vp_in_nI hl (by decide)
  have et : fT (nI r.length).toNatClampNeg = nI p := by rw [hc]; exact q1
  have ee : fE (nI r.length).toNatClampNeg = am_xe s e := by rw [hc]; exact q3
  have d0 : (0 : Int32) < nI (r.length + 1) := nI_lt (a := 0) (by omega) (by omega)
  have nk : am_xk rk = 0 → am_xv s rk rv = 0 := by
    intro z
    rcases hv with y | ⟨y, _⟩
    · rw [y, am_xv_1]
      exact Classical.byContradiction (fun u => hno ⟨y, u⟩)
    · rw [y, am_xk_2] at z
      exact absurd z (by decide)
  rw [wX_runPath_34]
  refine br_f g1 (br_t rfl (br_t rfl ?_))
  exact br_t d0 (nm_r (nI_pred r.length) ⟨v544, nm_r et (am_xtk hn hp (am_xta hn hp (am_xend hn hp hen (nI_1 p) ⟨v544, nm_r ee (br_f (by rw [hk]; decide) (br_f (by rw [hk]; decide) (br_f (by rw [hk]; decide) (br_f (by rw [hk]; decide) (br_f (by rw [hk]; decide) (br_t hk (br_c (fun z => br_t (nk z) (am_x62F (hq _ _ _ _ _ _ _ _ _ _ _ _ _ _ _ _ _ _))) (fun _ => am_x62F (hq _ _ _ _ _ _ _ _ _ _ _ _ _ _ _ _ _ _)))))))))⟩)))⟩)
theorem am_xr_let (hn : n ≤ 32) (hA : mA ≤ 16) (hen : ∀ i, i < n → en i = nI (am_eN tk n i)) (w : am_WF n mC mA s) (he : am_okE s e) (hp : p < n) (hl : r.length < 544) (hv : am_okV s rk rv) (hk : tk p = 11) (ha : am_al s < mA) (h : am_LXv post n tk ta en mC mA ph sols fails lK lV lH lL lA pl b L0 a (am_eN tk n (p + 1)) (nI (am_nf s)) r (am_nl (ta p) e rk rv s)) : am_LXr post n tk ta en mC mA ph sols fails lK lV lH lL lA pl b L0 (a + 1) rk rv ((p, e, 1, 0, 0) :: r) s := by
  intro m po ev jV jO jC jW kT kE fT fE fH fC fW h1 h2 h3 h4
  obtain ⟨m, rfl⟩ : ∃ m', m = m' + 1 := ⟨m - 1, by omega⟩
  have g1 : ¬ (1000000 : Int32) ≤ nI (1000000 - (m + 1)) := nI_ge (b := 1000000) (by omega) (by decide)
  have g2 : nI (1000000 - (m + 1)) + 1 = nI (1000000 - m) := by rw [nI_1]; exact congrArg nI (by omega)
  have hf0 := h4
  obtain ⟨q1, q2, q3, q4, q5⟩ := h4
  have hc : (nI r.length).toNatClampNeg = r.length := nI_clamp (by omega)
  have v544 : vp_in (nI r.length) 544 := vp_in_nI hl (by decide)
  have et : fT (nI r.length).toNatClampNeg = nI p := by rw [hc]; exact q1
  have ee : fE (nI r.length).toNatClampNeg = am_xe s e := by rw [hc]; exact q3
  have d0 : (0 : Int32) < nI (r.length + 1) := nI_lt (a := 0) (by omega) (by omega)
  have an := am_al_nl (ta p) e rk rv s
  have b12 := am_nf16 w hA
  have hh := h m (am_xk rk) (am_xv s rk rv) (upd jV (am_al s) (ta p)) (upd jO (am_al s) (am_xe s e)) (upd jC (am_al s) (am_xk rk)) (upd jW (am_al s) (am_xv s rk rv)) kT kE fT fE fH fC fW (by omega) (by omega) (am_sx_nl w hA he hv h3) (am_fx_x (am_ext_nl (ta p) e rk rv s) b12.1 b12.2.1 r q5)
  rw [am_al_nl, am_xe_nl _ _ _ _ b12.1] at hh
  rw [wX_runPath_34]
  refine br_f g1 (br_t rfl (br_t rfl ?_))
  exact br_t d0 (nm_r (nI_pred r.length) ⟨v544, nm_r et (am_xtk hn hp (am_xta hn hp (am_xend hn hp hen (nI_1 p) ⟨v544, nm_r ee (br_f (by rw [hk]; decide) (br_f (by rw [hk]; decide) (br_f (by rw [hk]; decide) (br_f (by rw [hk]; decide) (br_f (by rw [hk]; decide) (br_f (by rw [hk]; decide) (br_t hk (am_xbindT ha hA (am_nark rk) rfl rfl (am_xvn rfl (am_x62v g2 hh))))))))))⟩)))⟩)
theorem am_xr_letF (hn : n ≤ 32) (hA : mA ≤ 16) (hen : ∀ i, i < n → en i = nI (am_eN tk n i)) (w : am_WF n mC mA s) (he : am_okE s e) (hp : p < n) (hl : r.length < 544) (hk : tk p = 11) (ha : mA ≤ am_al s) (hq : am_QX post n tk ta en mC mA ph sols fails lK lV lH lL lA pl b L0 s) : am_LXr post n tk ta en mC mA ph sols fails lK lV lH lL lA pl b L0 (a + 1) rk rv ((p, e, 1, 0, 0) :: r) s := by
  intro m po ev jV jO jC jW kT kE fT fE fH fC fW h1 h2 h3 h4
  obtain ⟨m, rfl⟩ : ∃ m', m = m' + 1 := ⟨m - 1, by omega⟩
  have g1 : ¬ (1000000 : Int32) ≤ nI (1000000 - (m + 1)) := nI_ge (b := 1000000) (by omega) (by decide)
  have g2 : nI (1000000 - (m + 1)) + 1 = nI (1000000 - m) := by rw [nI_1]; exact congrArg nI (by omega)
  have hf0 := h4
  obtain ⟨q1, q2, q3, q4, q5⟩ := h4
  have hc : (nI r.length).toNatClampNeg = r.length := nI_clamp (by omega)
  have v544 : vp_in (nI r.length) 544 := vp_in_nI hl (by decide)
  have et : fT (nI r.length).toNatClampNeg = nI p := by rw [hc]; exact q1
  have ee : fE (nI r.length).toNatClampNeg = am_xe s e := by rw [hc]; exact q3
  have d0 : (0 : Int32) < nI (r.length + 1) := nI_lt (a := 0) (by omega) (by omega)
  rw [wX_runPath_34]
  refine br_f g1 (br_t rfl (br_t rfl ?_))
  exact br_t d0 (nm_r (nI_pred r.length) ⟨v544, nm_r et (am_xtk hn hp (am_xta hn hp (am_xend hn hp hen (nI_1 p) ⟨v544, nm_r ee (br_f (by rw [hk]; decide) (br_f (by rw [hk]; decide) (br_f (by rw [hk]; decide) (br_f (by rw [hk]; decide) (br_f (by rw [hk]; decide) (br_f (by rw [hk]; decide) (br_t hk (am_xbindF ha (am_nf16 w hA).2.2 (am_xvn rfl (am_x62F (hq _ _ _ _ _ _ _ _ _ _ _ _ _ _ _ _ _ _)))))))))))⟩)))⟩)
theorem am_xr_set (hn : n ≤ 32) (hA : mA ≤ 16) (hen : ∀ i, i < n → en i = nI (am_eN tk n i)) (w : am_WF n mC mA s) (he : am_okE s e) (hp : p < n) (hl : r.length < 544) (hk : tk p = 14) {f : Nat} (hf : f < am_nf s) (hlk : am_lk s (ta p) 17 e = nI f) (h : am_LXr post n tk ta en mC mA ph sols fails lK lV lH lL lA pl b L0 a rk rv r (am_sl f rk rv s)) : am_LXr post n tk ta en mC mA ph sols fails lK lV lH lL lA pl b L0 (a + 1) rk rv ((p, e, 1, 0, 0) :: r) s := by
  intro m po ev jV jO jC jW kT kE fT fE fH fC fW h1 h2 h3 h4
  obtain ⟨m, rfl⟩ : ∃ m', m = m' + 1 := ⟨m - 1, by omega⟩
  have g1 : ¬ (1000000 : Int32) ≤ nI (1000000 - (m + 1)) := nI_ge (b := 1000000) (by omega) (by decide)
  have g2 : nI (1000000 - (m + 1)) + 1 = nI (1000000 - m) := by rw [nI_1]; exact congrArg nI (by omega)
  have hf0 := h4
  obtain ⟨q1, q2, q3, q4, q5⟩ := h4
  have hc : (nI r.length).toNatClampNeg = r.length := nI_clamp (by omega)
  have v544 : vp_in (nI r.length) 544 := vp_in_nI hl (by decide)
  have et : fT (nI r.length).toNatClampNeg = nI p := by rw [hc]; exact q1
  have ee : fE (nI r.length).toNatClampNeg = am_xe s e := by rw [hc]; exact q3
  have d0 : (0 : Int32) < nI (r.length + 1) := nI_lt (a := 0) (by omega) (by omega)
  have asl : am_al (am_sl f rk rv s) = am_al s := rfl
  have b12 := am_nf16 w hA
  have hh := h m po (am_xe s e) jV jO (upd jC (am_xl s f) (am_xk rk)) (upd jW (am_xl s f) (am_xv s rk rv)) kT kE fT fE fH fC fW (by omega) (by omega) (am_sx_sl w hf h3) (am_fx_x (am_ext_sl f rk rv s) b12.1 b12.2.1 r q5)
  rw [wX_runPath_34]
  refine br_f g1 (br_t rfl (br_t rfl ?_))
  exact br_t d0 (nm_r (nI_pred r.length) ⟨v544, nm_r et (am_xtk hn hp (am_xta hn hp (am_xend hn hp hen (nI_1 p) ⟨v544, nm_r ee (br_f (by rw [hk]; decide) (br_f (by rw [hk]; decide) (br_f (by rw [hk]; decide) (br_f (by rw [hk]; decide) (br_f (by rw [hk]; decide) (br_f (by rw [hk]; decide) (br_f (by rw [hk]; decide) (br_f (by rw [hk]; decide) (br_f (by rw [hk]; decide) (br_t hk (am_xasT w hA h3 he hf hlk (am_nark rk) (am_x62r r (by omega) g2 hh))))))))))))⟩)))⟩)
theorem am_xr_setF (hn : n ≤ 32) (hA : mA ≤ 16) (hen : ∀ i, i < n → en i = nI (am_eN tk n i)) (w : am_WF n mC mA s) (he : am_okE s e) (hp : p < n) (hl : r.length < 544) (hk : tk p = 14) (hlk : am_lk s (ta p) 17 e = -1) (hq : am_QX post n tk ta en mC mA ph sols fails lK lV lH lL lA pl b L0 s) : am_LXr post n tk ta en mC mA ph sols fails lK lV lH lL lA pl b L0 (a + 1) rk rv ((p, e, 1, 0, 0) :: r) s := by
  intro m po ev jV jO jC jW kT kE fT fE fH fC fW h1 h2 h3 h4
  obtain ⟨m, rfl⟩ : ∃ m', m = m' + 1 := ⟨m - 1, by omega⟩
  have g1 : ¬ (1000000 : Int32) ≤ nI (1000000 - (m + 1)) := nI_ge (b := 1000000) (by omega) (by decide)
  have g2 : nI (1000000 - (m + 1)) + 1 = nI (1000000 - m) := by rw [nI_1]; exact congrArg nI (by omega)
  have hf0 := h4
  obtain ⟨q1, q2, q3, q4, q5⟩ := h4
  have hc : (nI r.length).toNatClampNeg = r.length := nI_clamp (by omega)
  have v544 : vp_in (nI r.length) 544 := vp_in_nI hl (by decide)
  have et : fT (nI r.length).toNatClampNeg = nI p := by rw [hc]; exact q1
  have ee : fE (nI r.length).toNatClampNeg = am_xe s e := by rw [hc]; exact q3
  have d0 : (0 : Int32) < nI (r.length + 1) := nI_lt (a := 0) (by omega) (by omega)
  rw [wX_runPath_34]
  refine br_f g1 (br_t rfl (br_t rfl ?_))
  exact br_t d0 (nm_r (nI_pred r.length) ⟨v544, nm_r et (am_xtk hn hp (am_xta hn hp (am_xend hn hp hen (nI_1 p) ⟨v544, nm_r ee (br_f (by rw [hk]; decide) (br_f (by rw [hk]; decide) (br_f (by rw [hk]; decide) (br_f (by rw [hk]; decide) (br_f (by rw [hk]; decide) (br_f (by rw [hk]; decide) (br_f (by rw [hk]; decide) (br_f (by rw [hk]; decide) (br_f (by rw [hk]; decide) (br_t hk (am_xasF w hA h3 he hlk (am_x62F (hq _ _ _ _ _ _ _ _ _ _ _ _ _ _ _ _ _ _)))))))))))))⟩)))⟩)
theorem am_xr_seq (hn : n ≤ 32) (hA : mA ≤ 16) (hen : ∀ i, i < n → en i = nI (am_eN tk n i)) (w : am_WF n mC mA s) (he : am_okE s e) (hp : p < n) (hl : r.length < 544) (hk : tk p = 15) (h : am_LXv post n tk ta en mC mA ph sols fails lK lV lH lL lA pl b L0 a (am_eN tk n (p + 1)) e r s) : am_LXr post n tk ta en mC mA ph sols fails lK lV lH lL lA pl b L0 (a + 1) rk rv ((p, e, 1, 0, 0) :: r) s := by
  intro m po ev jV jO jC jW kT kE fT fE fH fC fW h1 h2 h3 h4
  obtain ⟨m, rfl⟩ : ∃ m', m = m' + 1 := ⟨m - 1, by omega⟩
  have g1 : ¬ (1000000 : Int32) ≤ nI (1000000 - (m + 1)) := nI_ge (b := 1000000) (by omega) (by decide)
  have g2 : nI (1000000 - (m + 1)) + 1 = nI (1000000 - m) := by rw [nI_1]; exact congrArg nI (by omega)
  have hf0 := h4
  obtain ⟨q1, q2, q3, q4, q5⟩ := h4
  have hc : (nI r.length).toNatClampNeg = r.length := nI_clamp (by omega)
  have v544 : vp_in (nI r.length) 544 := vp_in_nI hl (by decide)
  have et : fT (nI r.length).toNatClampNeg = nI p := by rw [hc]; exact q1
  have ee : fE (nI r.length).toNatClampNeg = am_xe s e := by rw [hc]; exact q3
  have d0 : (0 : Int32) < nI (r.length + 1) := nI_lt (a := 0) (by omega) (by omega)
  rw [wX_runPath_34]
  refine br_f g1 (br_t rfl (br_t rfl ?_))
  exact br_t d0 (nm_r (nI_pred r.length) ⟨v544, nm_r et (am_xtk hn hp (am_xta hn hp (am_xend hn hp hen (nI_1 p) ⟨v544, nm_r ee (br_f (by rw [hk]; decide) (br_f (by rw [hk]; decide) (br_f (by rw [hk]; decide) (br_f (by rw [hk]; decide) (br_f (by rw [hk]; decide) (br_f (by rw [hk]; decide) (br_f (by rw [hk]; decide) (br_f (by rw [hk]; decide) (br_f (by rw [hk]; decide) (br_f (by rw [hk]; decide) (br_t hk (am_xvn rfl (am_x62v g2 (h m (am_xk rk) (am_xv s rk rv) jV jO jC jW kT kE fT fE fH fC fW (by omega) (by omega) h3 q5))))))))))))))⟩)))⟩)
theorem am_xr_app (hn : n ≤ 32) (hA : mA ≤ 16) (hen : ∀ i, i < n → en i = nI (am_eN tk n i)) (w : am_WF n mC mA s) (he : am_okE s e) (hp : p < n) (hl : r.length < 544) (hv : am_okV s rk rv) (hk : tk p = 13) {c lq : Nat} (hcc : c < am_nc s) (ha : am_al s < mA) (hlq : lq < n) (elq : am_cPos s c = nI lq) (h : am_LXv post n tk ta en mC mA ph sols fails lK lV lH lL lA pl b L0 (a + 127) (lq + 1) (nI (am_nf s)) r (am_nl (ta lq) (am_cEnv s c) rk rv s)) : am_LXr post n tk ta en mC mA ph sols fails lK lV lH lL lA pl b L0 a rk rv ((p, e, 2, 2, nI c) :: r) s := by
  intro m po ev jV jO jC jW kT kE fT fE fH fC fW h1 h2 h3 h4
  obtain ⟨m, rfl⟩ : ∃ m', m = m' + 1 := ⟨m - 1, by omega⟩
  have g1 : ¬ (1000000 : Int32) ≤ nI (1000000 - (m + 1)) := nI_ge (b := 1000000) (by omega) (by decide)
  have g2 : nI (1000000 - (m + 1)) + 1 = nI (1000000 - m) := by rw [nI_1]; exact congrArg nI (by omega)
  have hf0 := h4
  obtain ⟨q1, q2, q3, q4, q5⟩ := h4
  have hc : (nI r.length).toNatClampNeg = r.length := nI_clamp (by omega)
  have v544 : vp_in (nI r.length) 544 := vp_in_nI hl (by decide)
  have et : fT (nI r.length).toNatClampNeg = nI p := by rw [hc]; exact q1
  have ee : fE (nI r.length).toNatClampNeg = am_xe s e := by rw [hc]; exact q3
  have d0 : (0 : Int32) < nI (r.length + 1) := nI_lt (a := 0) (by omega) (by omega)
  obtain ⟨z1, z2, z3, z4⟩ : fH r.length = 1 ∧ am_okV s 2 (nI c) ∧ fC r.length = am_xk 2 ∧ fW r.length = am_xv s 2 (nI c) := by
    rcases q4 with ⟨z, _⟩ | ⟨_, z⟩
    · exact absurd z (by decide)
    · exact z
  have hh1 : ¬ fH (nI r.length).toNatClampNeg = 0 := by rw [hc, z1]; decide
  have ec : fC (nI r.length).toNatClampNeg = am_xk 2 := by rw [hc]; exact z3
  have ew : fW (nI r.length).toNatClampNeg = am_xv s 2 (nI c) := by rw [hc]; exact z4
  have hcb := am_WF_c w hA hcc
  have b12 := am_nf16 w hA
  have wc := w.2.2.2 c hcc
  have hx : am_xc s c < 16 := by
    have h5 := wc.2.2
    have h6 := w.2.1
    omega
  rw [am_xv_2 s (by omega)] at ew
  rw [am_xk_2] at ec
  have nc : ¬ fC (nI r.length).toNatClampNeg = 0 := by rw [ec]; decide
  have vx : vp_in (nI (am_xc s c)) 16 := vp_in_nI hx (by decide)
  have x0 : ¬ nI (am_xc s c) < 0 := nI_pos (by omega)
  have x16 : nI (am_xc s c) < 16 := nI_lt (b := 16) hx (by decide)
  have hd : (nI (am_xc s c)).toNatClampNeg = am_xc s c := nI_clamp (by omega)
  obtain ⟨lp, hlp, elp⟩ := wc.1
  have e5 : kT (nI (am_xc s c)).toNatClampNeg = nI lp := by rw [hd, (h3.2 c hcc).1]; exact elp
  have e6 : kE (nI (am_xc s c)).toNatClampNeg = am_xe s (am_cEnv s c) := by rw [hd]; exact (h3.2 c hcc).2
  have ell : lp = lq := (nI_eq (by omega) (by omega)).mp (elp.symm.trans elq)
  subst ell
  have an := am_al_nl (ta lp) (am_cEnv s c) rk rv s
  have hh := h m (am_xk rk) (am_xv s rk rv) (upd jV (am_al s) (ta lp)) (upd jO (am_al s) (am_xe s (am_cEnv s c))) (upd jC (am_al s) (am_xk rk)) (upd jW (am_al s) (am_xv s rk rv)) kT kE fT fE fH fC fW (by omega) (by omega) (am_sx_nl w hA wc.2.1 hv h3) (am_fx_x (am_ext_nl (ta lp) (am_cEnv s c) rk rv s) b12.1 b12.2.1 r q5)
  rw [am_al_nl, am_xe_nl _ _ _ _ b12.1] at hh
  rw [wX_runPath_34]
  refine br_f g1 (br_t rfl (br_t rfl ?_))
  exact br_t d0 (nm_r (nI_pred r.length) ⟨v544, nm_r et (am_xtk hn hp (am_xta hn hp (am_xend hn hp hen (nI_1 p) ⟨v544, nm_r ee (br_f (by rw [hk]; decide) (br_f (by rw [hk]; decide) (br_f (by rw [hk]; decide) (br_f (by rw [hk]; decide) (br_f (by rw [hk]; decide) (br_f (by rw [hk]; decide) (br_f (by rw [hk]; decide) (br_f (by rw [hk]; decide) (br_t hk (⟨v544, br_f hh1 (br_t hk ⟨v544, nm_r ew ⟨v544, br_f nc (br_f x0 (br_t x16 ⟨vx, nm_r e5 (am_xta hn hlp ⟨vx, am_xbindT ha hA (am_nark rk) rfl e6 (am_xvn (nI_1 lp) (am_x62v g2 hh))⟩)⟩))⟩⟩)⟩))))))))))⟩)))⟩)
theorem am_xr_appF2 (hn : n ≤ 32) (hA : mA ≤ 16) (hen : ∀ i, i < n → en i = nI (am_eN tk n i)) (w : am_WF n mC mA s) (he : am_okE s e) (hp : p < n) (hl : r.length < 544) (hk : tk p = 13) {c : Nat} (hcc : c < am_nc s) (ha : mA ≤ am_al s) (hq : am_QX post n tk ta en mC mA ph sols fails lK lV lH lL lA pl b L0 s) : am_LXr post n tk ta en mC mA ph sols fails lK lV lH lL lA pl b L0 (a + 1) rk rv ((p, e, 2, 2, nI c) :: r) s := by
  intro m po ev jV jO jC jW kT kE fT fE fH fC fW h1 h2 h3 h4
  obtain ⟨m, rfl⟩ : ∃ m', m = m' + 1 := ⟨m - 1, by omega⟩
  have g1 : ¬ (1000000 : Int32) ≤ nI (1000000 - (m + 1)) := nI_ge (b := 1000000) (by omega) (by decide)
  have g2 : nI (1000000 - (m + 1)) + 1 = nI (1000000 - m) := by rw [nI_1]; exact congrArg nI (by omega)
  have hf0 := h4
  obtain ⟨q1, q2, q3, q4, q5⟩ := h4
  have hc : (nI r.length).toNatClampNeg = r.length := nI_clamp (by omega)
  have v544 : vp_in (nI r.length) 544 := vp_in_nI hl (by decide)
  have et : fT (nI r.length).toNatClampNeg = nI p := by rw [hc]; exact q1
  have ee : fE (nI r.length).toNatClampNeg = am_xe s e := by rw [hc]; exact q3
  have d0 : (0 : Int32) < nI (r.length + 1) := nI_lt (a := 0) (by omega) (by omega)
  obtain ⟨z1, z2, z3, z4⟩ : fH r.length = 1 ∧ am_okV s 2 (nI c) ∧ fC r.length = am_xk 2 ∧ fW r.length = am_xv s 2 (nI c) := by
    rcases q4 with ⟨z, _⟩ | ⟨_, z⟩
    · exact absurd z (by decide)
    · exact z
  have hh1 : ¬ fH (nI r.length).toNatClampNeg = 0 := by rw [hc, z1]; decide
  have ec : fC (nI r.length).toNatClampNeg = am_xk 2 := by rw [hc]; exact z3
  have ew : fW (nI r.length).toNatClampNeg = am_xv s 2 (nI c) := by rw [hc]; exact z4
  have hcb := am_WF_c w hA hcc
  have b12 := am_nf16 w hA
  have wc := w.2.2.2 c hcc
  have hx : am_xc s c < 16 := by
    have h5 := wc.2.2
    have h6 := w.2.1
    omega
  rw [am_xv_2 s (by omega)] at ew
  rw [am_xk_2] at ec
  have nc : ¬ fC (nI r.length).toNatClampNeg = 0 := by rw [ec]; decide
  have vx : vp_in (nI (am_xc s c)) 16 := vp_in_nI hx (by decide)
  have x0 : ¬ nI (am_xc s c) < 0 := nI_pos (by omega)
  have x16 : nI (am_xc s c) < 16 := nI_lt (b := 16) hx (by decide)
  have hd : (nI (am_xc s c)).toNatClampNeg = am_xc s c := nI_clamp (by omega)
  obtain ⟨lp, hlp, elp⟩ := wc.1
  have e5 : kT (nI (am_xc s c)).toNatClampNeg = nI lp := by rw [hd, (h3.2 c hcc).1]; exact elp
  have e6 : kE (nI (am_xc s c)).toNatClampNeg = am_xe s (am_cEnv s c) := by rw [hd]; exact (h3.2 c hcc).2
  rw [wX_runPath_34]
  refine br_f g1 (br_t rfl (br_t rfl ?_))
  exact br_t d0 (nm_r (nI_pred r.length) ⟨v544, nm_r et (am_xtk hn hp (am_xta hn hp (am_xend hn hp hen (nI_1 p) ⟨v544, nm_r ee (br_f (by rw [hk]; decide) (br_f (by rw [hk]; decide) (br_f (by rw [hk]; decide) (br_f (by rw [hk]; decide) (br_f (by rw [hk]; decide) (br_f (by rw [hk]; decide) (br_f (by rw [hk]; decide) (br_f (by rw [hk]; decide) (br_t hk (⟨v544, br_f hh1 (br_t hk ⟨v544, nm_r ew ⟨v544, br_f nc (br_f x0 (br_t x16 ⟨vx, nm_r e5 (am_xta hn hlp ⟨vx, am_xbindF ha b12.2.2 (am_xvn rfl (am_x62F (hq _ _ _ _ _ _ _ _ _ _ _ _ _ _ _ _ _ _)))⟩)⟩))⟩⟩)⟩))))))))))⟩)))⟩)
theorem am_xr_appF1 (hn : n ≤ 32) (hA : mA ≤ 16) (hen : ∀ i, i < n → en i = nI (am_eN tk n i)) (w : am_WF n mC mA s) (he : am_okE s e) (hp : p < n) (hl : r.length < 544) (hk : tk p = 13) (hno : ¬ k = 2) (hq : am_QX post n tk ta en mC mA ph sols fails lK lV lH lL lA pl b L0 s) : am_LXr post n tk ta en mC mA ph sols fails lK lV lH lL lA pl b L0 (a + 1) rk rv ((p, e, 2, k, v) :: r) s := by
  intro m po ev jV jO jC jW kT kE fT fE fH fC fW h1 h2 h3 h4
  obtain ⟨m, rfl⟩ : ∃ m', m = m' + 1 := ⟨m - 1, by omega⟩
  have g1 : ¬ (1000000 : Int32) ≤ nI (1000000 - (m + 1)) := nI_ge (b := 1000000) (by omega) (by decide)
  have g2 : nI (1000000 - (m + 1)) + 1 = nI (1000000 - m) := by rw [nI_1]; exact congrArg nI (by omega)
  have hf0 := h4
  obtain ⟨q1, q2, q3, q4, q5⟩ := h4
  have hc : (nI r.length).toNatClampNeg = r.length := nI_clamp (by omega)
  have v544 : vp_in (nI r.length) 544 := vp_in_nI hl (by decide)
  have et : fT (nI r.length).toNatClampNeg = nI p := by rw [hc]; exact q1
  have ee : fE (nI r.length).toNatClampNeg = am_xe s e := by rw [hc]; exact q3
  have d0 : (0 : Int32) < nI (r.length + 1) := nI_lt (a := 0) (by omega) (by omega)
  obtain ⟨z1, z2, z3, z4⟩ : fH r.length = 1 ∧ am_okV s k v ∧ fC r.length = am_xk k ∧ fW r.length = am_xv s k v := by
    rcases q4 with ⟨z, _⟩ | ⟨_, z⟩
    · exact absurd z (by decide)
    · exact z
  have hh1 : ¬ fH (nI r.length).toNatClampNeg = 0 := by rw [hc, z1]; decide
  have ec : fC (nI r.length).toNatClampNeg = am_xk k := by rw [hc]; exact z3
  have ew : fW (nI r.length).toNatClampNeg = am_xv s k v := by rw [hc]; exact z4
  have ec0 : fC (nI r.length).toNatClampNeg = 0 := by rw [ec]; exact if_neg hno
  rw [wX_runPath_34]
  refine br_f g1 (br_t rfl (br_t rfl ?_))
  exact br_t d0 (nm_r (nI_pred r.length) ⟨v544, nm_r et (am_xtk hn hp (am_xta hn hp (am_xend hn hp hen (nI_1 p) ⟨v544, nm_r ee (br_f (by rw [hk]; decide) (br_f (by rw [hk]; decide) (br_f (by rw [hk]; decide) (br_f (by rw [hk]; decide) (br_f (by rw [hk]; decide) (br_f (by rw [hk]; decide) (br_f (by rw [hk]; decide) (br_f (by rw [hk]; decide) (br_t hk (⟨v544, br_f hh1 (br_t hk ⟨v544, nm_r ew ⟨v544, br_t ec0 (am_x62F (hq _ _ _ _ _ _ _ _ _ _ _ _ _ _ _ _ _ _))⟩⟩)⟩))))))))))⟩)))⟩)
theorem am_LX_v {kx vx : Int32} {stk : List am_F} (h : am_LXv post n tk ta en mC mA ph sols fails lK lV lH lL lA pl b L0 a p e (am_er tk stk) s) : am_LX post n tk ta en mC mA ph sols fails lK lV lH lL lA pl b L0 a ((p, e, 0, kx, vx) :: stk) rk rv s := by
  have h2 : (if (0 : Int32) = 0 then am_LXv post n tk ta en mC mA ph sols fails lK lV lH lL lA pl b L0 a p e (am_er tk stk) s else am_LXr post n tk ta en mC mA ph sols fails lK lV lH lL lA pl b L0 a rk rv (am_er tk ((p, e, 0, kx, vx) :: stk)) s) := by
    rw [if_pos rfl]
    exact h
  exact h2
theorem am_LX_v' {kx vx : Int32} {stk : List am_F} (h : am_LX post n tk ta en mC mA ph sols fails lK lV lH lL lA pl b L0 a ((p, e, 0, kx, vx) :: stk) rk rv s) : am_LXv post n tk ta en mC mA ph sols fails lK lV lH lL lA pl b L0 a p e (am_er tk stk) s := by
  have h2 : (if (0 : Int32) = 0 then am_LXv post n tk ta en mC mA ph sols fails lK lV lH lL lA pl b L0 a p e (am_er tk stk) s else am_LXr post n tk ta en mC mA ph sols fails lK lV lH lL lA pl b L0 a rk rv (am_er tk ((p, e, 0, kx, vx) :: stk)) s) := h
  rw [if_pos rfl] at h2
  exact h2
theorem am_LX_r {stk : List am_F} (hz : am_nz stk) (h : am_LXr post n tk ta en mC mA ph sols fails lK lV lH lL lA pl b L0 a rk rv (am_er tk stk) s) : am_LX post n tk ta en mC mA ph sols fails lK lV lH lL lA pl b L0 a stk rk rv s := by
  cases stk with
  | nil => exact h
  | cons f stk =>
    obtain ⟨p, e, st, k, v⟩ := f
    have h2 : (if st = 0 then am_LXv post n tk ta en mC mA ph sols fails lK lV lH lL lA pl b L0 a p e (am_er tk stk) s else am_LXr post n tk ta en mC mA ph sols fails lK lV lH lL lA pl b L0 a rk rv (am_er tk ((p, e, st, k, v) :: stk)) s) := by
      rw [if_neg hz.1]
      exact h
    exact h2
theorem am_LX_r' {stk : List am_F} (hz : am_nz stk) (h : am_LX post n tk ta en mC mA ph sols fails lK lV lH lL lA pl b L0 a stk rk rv s) : am_LXr post n tk ta en mC mA ph sols fails lK lV lH lL lA pl b L0 a rk rv (am_er tk stk) s := by
  cases stk with
  | nil => exact h
  | cons f stk =>
    obtain ⟨p, e, st, k, v⟩ := f
    have h2 : (if st = 0 then am_LXv post n tk ta en mC mA ph sols fails lK lV lH lL lA pl b L0 a p e (am_er tk stk) s else am_LXr post n tk ta en mC mA ph sols fails lK lV lH lL lA pl b L0 a rk rv (am_er tk ((p, e, st, k, v) :: stk)) s) := h
    rw [if_neg hz.1] at h2
    exact h2
theorem am_xI (hn : n ≤ 32) (hA : mA ≤ 16) (hC : mC ≤ 6) (hL : L0 ≤ 6) (hz : ∀ j, L0 ≤ j → b j = false) (hen : ∀ i, i < n → en i = nI (am_eN tk n i)) : am_I n tk ta mC mA b (am_LX post n tk ta en mC mA ph sols fails lK lV lH lL lA pl b L0) (am_QX post n tk ta en mC mA ph sols fails lK lV lH lL lA pl b L0) := by
  have lt : ∀ {stk : List am_F}, stk.length < 544 → (am_er tk stk).length < 544 := fun h => Nat.lt_of_le_of_lt (am_er_le tk _) h
  have ntp : ∀ {p : Nat}, am_psh (tk p) → ¬ am_tl (tk p) 1 := by
    intro p hk
    unfold am_tl
    rcases hk with q | q | q | q | q | q | q | q | q | q | q <;> rw [q] <;> decide
  refine ⟨?_, ?_, ?_, ?_, ?_, ?_, ?_, ?_, ?_, ?_, ?_, ?_, ?_, ?_, ?_, ?_, ?_, ?_, ?_, ?_, ?_, ?_, ?_, ?_, ?_, ?_⟩
  · intro a a' stk rk rv s ha h
    cases stk with
    | nil => exact am_xr_monoR ha h
    | cons f stk =>
      obtain ⟨p, e, st, k, v⟩ := f
      by_cases z : st = 0
      · subst z
        exact am_LX_v (am_xr_monoV ha (am_LX_v' h))
      · have h2 : (if st = 0 then am_LXv post n tk ta en mC mA ph sols fails lK lV lH lL lA pl b L0 a p e (am_er tk stk) s else am_LXr post n tk ta en mC mA ph sols fails lK lV lH lL lA pl b L0 a rk rv (am_er tk ((p, e, st, k, v) :: stk)) s) := h
        rw [if_neg z] at h2
        have h3 : (if st = 0 then am_LXv post n tk ta en mC mA ph sols fails lK lV lH lL lA pl b L0 a' p e (am_er tk stk) s else am_LXr post n tk ta en mC mA ph sols fails lK lV lH lL lA pl b L0 a' rk rv (am_er tk ((p, e, st, k, v) :: stk)) s) := by
          rw [if_neg z]
          exact am_xr_monoR ha h2
        exact h3
  · intro a e stk rk rv s _ _ hl hq; exact am_LX_v (am_xr_out hn hq)
  · intro a p e stk rk rv s H hk h; exact am_LX_v (am_xr_num hn hA hen H.1 H.2.1 H.2.2.1 (lt H.2.2.2.1) hk (am_LX_r' H.2.2.2.2 h))
  · intro a p e stk rk rv s f H hk hf hlk h; exact am_LX_v (am_xr_var hn hA hen H.1 H.2.1 H.2.2.1 (lt H.2.2.2.1) hk hf hlk (am_LX_r' H.2.2.2.2 h))
  · intro a p e stk rk rv s H hk hlk hq; exact am_LX_v (am_xr_varF hn hA hen H.1 H.2.1 H.2.2.1 (lt H.2.2.2.1) hk hlk hq)
  · intro a p e stk rk rv s H hk h
    have h2 := am_LX_v' h
    rw [am_er_f (ntp hk)] at h2
    exact am_LX_v (am_xr_open hn hA hen H.1 H.2.1 H.2.2.1 (lt H.2.2.2.1) hk h2)
  · intro a p e stk rk rv s H hk hu h
    have h2 := am_LX_v' h
    rw [am_er_t (show am_tl (tk p) 1 from Or.inr (Or.inl ⟨hk, rfl⟩))] at h2
    exact am_LX_v (am_xr_amb hn hA hen H.1 H.2.1 H.2.2.1 (lt H.2.2.2.1) hC hL hz hk hu h2)
  · intro a p e stk rk rv s H hk hu hq; exact am_LX_v (am_xr_ambF hn hA hen H.1 H.2.1 H.2.2.1 (lt H.2.2.2.1) hC hk hu hq)
  · intro a p e stk rk rv s H hk hq; exact am_LX_v (am_xr_fail hn hA hen H.1 H.2.1 H.2.2.1 (lt H.2.2.2.1) hk hq)
  · intro a p e stk rk rv s H hk ha h; exact am_LX_v (am_xr_lam hn hA hen H.1 H.2.1 H.2.2.1 (lt H.2.2.2.1) hk ha (am_LX_r' H.2.2.2.2 h))
  · intro a p e stk rk rv s H hk ha hq; exact am_LX_v (am_xr_lamF hn hA hen H.1 H.2.1 H.2.2.1 (lt H.2.2.2.1) hk ha hq)
  · intro a p e stk rk rv s H hv hk h
    have h2 := am_LX_v' h
    refine am_LX_r ⟨by decide, H.2.2.2.2⟩ ?_
    rcases hk with hk | hk | hk | hk | hk | hk
    · rw [am_er_f (show ¬ am_tl (tk p) 2 by unfold am_tl; rw [hk]; decide)] at h2
      rw [am_er_f (show ¬ am_tl (tk p) 1 by unfold am_tl; rw [hk]; decide)]
      exact am_xr_hold13 hn hA hen H.1 H.2.1 H.2.2.1 (lt H.2.2.2.1) hv hk h2
    · rw [am_er_f (show ¬ am_tl (tk p) 2 by unfold am_tl; rw [hk]; decide)] at h2
      rw [am_er_f (show ¬ am_tl (tk p) 1 by unfold am_tl; rw [hk]; decide)]
      exact am_xr_hold2 hn hA hen H.1 H.2.1 H.2.2.1 (lt H.2.2.2.1) hv hk h2
    · rw [am_er_f (show ¬ am_tl (tk p) 2 by unfold am_tl; rw [hk]; decide)] at h2
      rw [am_er_f (show ¬ am_tl (tk p) 1 by unfold am_tl; rw [hk]; decide)]
      exact am_xr_hold3 hn hA hen H.1 H.2.1 H.2.2.1 (lt H.2.2.2.1) hv hk h2
    · rw [am_er_f (show ¬ am_tl (tk p) 2 by unfold am_tl; rw [hk]; decide)] at h2
      rw [am_er_f (show ¬ am_tl (tk p) 1 by unfold am_tl; rw [hk]; decide)]
      exact am_xr_hold4 hn hA hen H.1 H.2.1 H.2.2.1 (lt H.2.2.2.1) hv hk h2
    · rw [am_er_f (show ¬ am_tl (tk p) 2 by unfold am_tl; rw [hk]; decide)] at h2
      rw [am_er_f (show ¬ am_tl (tk p) 1 by unfold am_tl; rw [hk]; decide)]
      exact am_xr_hold5 hn hA hen H.1 H.2.1 H.2.2.1 (lt H.2.2.2.1) hv hk h2
    · rw [am_er_f (show ¬ am_tl (tk p) 2 by unfold am_tl; rw [hk]; decide)] at h2
      rw [am_er_f (show ¬ am_tl (tk p) 1 by unfold am_tl; rw [hk]; decide)]
      exact am_xr_hold6 hn hA hen H.1 H.2.1 H.2.2.1 (lt H.2.2.2.1) hv hk h2
  · intro a p e stk v rv s H hk h
    have h2 := am_LX_r' H.2.2.2.2 h
    refine am_LX_r ⟨by decide, H.2.2.2.2⟩ ?_
    rcases hk with hk | hk | hk | hk | hk
    · rw [am_er_f (show ¬ am_tl (tk p) 2 by unfold am_tl; rw [hk]; decide)]
      exact am_xr_calc2 hn hA hen H.1 H.2.1 H.2.2.1 (lt H.2.2.2.1) hk h2
    · rw [am_er_f (show ¬ am_tl (tk p) 2 by unfold am_tl; rw [hk]; decide)]
      exact am_xr_calc3 hn hA hen H.1 H.2.1 H.2.2.1 (lt H.2.2.2.1) hk h2
    · rw [am_er_f (show ¬ am_tl (tk p) 2 by unfold am_tl; rw [hk]; decide)]
      exact am_xr_calc4 hn hA hen H.1 H.2.1 H.2.2.1 (lt H.2.2.2.1) hk h2
    · rw [am_er_f (show ¬ am_tl (tk p) 2 by unfold am_tl; rw [hk]; decide)]
      exact am_xr_calc5 hn hA hen H.1 H.2.1 H.2.2.1 (lt H.2.2.2.1) hk h2
    · rw [am_er_f (show ¬ am_tl (tk p) 2 by unfold am_tl; rw [hk]; decide)]
      exact am_xr_calc6 hn hA hen H.1 H.2.1 H.2.2.1 (lt H.2.2.2.1) hk h2
  · intro a p e stk k v rk rv s H hk _ hv hno hq
    refine am_LX_r ⟨by decide, H.2.2.2.2⟩ ?_
    rcases hk with hk | hk | hk | hk | hk
    · rw [am_er_f (show ¬ am_tl (tk p) 2 by unfold am_tl; rw [hk]; decide)]
      exact am_xr_calcF2 hn hA hen H.1 H.2.1 H.2.2.1 (lt H.2.2.2.1) hv hk hno hq
    · rw [am_er_f (show ¬ am_tl (tk p) 2 by unfold am_tl; rw [hk]; decide)]
      exact am_xr_calcF3 hn hA hen H.1 H.2.1 H.2.2.1 (lt H.2.2.2.1) hv hk hno hq
    · rw [am_er_f (show ¬ am_tl (tk p) 2 by unfold am_tl; rw [hk]; decide)]
      exact am_xr_calcF4 hn hA hen H.1 H.2.1 H.2.2.1 (lt H.2.2.2.1) hv hk hno hq
    · rw [am_er_f (show ¬ am_tl (tk p) 2 by unfold am_tl; rw [hk]; decide)]
      exact am_xr_calcF5 hn hA hen H.1 H.2.1 H.2.2.1 (lt H.2.2.2.1) hv hk hno hq
    · rw [am_er_f (show ¬ am_tl (tk p) 2 by unfold am_tl; rw [hk]; decide)]
      exact am_xr_calcF6 hn hA hen H.1 H.2.1 H.2.2.1 (lt H.2.2.2.1) hv hk hno hq
  · intro a p e stk rv s H hk h
    have h2 := am_LX_v' h
    rw [am_er_t (show am_tl (tk p) 2 from Or.inl ⟨hk, rfl⟩)] at h2
    refine am_LX_r ⟨by decide, H.2.2.2.2⟩ ?_
    rw [am_er_f (show ¬ am_tl (tk p) 1 by unfold am_tl; rw [hk]; decide)]
    exact am_xr_if hn hA hen H.1 H.2.1 H.2.2.1 (lt H.2.2.2.1) hk h2
  · intro a p e stk rk rv s H hk hv hno hq
    refine am_LX_r ⟨by decide, H.2.2.2.2⟩ ?_
    rw [am_er_f (show ¬ am_tl (tk p) 1 by unfold am_tl; rw [hk]; decide)]
    exact am_xr_ifF hn hA hen H.1 H.2.1 H.2.2.1 (lt H.2.2.2.1) hv hk hno hq
  · intro a p e stk rv s H hk hv h
    have h2 := am_LX_v' h
    rw [am_er_t (show am_tl (tk p) 2 from Or.inr (Or.inr (Or.inl ⟨hk, rfl⟩)))] at h2
    refine am_LX_r ⟨by decide, H.2.2.2.2⟩ ?_
    rw [am_er_f (show ¬ am_tl (tk p) 1 by unfold am_tl; rw [hk]; decide)]
    exact am_xr_req hn hA hen H.1 H.2.1 H.2.2.1 (lt H.2.2.2.1) hk hv h2
  · intro a p e stk rk rv s H hk hv hno hq
    refine am_LX_r ⟨by decide, H.2.2.2.2⟩ ?_
    rw [am_er_f (show ¬ am_tl (tk p) 1 by unfold am_tl; rw [hk]; decide)]
    exact am_xr_reqF hn hA hen H.1 H.2.1 H.2.2.1 (lt H.2.2.2.1) hv hk hno hq
  · intro a p e stk rk rv s H hk hv ha h
    have h2 := am_LX_v' h
    rw [am_er_t (show am_tl (tk p) 2 from Or.inr (Or.inr (Or.inr (Or.inl ⟨hk, rfl⟩))))] at h2
    refine am_LX_r ⟨by decide, H.2.2.2.2⟩ ?_
    rw [am_er_f (show ¬ am_tl (tk p) 1 by unfold am_tl; rw [hk]; decide)]
    exact am_xr_let hn hA hen H.1 H.2.1 H.2.2.1 (lt H.2.2.2.1) hv hk ha h2
  · intro a p e stk rk rv s H hk _ ha hq
    refine am_LX_r ⟨by decide, H.2.2.2.2⟩ ?_
    rw [am_er_f (show ¬ am_tl (tk p) 1 by unfold am_tl; rw [hk]; decide)]
    exact am_xr_letF hn hA hen H.1 H.2.1 H.2.2.1 (lt H.2.2.2.1) hk ha hq
  · intro a p e stk rk rv s f H hk _ hf hlk h
    refine am_LX_r ⟨by decide, H.2.2.2.2⟩ ?_
    rw [am_er_f (show ¬ am_tl (tk p) 1 by unfold am_tl; rw [hk]; decide)]
    exact am_xr_set hn hA hen H.1 H.2.1 H.2.2.1 (lt H.2.2.2.1) hk hf hlk (am_LX_r' H.2.2.2.2 h)
  · intro a p e stk rk rv s H hk _ hlk hq
    refine am_LX_r ⟨by decide, H.2.2.2.2⟩ ?_
    rw [am_er_f (show ¬ am_tl (tk p) 1 by unfold am_tl; rw [hk]; decide)]
    exact am_xr_setF hn hA hen H.1 H.2.1 H.2.2.1 (lt H.2.2.2.1) hk hlk hq
  · intro a p e stk rk rv s H hk _ h
    have h2 := am_LX_v' h
    rw [am_er_t (show am_tl (tk p) 2 from Or.inr (Or.inr (Or.inr (Or.inr (Or.inr ⟨hk, rfl⟩)))))] at h2
    refine am_LX_r ⟨by decide, H.2.2.2.2⟩ ?_
    rw [am_er_f (show ¬ am_tl (tk p) 1 by unfold am_tl; rw [hk]; decide)]
    exact am_xr_seq hn hA hen H.1 H.2.1 H.2.2.1 (lt H.2.2.2.1) hk h2
  · intro a p e stk rk rv s c lp H hk hv hc ha hlp elp h
    have h2 := am_LX_v' h
    rw [am_er_t (show am_tl (tk p) 3 from Or.inr (Or.inr (Or.inr (Or.inr (Or.inl ⟨hk, rfl⟩)))))] at h2
    refine am_LX_r ⟨by decide, H.2.2.2.2⟩ ?_
    rw [am_er_f (show ¬ am_tl (tk p) 2 by unfold am_tl; rw [hk]; decide)]
    exact am_xr_app hn hA hen H.1 H.2.1 H.2.2.1 (lt H.2.2.2.1) hv hk hc ha hlp elp h2
  · intro a p e stk k v rk rv s H hk hkv _ hno hq
    refine am_LX_r ⟨by decide, H.2.2.2.2⟩ ?_
    rw [am_er_f (show ¬ am_tl (tk p) 2 by unfold am_tl; rw [hk]; decide)]
    by_cases k2 : k = 2
    · rcases hno with hno | hno
      · exact absurd k2 hno
      · subst k2
        rcases hkv with q | ⟨_, c, hc, q⟩
        · exact absurd q (by decide)
        · subst q
          exact am_xr_appF2 hn hA hen H.1 H.2.1 H.2.2.1 (lt H.2.2.2.1) hk hc hno hq
    · exact am_xr_appF1 hn hA hen H.1 H.2.1 H.2.2.1 (lt H.2.2.2.1) hk k2 hq
  · intro a p e stk st k v rk rv s H _ hk h
    have hs0 : ¬ st = 0 := by
      rcases hk with ⟨_, z⟩ | ⟨_, z⟩ | ⟨_, z⟩ | ⟨_, z⟩ | ⟨_, z⟩ | ⟨_, z⟩ <;> rw [z] <;> decide
    refine am_LX_r ⟨hs0, H.2.2.2.2⟩ ?_
    rw [am_er_t hk]
    exact am_xr_monoR (Nat.le_succ a) (am_LX_r' H.2.2.2.2 h)
end
end
section
/-! a path, from its beginning to its end -/
section
variable {f_maxC f_maxA f_n f_ph f_sols f_fails f_lastKind f_lastVal f_lastLen f_lastAlloc f_curLen f_over f_used f_allocs f_nf f_nc f_sp f_rk f_rv : Int32} {a_tk a_ta a_lastBits a_cur a_fVar a_fPar a_fK a_fV a_cPos a_cEnv a_sPos a_sEnv a_sSt a_sK a_sV : Nat → Int32}
variable {post : Int32 → SY → Prop} {n : Nat} {tk ta : Nat → Int32} {mC mA : Nat} {ph sols fails lK lV lL lA ov : Int32} {lB : Nat → Int32} {b : Nat → Bool} {L0 : Nat}
/-- a path that succeeded -/
def am_PY (post : Int32 → SY → Prop) (n : Nat) (tk ta : Nat → Int32) (mC mA : Nat) (ph sols fails lK lV lL lA ov : Int32) (lB : Nat → Int32) (b : Nat → Bool) (L0 : Nat) (rk rv : Int32) (s : am_S) : Prop :=
  ∀ (f_sp : Int32) (cur gVar gPar gK gV gPos gEnv hP hE hS hK hV : Nat → Int32), am_sy s gVar gPar gK gV gPos gEnv → (∀ j, j < am_mx L0 (am_us s) → cur j = am_bI (b j)) → post 1 (nI mC, nI mA, nI n, ph, sols, fails, lK, lV, lL, lA, nI (am_mx L0 (am_us s)), ov, nI (am_us s), nI (am_al s), nI (am_nf s), nI (am_nc s), f_sp, rk, rv, tk, ta, lB, cur, gVar, gPar, gK, gV, gPos, gEnv, hP, hE, hS, hK, hV)
theorem am_yr_end {a : Nat} {rk rv : Int32} {s : am_S} (h : am_PY post n tk ta mC mA ph sols fails lK lV lL lA ov lB b L0 rk rv s) : am_LY post n tk ta mC mA ph sols fails lK lV lL lA ov lB b L0 (a + 1) [] rk rv s := by
  intro m cur gVar gPar gK gV gPos gEnv hP hE hS hK hV h1 h2 h3 h4 h5
  obtain ⟨m, rfl⟩ : ∃ m', m = m' + 1 := ⟨m - 1, by omega⟩
  have f1 : ¬ (100000 : Int32) ≤ nI (100000 - (m + 1)) := nI_ge (b := 100000) (by omega) (by decide)
  rw [wY_runPath_46]
  exact br_t rfl (br_f f1 (nm_e (br_t rfl (br_f (by decide) (h _ cur gVar gPar gK gV gPos gEnv hP hE hS hK hV h3 h5)))))
theorem am_yrun (hn : n ≤ 32) (hA : mA ≤ 16) (hC : mC ≤ 6) (hL : L0 ≤ 6) (hz : ∀ j, L0 ≤ j → b j = false) (hK : ∀ i, i < n → am_kd (tk i)) (hcur : ∀ j, j < L0 → a_cur j = am_bI (b j))
    (hS : (am_run n tk ta mC mA b).1 = true → am_PY post n tk ta mC mA ph sols fails lK lV lL lA ov lB b L0 (am_run n tk ta mC mA b).2.1 (am_run n tk ta mC mA b).2.2.1 (am_run n tk ta mC mA b).2.2.2) (hF : (am_run n tk ta mC mA b).1 = false → am_QY post n tk ta mC mA ph sols fails lK lV lL lA ov lB b L0 (am_run n tk ta mC mA b).2.2.2) : wpY_runPath post (nI mC, nI mA, nI n, ph, sols, fails, lK, lV, lL, lA, nI L0, ov, f_used, f_allocs, f_nf, f_nc, f_sp, f_rk, f_rv, tk, ta, lB, a_cur, a_fVar, a_fPar, a_fK, a_fV, a_cPos, a_cEnv, a_sPos, a_sEnv, a_sSt, a_sK, a_sV) := by
  have hk : am_K (am_LY post n tk ta mC mA ph sols fails lK lV lL lA ov lB b L0) (am_QY post n tk ta mC mA ph sols fails lK lV lL lA ov lB b L0) [] 1 (am_run n tk ta mC mA b) := by
    cases hr : (am_run n tk ta mC mA b).1 with
    | true => exact am_K_T hr (am_yr_end (a := 0) (hS hr))
    | false => exact am_K_F hr (hF hr)
  have e0 : am_al am_s0 = 0 := rfl
  have en0 : am_eN tk n 0 ≤ n := am_eN_le (Nat.zero_le n)
  have hs := am_sim (am_yI hn hA hC hL hz) hA hn hK 545 0 (-1) am_s0 [] 0 0 1 (Nat.zero_le n) (am_WF_0 n mC mA) (Or.inl rfl) True.intro (by rw [e0, List.length_nil]; omega) (by rw [e0]; omega) hk
  have e1 : am_mx L0 (am_us am_s0) = L0 := by
    show L0 + (0 - L0) = L0
    omega
  have sy0 : am_sy am_s0 a_fVar a_fPar a_fK a_fV a_cPos a_cEnv := ⟨fun f hf => absurd hf (Nat.not_lt_zero f), fun c hc => absurd hc (Nat.not_lt_zero c)⟩
  have hh := hs 100000 a_cur a_fVar a_fPar a_fK a_fV a_cPos a_cEnv (upd a_sPos 0 (nI 0)) (upd a_sEnv 0 (-1)) (upd a_sSt 0 0) (upd a_sK 0 0) (upd a_sV 0 0) (by rw [e0]; omega) (Nat.le_refl _) sy0 (am_fy_push (r := []) True.intro) (by rw [e1]; exact hcur)
  rw [e1] at hh
  unfold wpY_runPath
  exact am_ypush (t := 0) (by omega) rfl ⟨100000 + 1, hh⟩
end
section
variable {f_maxChoices f_maxAlloc f_held f_stage f_solutions f_failures f_lastKind f_lastValue f_lastChoices f_lastChoiceCount f_lastAllocCount f_steering f_steeringLength f_pathLeft f_failed f_choicesMade f_allocsMade f_visiting f_position f_environment f_resultIsClosure f_resultValue f_depth : Int32} {a_kinds a_args a_ends a_locationVariable a_locationOuter a_locationIsClosure a_locationValue a_closureToken a_closureEnvironment a_frameToken a_frameEnvironment a_frameHasFirst a_frameFirstIsClosure a_frameFirstValue : Nat → Int32}
variable {post : SX → Prop} {n : Nat} {tk ta en : Nat → Int32} {mC mA : Nat} {ph sols fails lK lV lH lL lA pl : Int32} {b : Nat → Bool} {L0 : Nat}
def am_PX (post : SX → Prop) (n : Nat) (tk ta en : Nat → Int32) (mC mA : Nat) (ph sols fails lK lV lH lL lA pl : Int32) (b : Nat → Bool) (L0 : Nat) (rk rv : Int32) (s : am_S) : Prop :=
  ∀ (f_position f_environment f_depth : Int32) (jV jO jC jW kT kE fT fE fH fC fW : Nat → Int32), am_sx s jV jO jC jW kT kE → post (nI mC, nI mA, nI n, ph, sols, fails, lK, lV, lH, lL, lA, nI (am_nm b (am_mx L0 (am_us s))), nI (am_mx L0 (am_us s)), pl, 0, nI (am_us s), nI (am_al s), 0, f_position, f_environment, am_xk rk, am_xv s rk rv, f_depth, tk, ta, en, jV, jO, jC, jW, kT, kE, fT, fE, fH, fC, fW)
theorem am_xr_end {a : Nat} {rk rv : Int32} {s : am_S} (h : am_PX post n tk ta en mC mA ph sols fails lK lV lH lL lA pl b L0 rk rv s) : am_LX post n tk ta en mC mA ph sols fails lK lV lH lL lA pl b L0 a [] rk rv s := by
  intro m po ev jV jO jC jW kT kE fT fE fH fC fW h1 h2 h3 h4
  have hh := h po ev (nI ([] : List am_F).length) jV jO jC jW kT kE fT fE fH fC fW h3
  rw [wX_runPath_34]
  exact br_c (fun _ => hh) (fun _ => br_f (by decide) hh)
theorem am_xrun (hn : n ≤ 32) (hA : mA ≤ 16) (hC : mC ≤ 6) (hL : L0 ≤ 6) (hz : ∀ j, L0 ≤ j → b j = false) (hK : ∀ i, i < n → am_kd (tk i)) (hen : ∀ i, i < n → en i = nI (am_eN tk n i))
    (hS : (am_run n tk ta mC mA b).1 = true → am_PX post n tk ta en mC mA ph sols fails lK lV lH lL lA pl b L0 (am_run n tk ta mC mA b).2.1 (am_run n tk ta mC mA b).2.2.1 (am_run n tk ta mC mA b).2.2.2) (hF : (am_run n tk ta mC mA b).1 = false → am_QX post n tk ta en mC mA ph sols fails lK lV lH lL lA pl b L0 (am_run n tk ta mC mA b).2.2.2) : wpX_runPath post (nI mC, nI mA, nI n, ph, sols, fails, lK, lV, lH, lL, lA, nI (am_nm b L0), nI L0, pl, f_failed, f_choicesMade, f_allocsMade, f_visiting, f_position, f_environment, f_resultIsClosure, f_resultValue, f_depth, tk, ta, en, a_locationVariable, a_locationOuter, a_locationIsClosure, a_locationValue, a_closureToken, a_closureEnvironment, a_frameToken, a_frameEnvironment, a_frameHasFirst, a_frameFirstIsClosure, a_frameFirstValue) := by
  have hk : am_K (am_LX post n tk ta en mC mA ph sols fails lK lV lH lL lA pl b L0) (am_QX post n tk ta en mC mA ph sols fails lK lV lH lL lA pl b L0) [] 1 (am_run n tk ta mC mA b) := by
    cases hr : (am_run n tk ta mC mA b).1 with
    | true => exact am_K_T hr (am_xr_end (hS hr))
    | false => exact am_K_F hr (hF hr)
  have e0 : am_al am_s0 = 0 := rfl
  have en0 : am_eN tk n 0 ≤ n := am_eN_le (Nat.zero_le n)
  have hs := am_sim (am_xI hn hA hC hL hz hen) hA hn hK 545 0 (-1) am_s0 [] 0 0 1 (Nat.zero_le n) (am_WF_0 n mC mA) (Or.inl rfl) True.intro (by rw [e0, List.length_nil]; omega) (by rw [e0]; omega) hk
  have e1 : am_mx L0 (am_us am_s0) = L0 := by
    show L0 + (0 - L0) = L0
    omega
  have sx0 : am_sx am_s0 a_locationVariable a_locationOuter a_locationIsClosure a_locationValue a_closureToken a_closureEnvironment := ⟨fun f hf => absurd hf (Nat.not_lt_zero f), fun c hc => absurd hc (Nat.not_lt_zero c)⟩
  have hh := (am_LX_v' hs) 1000000 f_resultIsClosure f_resultValue a_locationVariable a_locationOuter a_locationIsClosure a_locationValue a_closureToken a_closureEnvironment a_frameToken a_frameEnvironment a_frameHasFirst a_frameFirstIsClosure a_frameFirstValue (by rw [e0]; omega) (Nat.le_refl _) sx0 True.intro
  rw [e1, am_xe_m] at hh
  unfold wpX_runPath
  exact am_xvn (x' := nI 0) rfl ⟨1000000 + 1, hh⟩
end
end
section
/-! from path to path -/
def am_lv (s : am_S) (k v : Int32) : Int32 := if k = 2 then am_cPos s v.toNatClampNeg else v
def am_pl : Bool → Int32
  | true => 0
  | false => 1
def am_oI : Bool → Int32
  | true => 1
  | false => 0
/-- the search's place, as the component and as the reference keep it -/
def am_HX (ov : Bool) (b : Nat → Bool) (L : Nat) (f_pathLeft f_steering f_steeringLength : Int32) : Prop := f_pathLeft = am_pl ov ∧ (ov = false → f_steering = nI (am_nm b L) ∧ f_steeringLength = nI L)
def am_HY (ov : Bool) (b : Nat → Bool) (L : Nat) (f_over f_curLen : Int32) (a_cur : Nat → Int32) : Prop := f_over = am_oI ov ∧ (ov = false → f_curLen = nI L ∧ ∀ j, j < L → a_cur j = am_bI (b j))
def am_RX (mC mA n : Nat) (tk ta : Nat → Int32) (ph sols fails lK lV lA : Int32) (lc : Nat) (lb : Nat → Bool) (ov : Bool) (b : Nat → Bool) (L : Nat) (u : SX) : Prop :=
  ∃ (f_steering f_steeringLength f_pathLeft f_failed f_choicesMade f_allocsMade f_visiting f_position f_environment f_resultIsClosure f_resultValue f_depth : Int32) (a_ends a_locationVariable a_locationOuter a_locationIsClosure a_locationValue a_closureToken a_closureEnvironment a_frameToken a_frameEnvironment a_frameHasFirst a_frameFirstIsClosure a_frameFirstValue : Nat → Int32), u = (nI mC, nI mA, nI n, ph, sols, fails, lK, lV, nI (am_nm lb lc), nI lc, lA, f_steering, f_steeringLength, f_pathLeft, f_failed, f_choicesMade, f_allocsMade, f_visiting, f_position, f_environment, f_resultIsClosure, f_resultValue, f_depth, tk, ta, a_ends, a_locationVariable, a_locationOuter, a_locationIsClosure, a_locationValue, a_closureToken, a_closureEnvironment, a_frameToken, a_frameEnvironment, a_frameHasFirst, a_frameFirstIsClosure, a_frameFirstValue) ∧ (¬ ph = 0 → (∀ i, i < n → a_ends i = nI (am_eN tk n i)) ∧ am_HX ov b L f_pathLeft f_steering f_steeringLength)
def am_RY (mC mA n : Nat) (tk ta : Nat → Int32) (ph sols fails lK lV lA : Int32) (lc : Nat) (lb : Nat → Bool) (ov : Bool) (b : Nat → Bool) (L : Nat) (v : SY) : Prop :=
  ∃ (f_curLen f_over f_used f_allocs f_nf f_nc f_sp f_rk f_rv : Int32) (a_lastBits a_cur a_fVar a_fPar a_fK a_fV a_cPos a_cEnv a_sPos a_sEnv a_sSt a_sK a_sV : Nat → Int32), v = (nI mC, nI mA, nI n, ph, sols, fails, lK, lV, nI lc, lA, f_curLen, f_over, f_used, f_allocs, f_nf, f_nc, f_sp, f_rk, f_rv, tk, ta, a_lastBits, a_cur, a_fVar, a_fPar, a_fK, a_fV, a_cPos, a_cEnv, a_sPos, a_sEnv, a_sSt, a_sK, a_sV) ∧ (∀ j, j < lc → a_lastBits j = am_bI (lb j)) ∧ (¬ ph = 0 → am_HY ov b L f_over f_curLen a_cur)
/-- the vector that stands is one that the search comes to -/
def am_V (mC mA n : Nat) (tk ta : Nat → Int32) (b : Nat → Bool) (L : Nat) : Prop := L ≤ mC ∧ (∀ j, L ≤ j → b j = false) ∧ L ≤ am_us (am_run n tk ta mC mA b).2.2.2
def am_PD (mC mA n : Nat) (tk ta : Nat → Int32) (ph : Int32) (lc : Nat) (ov : Bool) (b : Nat → Bool) (L : Nat) : Prop := mC ≤ 6 ∧ mA ≤ 16 ∧ n ≤ 32 ∧ (∀ i, i < n → am_kd (tk i)) ∧ lc ≤ 6 ∧ (ph = 2 → ov = true) ∧ (¬ ph = 0 → ov = false → am_V mC mA n tk ta b L)
def am_ov (b : Nat → Bool) (k : Nat) : Bool := decide (am_la b k = 0)
def am_nb (b : Nat → Bool) (k : Nat) : Nat → Bool := am_sb b (am_la b k - 1)
theorem am_ov_t {b : Nat → Bool} {k : Nat} (h : am_la b k = 0) : am_ov b k = true := decide_eq_true h
theorem am_ov_f {b : Nat → Bool} {k q : Nat} (h : am_la b k = q + 1) : am_ov b k = false := decide_eq_false (by omega)
theorem am_nb_q {b : Nat → Bool} {k q : Nat} (h : am_la b k = q + 1) : am_nb b k = am_sb b q := by
  unfold am_nb
  rw [h, Nat.add_sub_cancel]
theorem am_V_nb {mC mA n : Nat} {tk ta : Nat → Int32} {b : Nat → Bool} {q : Nat} (hA : mA ≤ 16) (hn : n ≤ 32) (h : am_la b (am_us (am_run n tk ta mC mA b).2.2.2) = q + 1) : am_V mC mA n tk ta (am_sb b q) (q + 1) := by
  obtain ⟨h1, h2⟩ := am_la_q _ h
  have hw := (am_run_G (tk := tk) (ta := ta) (mC := mC) b hA hn).1.1
  exact ⟨by omega, fun j hj => am_sb_hi hj, am_reach (fun i hi => (am_sb_lo hi).symm) h1⟩
section
variable {f_maxChoices f_maxAlloc f_held f_stage f_solutions f_failures f_lastKind f_lastValue f_lastChoices f_lastChoiceCount f_lastAllocCount f_steering f_steeringLength f_pathLeft f_failed f_choicesMade f_allocsMade f_visiting f_position f_environment f_resultIsClosure f_resultValue f_depth : Int32} {a_kinds a_args a_ends a_locationVariable a_locationOuter a_locationIsClosure a_locationValue a_closureToken a_closureEnvironment a_frameToken a_frameEnvironment a_frameHasFirst a_frameFirstIsClosure a_frameFirstValue : Nat → Int32}
theorem am_xkeep {post : SX → Prop} {n mC mA : Nat} {s : am_S} {rk rv : Int32} (w : am_WF n mC mA s) (hA : mA ≤ 16) (hv : am_okV s rk rv) (hs : am_sx s a_locationVariable a_locationOuter a_locationIsClosure a_locationValue a_closureToken a_closureEnvironment) (h : post (f_maxChoices, f_maxAlloc, f_held, f_stage, f_solutions + 1, f_failures, rk, am_lv s rk rv, f_steering, f_choicesMade, f_allocsMade, f_steering, f_steeringLength, f_pathLeft, f_failed, f_choicesMade, f_allocsMade, f_visiting, f_position, f_environment, am_xk rk, am_xv s rk rv, f_depth, a_kinds, a_args, a_ends, a_locationVariable, a_locationOuter, a_locationIsClosure, a_locationValue, a_closureToken, a_closureEnvironment, a_frameToken, a_frameEnvironment, a_frameHasFirst, a_frameFirstIsClosure, a_frameFirstValue)) : wpX_keepSolution post (f_maxChoices, f_maxAlloc, f_held, f_stage, f_solutions, f_failures, f_lastKind, f_lastValue, f_lastChoices, f_lastChoiceCount, f_lastAllocCount, f_steering, f_steeringLength, f_pathLeft, f_failed, f_choicesMade, f_allocsMade, f_visiting, f_position, f_environment, am_xk rk, am_xv s rk rv, f_depth, a_kinds, a_args, a_ends, a_locationVariable, a_locationOuter, a_locationIsClosure, a_locationValue, a_closureToken, a_closureEnvironment, a_frameToken, a_frameEnvironment, a_frameHasFirst, a_frameFirstIsClosure, a_frameFirstValue) := by
  rcases hv with y | ⟨y, c, hc, z⟩
  · subst y
    have el : am_lv s 1 rv = rv := if_neg (by decide)
    rw [el, am_xk_1, am_xv_1] at h
    rw [am_xk_1, am_xv_1]
    exact nm_e (br_t rfl (br_t rfl h))
  · subst y
    subst z
    have hcb := am_WF_c w hA hc
    have hx : am_xc s c < 16 := by
      have h5 := (w.2.2.2 c hc).2.2
      have h6 := w.2.1
      omega
    have el : am_lv s 2 (nI c) = am_cPos s c := by
      unfold am_lv
      rw [if_pos rfl, nI_clamp (by omega)]
    have hd : (nI (am_xc s c)).toNatClampNeg = am_xc s c := nI_clamp (by omega)
    rw [el, am_xk_2, am_xv_2 s (by omega)] at h
    rw [am_xk_2, am_xv_2 s (by omega)]
    exact nm_e (br_f (by decide) (br_f (by decide) (br_f (nI_pos (by omega)) (br_f (nI_ge (b := 16) hx (by decide)) ⟨vp_in_nI hx (by decide), by rw [hd, (hs.2 c hc).1]; exact h⟩))))
theorem am_xadv0 {post : SX → Prop} {b : Nat → Bool} : ∀ k i : Nat, i + k ≤ 6 → (∀ f_pathLeft f_steering f_steeringLength : Int32, am_HX (am_ov b k) (am_nb b k) (am_la b k) f_pathLeft f_steering f_steeringLength → post (f_maxChoices, f_maxAlloc, f_held, f_stage, f_solutions, f_failures, f_lastKind, f_lastValue, f_lastChoices, f_lastChoiceCount, f_lastAllocCount, f_steering, f_steeringLength, f_pathLeft, f_failed, f_choicesMade, f_allocsMade, f_visiting, f_position, f_environment, f_resultIsClosure, f_resultValue, f_depth, a_kinds, a_args, a_ends, a_locationVariable, a_locationOuter, a_locationIsClosure, a_locationValue, a_closureToken, a_closureEnvironment, a_frameToken, a_frameEnvironment, a_frameHasFirst, a_frameFirstIsClosure, a_frameFirstValue)) → wX_moveToNextPath_2 post f_maxChoices f_maxAlloc f_held f_stage f_solutions f_failures f_lastKind f_lastValue f_lastChoices f_lastChoiceCount f_lastAllocCount f_pathLeft f_failed f_choicesMade f_allocsMade f_visiting f_position f_environment f_resultIsClosure f_resultValue f_depth a_kinds a_args a_ends a_locationVariable a_locationOuter a_locationIsClosure a_locationValue a_closureToken a_closureEnvironment a_frameToken a_frameEnvironment a_frameHasFirst a_frameFirstIsClosure a_frameFirstValue (k + 1) (nI i) (nI (am_nm b k)) (nI k) := by
  intro k
  induction k with
  | zero =>
    intro i hi h
    have hh := h 0 (nI 0 ||| 1) (nI 0) ⟨rfl, fun z => absurd z (by show ¬ (am_ov b 0 = false); rw [am_ov_t (b := b) (k := 0) rfl]; decide)⟩
    have h44 : wX_moveToNextPath_44 post f_maxChoices f_maxAlloc f_held f_stage f_solutions f_failures f_lastKind f_lastValue f_lastChoices f_lastChoiceCount f_lastAllocCount (nI 0) (nI 0) f_pathLeft f_failed f_choicesMade f_allocsMade f_visiting f_position f_environment f_resultIsClosure f_resultValue f_depth a_kinds a_args a_ends a_locationVariable a_locationOuter a_locationIsClosure a_locationValue a_closureToken a_closureEnvironment a_frameToken a_frameEnvironment a_frameHasFirst a_frameFirstIsClosure a_frameFirstValue := br_t (Int32.le_refl _) ⟨rfl, rfl, nm_e hh⟩
    rw [wX_moveToNextPath_2]
    have n0 : ¬ nI (am_nm b 0) &&& 1 = 1 := by
      show ¬ nI 0 &&& 1 = 1
      decide
    exact br_c (fun _ => h44) (fun _ => br_f n0 h44)
  | succ k ih =>
    intro i hi h
    have i6 : ¬ (6 : Int32) ≤ nI i := nI_ge (b := 6) (by omega) (by decide)
    have hx := am_nm_le (b := b) (L := k + 1) (by omega)
    have eb : nI (am_nm b (k + 1)) &&& 1 = nI (am_b1 (b k)) := by rw [am_and1 _ hx, am_nm_odd]
    rw [wX_moveToNextPath_2]
    cases hb : b k with
    | true =>
      rw [hb] at eb
      have e1 : nI (am_nm b (k + 1)) >>> ((1 : Int32) &&& 31) = nI (am_nm b k) := by rw [am_shr1 _ hx, am_nm_half]
      have el := am_la_t hb
      have eo : am_ov b (k + 1) = am_ov b k := by unfold am_ov; rw [el]
      have en : am_nb b (k + 1) = am_nb b k := by unfold am_nb; rw [el]
      rw [eo, en, el] at h
      exact br_f i6 (br_t eb (nm_r e1 (nm_r (nI_pred k) (nm_r (nI_1 i) (ih (i + 1) (by omega) h)))))
    | false =>
      rw [hb] at eb
      have el := am_la_f hb
      have ex : am_nm b (k + 1) = 2 * am_nm b k := by
        rw [am_nm_s, hb]
        rfl
      have e1 : nI (am_nm b (k + 1)) ||| 1 = nI (am_nm (am_sb b k) (k + 1)) := by rw [ex, am_or1 _ (by omega), am_nm_sb]
      have hh := h 1 (nI (am_nm (am_sb b k) (k + 1))) (nI (k + 1)) ⟨by rw [am_ov_f el]; rfl, fun _ => by rw [am_nb_q el, el]; exact ⟨rfl, rfl⟩⟩
      exact br_f i6 (br_f (by rw [eb]; decide) (br_f (nI_nle (by omega) (by omega)) ⟨rfl, rfl, nm_r e1 hh⟩))
theorem am_xadv {post : SX → Prop} {b : Nat → Bool} {k : Nat} (hk : k ≤ 6) (h : ∀ f_pathLeft f_steering f_steeringLength : Int32, am_HX (am_ov b k) (am_nb b k) (am_la b k) f_pathLeft f_steering f_steeringLength → post (f_maxChoices, f_maxAlloc, f_held, f_stage, f_solutions, f_failures, f_lastKind, f_lastValue, f_lastChoices, f_lastChoiceCount, f_lastAllocCount, f_steering, f_steeringLength, f_pathLeft, f_failed, f_choicesMade, f_allocsMade, f_visiting, f_position, f_environment, f_resultIsClosure, f_resultValue, f_depth, a_kinds, a_args, a_ends, a_locationVariable, a_locationOuter, a_locationIsClosure, a_locationValue, a_closureToken, a_closureEnvironment, a_frameToken, a_frameEnvironment, a_frameHasFirst, a_frameFirstIsClosure, a_frameFirstValue)) : wpX_moveToNextPath post (f_maxChoices, f_maxAlloc, f_held, f_stage, f_solutions, f_failures, f_lastKind, f_lastValue, f_lastChoices, f_lastChoiceCount, f_lastAllocCount, nI (am_nm b k), nI k, f_pathLeft, f_failed, f_choicesMade, f_allocsMade, f_visiting, f_position, f_environment, f_resultIsClosure, f_resultValue, f_depth, a_kinds, a_args, a_ends, a_locationVariable, a_locationOuter, a_locationIsClosure, a_locationValue, a_closureToken, a_closureEnvironment, a_frameToken, a_frameEnvironment, a_frameHasFirst, a_frameFirstIsClosure, a_frameFirstValue) := ⟨k + 1, am_xadv0 k 0 (by omega) h⟩
end
section
variable {f_maxC f_maxA f_n f_ph f_sols f_fails f_lastKind f_lastVal f_lastLen f_lastAlloc f_curLen f_over f_used f_allocs f_nf f_nc f_sp f_rk f_rv : Int32} {a_tk a_ta a_lastBits a_cur a_fVar a_fPar a_fK a_fV a_cPos a_cEnv a_sPos a_sEnv a_sSt a_sK a_sV : Nat → Int32}
def am_pI : Nat → Int32
  | 0 => -1
  | k + 1 => nI k
theorem am_pI_m (k : Nat) : nI k + (-1) = am_pI k := by
  cases k with
  | zero => decide
  | succ k => exact am_m1 k
theorem am_pI_s (k : Nat) : nI k - 1 = am_pI k := by
  cases k with
  | zero => decide
  | succ k => exact nI_pred k
theorem am_yadv0 {post : SY → Prop} {b : Nat → Bool} : ∀ k : Nat, k ≤ 6 → (∀ j, j < k → a_cur j = am_bI (b j)) → (am_la b k = 0 → post (f_maxC, f_maxA, f_n, f_ph, f_sols, f_fails, f_lastKind, f_lastVal, f_lastLen, f_lastAlloc, f_curLen, 1, f_used, f_allocs, f_nf, f_nc, f_sp, f_rk, f_rv, a_tk, a_ta, a_lastBits, a_cur, a_fVar, a_fPar, a_fK, a_fV, a_cPos, a_cEnv, a_sPos, a_sEnv, a_sSt, a_sK, a_sV)) → (∀ q, am_la b k = q + 1 → post (f_maxC, f_maxA, f_n, f_ph, f_sols, f_fails, f_lastKind, f_lastVal, f_lastLen, f_lastAlloc, nI (q + 1), f_over, f_used, f_allocs, f_nf, f_nc, f_sp, f_rk, f_rv, a_tk, a_ta, a_lastBits, upd a_cur q 1, a_fVar, a_fPar, a_fK, a_fV, a_cPos, a_cEnv, a_sPos, a_sEnv, a_sSt, a_sK, a_sV)) → wY_advance_11 post f_maxC f_maxA f_n f_ph f_sols f_fails f_lastKind f_lastVal f_lastLen f_lastAlloc f_curLen f_over f_used f_allocs f_nf f_nc f_sp f_rk f_rv a_tk a_ta a_lastBits a_cur a_fVar a_fPar a_fK a_fV a_cPos a_cEnv a_sPos a_sEnv a_sSt a_sK a_sV (k + 1) (am_pI k) := by
  intro k
  induction k with
  | zero =>
    intro _ _ h0 _
    rw [wY_advance_11]
    exact br_t (by decide) (br_f (by decide) (h0 rfl))
  | succ k ih =>
    intro hk hc h0 h1
    have cc : (nI k).toNatClampNeg = k := nI_clamp (by omega)
    have v : vp_in (nI k) 6 := vp_in_nI (by omega) (by decide)
    have ec : a_cur (nI k).toNatClampNeg = am_bI (b k) := by rw [cc]; exact hc k (Nat.lt_succ_self k)
    show wY_advance_11 post f_maxC f_maxA f_n f_ph f_sols f_fails f_lastKind f_lastVal f_lastLen f_lastAlloc f_curLen f_over f_used f_allocs f_nf f_nc f_sp f_rk f_rv a_tk a_ta a_lastBits a_cur a_fVar a_fPar a_fK a_fV a_cPos a_cEnv a_sPos a_sEnv a_sSt a_sK a_sV (k + 1 + 1) (nI k)
    rw [wY_advance_11]
    cases hb : b k with
    | true =>
      rw [hb] at ec
      rw [am_la_t hb] at h0 h1
      exact br_f (nI_pos (by omega)) ⟨v, br_t ec (nm_r (am_pI_m k) (ih (by omega) (fun j hj => hc j (by omega)) h0 h1))⟩
    | false =>
      rw [hb] at ec
      have hh := h1 k (am_la_f hb)
      exact br_f (nI_pos (by omega)) ⟨v, br_f (by rw [ec]; decide) (br_t (nI_pos' (by omega)) ⟨v, nm_r (by rw [cc]) (nm_r (nI_1 k) hh)⟩)⟩
theorem am_yadv {post : SY → Prop} {b : Nat → Bool} {k : Nat} (hk : k ≤ 6) (hc : ∀ j, j < k → a_cur j = am_bI (b j)) (h : ∀ (f_over f_curLen : Int32) (a_cur : Nat → Int32), am_HY (am_ov b k) (am_nb b k) (am_la b k) f_over f_curLen a_cur → post (f_maxC, f_maxA, f_n, f_ph, f_sols, f_fails, f_lastKind, f_lastVal, f_lastLen, f_lastAlloc, f_curLen, f_over, f_used, f_allocs, f_nf, f_nc, f_sp, f_rk, f_rv, a_tk, a_ta, a_lastBits, a_cur, a_fVar, a_fPar, a_fK, a_fV, a_cPos, a_cEnv, a_sPos, a_sEnv, a_sSt, a_sK, a_sV)) : wpY_advance post (f_maxC, f_maxA, f_n, f_ph, f_sols, f_fails, f_lastKind, f_lastVal, f_lastLen, f_lastAlloc, f_curLen, 0, f_used, f_allocs, f_nf, f_nc, f_sp, f_rk, f_rv, a_tk, a_ta, a_lastBits, a_cur, a_fVar, a_fPar, a_fK, a_fV, a_cPos, a_cEnv, a_sPos, a_sEnv, a_sSt, a_sK, a_sV) (nI k) := by
  have g := am_yadv0 (post := post) (b := b) (f_over := 0) (a_cur := a_cur) k hk hc
    (fun z => h 1 f_curLen a_cur ⟨by rw [am_ov_t z]; rfl, fun y => absurd y (by rw [am_ov_t z]; decide)⟩)
    (fun q z => h 0 (nI (q + 1)) (upd a_cur q 1) ⟨by rw [am_ov_f z]; rfl, fun _ => ⟨by rw [z], fun j hj => by
      rw [am_nb_q z]
      rw [z] at hj
      by_cases e : j = q
      · rw [e, am_up_s, am_sb_at]
        rfl
      · have hq := (am_la_q _ z).1
        rw [am_up_n e, am_sb_lo (by omega)]
        exact hc j (by omega)⟩⟩)
  have e5 : am_pI k ≤ 5 := by
    cases k with
    | zero => decide
    | succ k => exact nI_le (b := 5) (by omega) (by decide)
  exact nm_r (am_pI_s k) (br_t e5 ⟨k + 1, g⟩)
theorem am_y113 {post : Int32 → SY → Prop} {J : Int32 → Int32 → Int32 → Int32 → Int32 → Int32 → Int32 → Int32 → Int32 → Int32 → Int32 → Int32 → Int32 → Int32 → Int32 → Int32 → Int32 → Int32 → Int32 → Int32 → (Nat → Int32) → (Nat → Int32) → (Nat → Int32) → (Nat → Int32) → (Nat → Int32) → (Nat → Int32) → (Nat → Int32) → (Nat → Int32) → (Nat → Int32) → (Nat → Int32) → (Nat → Int32) → (Nat → Int32) → (Nat → Int32) → (Nat → Int32) → (Nat → Int32) → Prop} {x1 x2 : Int32} {k : Nat} (hk : k ≤ 6) : ∀ (d j : Nat) (lB : Nat → Int32), j + d = k → (∀ i, i < j → lB i = a_cur i) → (∀ lB' : Nat → Int32, (∀ i, i < k → lB' i = a_cur i) → wY_next_146 post J x1 x2 (nI k) f_maxC f_maxA f_n f_ph f_sols f_fails f_lastKind f_lastVal f_lastLen f_lastAlloc f_curLen f_over f_used f_allocs f_nf f_nc f_sp f_rk f_rv a_tk a_ta lB' a_cur a_fVar a_fPar a_fK a_fV a_cPos a_cEnv a_sPos a_sEnv a_sSt a_sK a_sV) → wY_next_113 post J x1 x2 (nI k) f_maxC f_maxA f_n f_ph f_sols f_fails f_lastKind f_lastVal f_lastLen f_lastAlloc f_curLen f_over f_used f_allocs f_nf f_nc f_sp f_rk f_rv (d + 1) (nI j) a_tk a_ta lB a_cur a_fVar a_fPar a_fK a_fV a_cPos a_cEnv a_sPos a_sEnv a_sSt a_sK a_sV := by
  intro d
  induction d with
  | zero =>
    intro j lB hj hl h
    have e : j = k := by omega
    subst e
    rw [wY_next_113]
    exact br_t (Int32.le_refl _) (h lB hl)
  | succ d ih =>
    intro j lB hj hl h
    have cc : (nI j).toNatClampNeg = j := nI_clamp (by omega)
    have v : vp_in (nI j) 6 := vp_in_nI (by omega) (by decide)
    rw [wY_next_113]
    refine br_f (nI_ge (by omega) (by omega)) (br_f (nI_ge (b := 6) (by omega) (by decide)) ⟨v, v, nm_r (e' := upd lB j (a_cur j)) (by rw [cc]) (nm_r (nI_1 j) (ih (j + 1) _ (by omega) (fun i hi => ?_) h))⟩)
    by_cases q : i = j
    · rw [q, am_up_s]
    · rw [am_up_n q]
      exact hl i (by omega)
end
theorem am_mx_u {L u : Nat} (h : L ≤ u) : am_mx L u = u := by unfold am_mx; omega
section
variable {f_maxChoices f_maxAlloc f_held f_stage f_solutions f_failures f_lastKind f_lastValue f_lastChoices f_lastChoiceCount f_lastAllocCount f_steering f_steeringLength f_pathLeft f_failed f_choicesMade f_allocsMade f_visiting f_position f_environment f_resultIsClosure f_resultValue f_depth : Int32} {a_kinds a_args a_ends a_locationVariable a_locationOuter a_locationIsClosure a_locationValue a_closureToken a_closureEnvironment a_frameToken a_frameEnvironment a_frameHasFirst a_frameFirstIsClosure a_frameFirstValue : Nat → Int32}
variable {mC mA n : Nat} {tk ta en : Nat → Int32} {ph sols fails lK lV lA : Int32} {lc : Nat} {lb b : Nat → Bool} {L i f : Nat}
/-- the component's round of its loop at a path that succeeds -/
theorem am_xpS {post : Int32 → SX → Prop} (hC : mC ≤ 6) (hA : mA ≤ 16) (hn : n ≤ 32) (hK : ∀ i, i < n → am_kd (tk i)) (hV : am_V mC mA n tk ta b L) (hen : ∀ i, i < n → en i = nI (am_eN tk n i)) (hi : i < 64) (hr : (am_run n tk ta mC mA b).1 = true)
    (h : ∀ u', am_RX mC mA n tk ta ph (sols + 1) fails (am_run n tk ta mC mA b).2.1 (am_lv (am_run n tk ta mC mA b).2.2.2 (am_run n tk ta mC mA b).2.1 (am_run n tk ta mC mA b).2.2.1) (nI (am_al (am_run n tk ta mC mA b).2.2.2)) (am_us (am_run n tk ta mC mA b).2.2.2) b (am_ov b (am_us (am_run n tk ta mC mA b).2.2.2)) (am_nb b (am_us (am_run n tk ta mC mA b).2.2.2)) (am_la b (am_us (am_run n tk ta mC mA b).2.2.2)) u' → post 1 u') :
    wX_next_11 post (f + 1) (nI i) (nI mC) (nI mA) (nI n) ph sols fails lK lV (nI (am_nm lb lc)) (nI lc) lA (nI (am_nm b L)) (nI L) 1 f_failed f_choicesMade f_allocsMade f_visiting f_position f_environment f_resultIsClosure f_resultValue f_depth tk ta en a_locationVariable a_locationOuter a_locationIsClosure a_locationValue a_closureToken a_closureEnvironment a_frameToken a_frameEnvironment a_frameHasFirst a_frameFirstIsClosure a_frameFirstValue := by
  have hG := am_run_G (tk := tk) (ta := ta) (mC := mC) b hA hn
  have emx := am_mx_u hV.2.2
  have hu := hG.1.1
  rw [wX_next_11]
  refine br_f (nI_ge (b := 64) hi (by decide)) (br_f (by decide) (am_xrun hn hA hC (Nat.le_trans hV.1 hC) hV.2.1 hK hen (fun _ => ?_) (fun z => absurd (z.symm.trans hr) (by decide))))
  intro po ev dp jV jO jC jW kT kE fT fE fH fC fW hs
  rw [emx]
  exact br_t rfl (br_f (by decide) (am_xkeep hG.1 hA (hG.2.2 hr) hs (am_xadv (by omega) (fun p1 p2 p3 hh => br_f (by decide) (h _ ⟨_, _, _, _, _, _, _, _, _, _, _, _, _, _, _, _, _, _, _, _, _, _, _, _, rfl, fun _ => ⟨hen, hh⟩⟩)))))
/-- .. and at one that fails -/
theorem am_xpF {post : Int32 → SX → Prop} (hC : mC ≤ 6) (hA : mA ≤ 16) (hn : n ≤ 32) (hK : ∀ i, i < n → am_kd (tk i)) (hV : am_V mC mA n tk ta b L) (hen : ∀ i, i < n → en i = nI (am_eN tk n i)) (hi : i < 64) (hr : (am_run n tk ta mC mA b).1 = false)
    (h : ∀ (f_steering f_steeringLength f_pathLeft f_failed f_choicesMade f_allocsMade f_visiting f_position f_environment f_resultIsClosure f_resultValue f_depth : Int32) (a_locationVariable a_locationOuter a_locationIsClosure a_locationValue a_closureToken a_closureEnvironment a_frameToken a_frameEnvironment a_frameHasFirst a_frameFirstIsClosure a_frameFirstValue : Nat → Int32), am_HX (am_ov b (am_us (am_run n tk ta mC mA b).2.2.2)) (am_nb b (am_us (am_run n tk ta mC mA b).2.2.2)) (am_la b (am_us (am_run n tk ta mC mA b).2.2.2)) f_pathLeft f_steering f_steeringLength → wX_next_11 post f (nI (i + 1)) (nI mC) (nI mA) (nI n) ph sols (fails + 1) lK lV (nI (am_nm lb lc)) (nI lc) lA f_steering f_steeringLength f_pathLeft f_failed f_choicesMade f_allocsMade f_visiting f_position f_environment f_resultIsClosure f_resultValue f_depth tk ta en a_locationVariable a_locationOuter a_locationIsClosure a_locationValue a_closureToken a_closureEnvironment a_frameToken a_frameEnvironment a_frameHasFirst a_frameFirstIsClosure a_frameFirstValue) :
    wX_next_11 post (f + 1) (nI i) (nI mC) (nI mA) (nI n) ph sols fails lK lV (nI (am_nm lb lc)) (nI lc) lA (nI (am_nm b L)) (nI L) 1 f_failed f_choicesMade f_allocsMade f_visiting f_position f_environment f_resultIsClosure f_resultValue f_depth tk ta en a_locationVariable a_locationOuter a_locationIsClosure a_locationValue a_closureToken a_closureEnvironment a_frameToken a_frameEnvironment a_frameHasFirst a_frameFirstIsClosure a_frameFirstValue := by
  have hG := am_run_G (tk := tk) (ta := ta) (mC := mC) b hA hn
  have emx := am_mx_u hV.2.2
  have hu := hG.1.1
  rw [wX_next_11]
  refine br_f (nI_ge (b := 64) hi (by decide)) (br_f (by decide) (am_xrun hn hA hC (Nat.le_trans hV.1 hC) hV.2.1 hK hen (fun z => absurd (z.symm.trans hr) (by decide)) (fun _ => ?_)))
  intro g1 g2 g3 g4 g5 g6 g7 jV jO jC jW kT kE fT fE fH fC fW
  rw [emx]
  exact br_f (by decide) (br_t rfl (nm_e (am_xadv (by omega) (fun p1 p2 p3 hh => br_t rfl (nm_r (nI_1 i) (h _ _ _ _ _ _ _ _ _ _ _ _ _ _ _ _ _ _ _ _ _ _ _ hh))))))
end
section
variable {f_maxC f_maxA f_n f_ph f_sols f_fails f_lastKind f_lastVal f_lastLen f_lastAlloc f_curLen f_over f_used f_allocs f_nf f_nc f_sp f_rk f_rv : Int32} {a_tk a_ta a_lastBits a_cur a_fVar a_fPar a_fK a_fV a_cPos a_cEnv a_sPos a_sEnv a_sSt a_sK a_sV : Nat → Int32}
variable {mC mA n : Nat} {tk ta : Nat → Int32} {ph sols fails lK lV lA : Int32} {lc : Nat} {lb b : Nat → Bool} {L i f : Nat}
theorem am_ypS {post : Int32 → SY → Prop} (hC : mC ≤ 6) (hA : mA ≤ 16) (hn : n ≤ 32) (hK : ∀ i, i < n → am_kd (tk i)) (hV : am_V mC mA n tk ta b L) (hcur : ∀ j, j < L → a_cur j = am_bI (b j)) (hi : i < 64) (hr : (am_run n tk ta mC mA b).1 = true)
    (h : ∀ v', am_RY mC mA n tk ta ph (sols + 1) fails (am_run n tk ta mC mA b).2.1 (am_lv (am_run n tk ta mC mA b).2.2.2 (am_run n tk ta mC mA b).2.1 (am_run n tk ta mC mA b).2.2.1) (nI (am_al (am_run n tk ta mC mA b).2.2.2)) (am_us (am_run n tk ta mC mA b).2.2.2) b (am_ov b (am_us (am_run n tk ta mC mA b).2.2.2)) (am_nb b (am_us (am_run n tk ta mC mA b).2.2.2)) (am_la b (am_us (am_run n tk ta mC mA b).2.2.2)) v' → post 1 v') :
    wY_next_21 post (f + 1) (nI i) (nI mC) (nI mA) (nI n) ph sols fails lK lV (nI lc) lA (nI L) 0 f_used f_allocs f_nf f_nc f_sp f_rk f_rv tk ta a_lastBits a_cur a_fVar a_fPar a_fK a_fV a_cPos a_cEnv a_sPos a_sEnv a_sSt a_sK a_sV := by
  have hG := am_run_G (tk := tk) (ta := ta) (mC := mC) b hA hn
  have emx := am_mx_u hV.2.2
  have hu := hG.1.1
  rw [wY_next_21]
  refine br_f (nI_ge (b := 200) (by omega) (by decide)) (br_t rfl (am_yrun hn hA hC (Nat.le_trans hV.1 hC) hV.2.1 hK hcur (fun _ => ?_) (fun z => absurd (z.symm.trans hr) (by decide))))
  intro g1 cur gVar gPar gK gV gPos gEnv hP hE hS hK hV hs hc
  rw [emx] at hc
  rw [emx]
  have h6 : am_us (am_run n tk ta mC mA b).2.2.2 ≤ 6 := by omega
  have H : ∀ lB' : Nat → Int32, (∀ j, j < am_us (am_run n tk ta mC mA b).2.2.2 → lB' j = cur j) → wY_next_146 post (wY_next_21 post f) (nI i) 1 (nI (am_us (am_run n tk ta mC mA b).2.2.2)) (nI mC) (nI mA) (nI n) ph sols fails ((am_run n tk ta mC mA b).2.1) (am_lv (am_run n tk ta mC mA b).2.2.2 (am_run n tk ta mC mA b).2.1 (am_run n tk ta mC mA b).2.2.1) (nI lc) lA (nI (am_us (am_run n tk ta mC mA b).2.2.2)) 0 (nI (am_us (am_run n tk ta mC mA b).2.2.2)) (nI (am_al (am_run n tk ta mC mA b).2.2.2)) (nI (am_nf (am_run n tk ta mC mA b).2.2.2)) (nI (am_nc (am_run n tk ta mC mA b).2.2.2)) g1 ((am_run n tk ta mC mA b).2.1) ((am_run n tk ta mC mA b).2.2.1) tk ta lB' cur gVar gPar gK gV gPos gEnv hP hE hS hK hV := by
    intro lB' hl
    exact am_yadv h6 hc (fun p1 p2 p3 hh => br_t rfl (nm_e (h _ ⟨_, _, _, _, _, _, _, _, _, _, _, _, _, _, _, _, _, _, _, _, _, _, rfl, fun j hj => (hl j hj).trans (hc j hj), fun _ => hh⟩)))
  refine br_t rfl ?_
  rcases hG.2.2 hr with y | ⟨y, c, hcc, z⟩
  · have el : am_lv (am_run n tk ta mC mA b).2.2.2 (am_run n tk ta mC mA b).2.1 (am_run n tk ta mC mA b).2.2.1 = (am_run n tk ta mC mA b).2.2.1 := by
      unfold am_lv
      rw [if_neg (by rw [y]; decide)]
    rw [el] at H
    exact br_f (by rw [y]; decide) ⟨_, am_y113 h6 _ 0 _ (Nat.zero_add _) (fun j hj => absurd hj (Nat.not_lt_zero j)) H⟩
  · have hcb := am_WF_c hG.1 hA hcc
    have hd : (nI c).toNatClampNeg = c := nI_clamp (by omega)
    have el : am_lv (am_run n tk ta mC mA b).2.2.2 (am_run n tk ta mC mA b).2.1 (am_run n tk ta mC mA b).2.2.1 = am_cPos (am_run n tk ta mC mA b).2.2.2 c := by
      unfold am_lv
      rw [if_pos y, z, hd]
    rw [el] at H
    have ev : gPos ((am_run n tk ta mC mA b).2.2.1).toNatClampNeg = am_cPos (am_run n tk ta mC mA b).2.2.2 c := by
      rw [z, hd]
      exact (hs.2 c hcc).1
    have v0 : ¬ (am_run n tk ta mC mA b).2.2.1 < 0 := by rw [z]; exact nI_pos (by omega)
    have v16 : ¬ 16 ≤ (am_run n tk ta mC mA b).2.2.1 := by rw [z]; exact nI_ge (b := 16) hcb (by decide)
    have vi : vp_in (am_run n tk ta mC mA b).2.2.1 16 := by rw [z]; exact vp_in_nI hcb (by decide)
    exact br_t y (br_f v0 (br_f v16 ⟨vi, nm_r ev ⟨_, am_y113 h6 _ 0 _ (Nat.zero_add _) (fun j hj => absurd hj (Nat.not_lt_zero j)) H⟩⟩))
theorem am_ypF {post : Int32 → SY → Prop} (hC : mC ≤ 6) (hA : mA ≤ 16) (hn : n ≤ 32) (hK : ∀ i, i < n → am_kd (tk i)) (hV : am_V mC mA n tk ta b L) (hcur : ∀ j, j < L → a_cur j = am_bI (b j)) (hi : i < 64) (hr : (am_run n tk ta mC mA b).1 = false)
    (h : ∀ (f_curLen f_over f_used f_allocs f_nf f_nc f_sp f_rk f_rv : Int32) (a_cur a_fVar a_fPar a_fK a_fV a_cPos a_cEnv a_sPos a_sEnv a_sSt a_sK a_sV : Nat → Int32), am_HY (am_ov b (am_us (am_run n tk ta mC mA b).2.2.2)) (am_nb b (am_us (am_run n tk ta mC mA b).2.2.2)) (am_la b (am_us (am_run n tk ta mC mA b).2.2.2)) f_over f_curLen a_cur → wY_next_21 post f (nI (i + 1)) (nI mC) (nI mA) (nI n) ph sols (fails + 1) lK lV (nI lc) lA f_curLen f_over f_used f_allocs f_nf f_nc f_sp f_rk f_rv tk ta a_lastBits a_cur a_fVar a_fPar a_fK a_fV a_cPos a_cEnv a_sPos a_sEnv a_sSt a_sK a_sV) :
    wY_next_21 post (f + 1) (nI i) (nI mC) (nI mA) (nI n) ph sols fails lK lV (nI lc) lA (nI L) 0 f_used f_allocs f_nf f_nc f_sp f_rk f_rv tk ta a_lastBits a_cur a_fVar a_fPar a_fK a_fV a_cPos a_cEnv a_sPos a_sEnv a_sSt a_sK a_sV := by
  have hG := am_run_G (tk := tk) (ta := ta) (mC := mC) b hA hn
  have emx := am_mx_u hV.2.2
  have hu := hG.1.1
  rw [wY_next_21]
  refine br_f (nI_ge (b := 200) (by omega) (by decide)) (br_t rfl (am_yrun hn hA hC (Nat.le_trans hV.1 hC) hV.2.1 hK hcur (fun z => absurd (z.symm.trans hr) (by decide)) (fun _ => ?_)))
  intro g1 g2 g3 g4 g5 g6 cur gVar gPar gK gV gPos gEnv hP hE hS hK hV hc
  rw [emx] at hc
  rw [emx]
  exact br_f (by decide) (am_yadv (by omega) hc (fun p1 p2 p3 hh => br_f (by decide) (nm_e (nm_r (nI_1 i) (h _ _ _ _ _ _ _ _ _ _ _ _ _ _ _ _ _ _ _ _ _ hh)))))
end
end
section
/-! the relation -/
def i_Rel (_ : Nat) (u : SX) (v : SY) : Prop :=
  ∃ (mC mA n : Nat) (tk ta : Nat → Int32) (ph sols fails lK lV lA : Int32) (lc : Nat) (lb : Nat → Bool) (ov : Bool) (b : Nat → Bool) (L : Nat), am_PD mC mA n tk ta ph lc ov b L ∧ am_RX mC mA n tk ta ph sols fails lK lV lA lc lb ov b L u ∧ am_RY mC mA n tk ta ph sols fails lK lV lA lc lb ov b L v
theorem am_V_ov {mC mA n : Nat} {tk ta : Nat → Int32} {b : Nat → Bool} (hA : mA ≤ 16) (hn : n ≤ 32) (h : am_ov b (am_us (am_run n tk ta mC mA b).2.2.2) = false) : am_V mC mA n tk ta (am_nb b (am_us (am_run n tk ta mC mA b).2.2.2)) (am_la b (am_us (am_run n tk ta mC mA b).2.2.2)) := by
  cases hl : am_la b (am_us (am_run n tk ta mC mA b).2.2.2) with
  | zero =>
    rw [am_ov_t hl] at h
    exact absurd h (by decide)
  | succ q =>
    rw [am_nb_q hl]
    exact am_V_nb hA hn hl
theorem am_V_grow {b : Nat → Bool} {k q : Nat} (hk : k ≤ 6) (h : am_la b k = q + 1) : am_nm b 6 < am_nm (am_sb b q) 6 := by
  obtain ⟨h1, h2⟩ := am_la_q _ h
  have g := am_nm_grow (b := b) (c := am_sb b q) (q := q) (fun i hi => (am_sb_lo hi).symm) h2 (am_sb_at b q) (5 - q)
  have e : q + 1 + (5 - q) = 6 := by omega
  rw [e] at g
  exact g
theorem am_next {mC mA n : Nat} {tk ta : Nat → Int32} (hC : mC ≤ 6) (hA : mA ≤ 16) (hn : n ≤ 32) (hK : ∀ i, i < n → am_kd (tk i)) : ∀ (d : Nat) (b : Nat → Bool) (L i : Nat) (ph sols fails lK lV lA : Int32) (lc : Nat) (lb : Nat → Bool), am_V mC mA n tk ta b L → 64 ≤ am_nm b 6 + d → i ≤ am_nm b 6 → ¬ ph = 0 → ¬ ph = 2 → lc ≤ 6 →
    ∃ (r ph' sols' fails' lK' lV' lA' : Int32) (lc' : Nat) (lb' : Nat → Bool) (ov' : Bool) (b' : Nat → Bool) (L' : Nat), am_PD mC mA n tk ta ph' lc' ov' b' L' ∧
    (∀ (post : Int32 → SX → Prop) (f : Nat) (f_failed f_choicesMade f_allocsMade f_visiting f_position f_environment f_resultIsClosure f_resultValue f_depth : Int32) (en a_locationVariable a_locationOuter a_locationIsClosure a_locationValue a_closureToken a_closureEnvironment a_frameToken a_frameEnvironment a_frameHasFirst a_frameFirstIsClosure a_frameFirstValue : Nat → Int32), 65 ≤ f + i → (∀ u', am_RX mC mA n tk ta ph' sols' fails' lK' lV' lA' lc' lb' ov' b' L' u' → post r u') → (∀ i, i < n → en i = nI (am_eN tk n i)) → wX_next_11 post f (nI i) (nI mC) (nI mA) (nI n) ph sols fails lK lV (nI (am_nm lb lc)) (nI lc) lA (nI (am_nm b L)) (nI L) 1 f_failed f_choicesMade f_allocsMade f_visiting f_position f_environment f_resultIsClosure f_resultValue f_depth tk ta en a_locationVariable a_locationOuter a_locationIsClosure a_locationValue a_closureToken a_closureEnvironment a_frameToken a_frameEnvironment a_frameHasFirst a_frameFirstIsClosure a_frameFirstValue) ∧
    (∀ (post : Int32 → SY → Prop) (f : Nat) (f_used f_allocs f_nf f_nc f_sp f_rk f_rv : Int32) (a_lastBits a_cur a_fVar a_fPar a_fK a_fV a_cPos a_cEnv a_sPos a_sEnv a_sSt a_sK a_sV : Nat → Int32), 201 ≤ f + i → (∀ v', am_RY mC mA n tk ta ph' sols' fails' lK' lV' lA' lc' lb' ov' b' L' v' → post r v') → (∀ j, j < lc → a_lastBits j = am_bI (lb j)) → (∀ j, j < L → a_cur j = am_bI (b j)) → wY_next_21 post f (nI i) (nI mC) (nI mA) (nI n) ph sols fails lK lV (nI lc) lA (nI L) 0 f_used f_allocs f_nf f_nc f_sp f_rk f_rv tk ta a_lastBits a_cur a_fVar a_fPar a_fK a_fV a_cPos a_cEnv a_sPos a_sEnv a_sSt a_sK a_sV) := by
  intro d
  induction d with
  | zero =>
    intro b L i ph sols fails lK lV lA lc lb hV hd
    have := am_nm_le (b := b) (Nat.le_refl 6)
    omega
  | succ d ih =>
    intro b L i ph sols fails lK lV lA lc lb hV hd hi p0 p2 hlc
    have h64 := am_nm_le (b := b) (Nat.le_refl 6)
    have hi64 : i < 64 := by omega
    have hG := am_run_G (tk := tk) (ta := ta) (mC := mC) b hA hn
    have hu : am_us (am_run n tk ta mC mA b).2.2.2 ≤ 6 := Nat.le_trans hG.1.1 hC
    cases hr : (am_run n tk ta mC mA b).1 with
    | true =>
      refine ⟨1, ph, sols + 1, fails, (am_run n tk ta mC mA b).2.1, am_lv (am_run n tk ta mC mA b).2.2.2 (am_run n tk ta mC mA b).2.1 (am_run n tk ta mC mA b).2.2.1, nI (am_al (am_run n tk ta mC mA b).2.2.2), am_us (am_run n tk ta mC mA b).2.2.2, b, am_ov b (am_us (am_run n tk ta mC mA b).2.2.2), am_nb b (am_us (am_run n tk ta mC mA b).2.2.2), am_la b (am_us (am_run n tk ta mC mA b).2.2.2), ⟨hC, hA, hn, hK, hu, fun z => absurd z p2, fun _ z => am_V_ov hA hn z⟩, ?_, ?_⟩
      · intro post f f_failed f_choicesMade f_allocsMade f_visiting f_position f_environment f_resultIsClosure f_resultValue f_depth en a_locationVariable a_locationOuter a_locationIsClosure a_locationValue a_closureToken a_closureEnvironment a_frameToken a_frameEnvironment a_frameHasFirst a_frameFirstIsClosure a_frameFirstValue hf h hen
        obtain ⟨f, rfl⟩ : ∃ f', f = f' + 1 := ⟨f - 1, by omega⟩
        exact am_xpS hC hA hn hK hV hen hi64 hr h
      · intro post f f_used f_allocs f_nf f_nc f_sp f_rk f_rv a_lastBits a_cur a_fVar a_fPar a_fK a_fV a_cPos a_cEnv a_sPos a_sEnv a_sSt a_sK a_sV hf h hl hc
        obtain ⟨f, rfl⟩ : ∃ f', f = f' + 1 := ⟨f - 1, by omega⟩
        exact am_ypS hC hA hn hK hV hc hi64 hr h
    | false =>
      cases hq : am_la b (am_us (am_run n tk ta mC mA b).2.2.2) with
      | zero =>
        refine ⟨0, 2, sols, fails + 1, lK, lV, lA, lc, lb, true, b, L, ⟨hC, hA, hn, hK, hlc, fun _ => rfl, fun _ z => absurd z (by decide)⟩, ?_, ?_⟩
        · intro post f f_failed f_choicesMade f_allocsMade f_visiting f_position f_environment f_resultIsClosure f_resultValue f_depth en a_locationVariable a_locationOuter a_locationIsClosure a_locationValue a_closureToken a_closureEnvironment a_frameToken a_frameEnvironment a_frameHasFirst a_frameFirstIsClosure a_frameFirstValue hf h hen
          obtain ⟨f, rfl⟩ : ∃ f', f = f' + 1 + 1 := ⟨f - 2, by omega⟩
          refine am_xpF hC hA hn hK hV hen hi64 hr ?_
          intro f_steering f_steeringLength f_pathLeft f_failed f_choicesMade f_allocsMade f_visiting f_position f_environment f_resultIsClosure f_resultValue f_depth a_locationVariable a_locationOuter a_locationIsClosure a_locationValue a_closureToken a_closureEnvironment a_frameToken a_frameEnvironment a_frameHasFirst a_frameFirstIsClosure a_frameFirstValue hh
          have e : f_pathLeft = am_pl true := by rw [hh.1, am_ov_t hq]
          have g := h (nI mC, nI mA, nI n, 2, sols, fails + 1, lK, lV, nI (am_nm lb lc), nI lc, lA, f_steering, f_steeringLength, f_pathLeft, f_failed, f_choicesMade, f_allocsMade, f_visiting, f_position, f_environment, f_resultIsClosure, f_resultValue, f_depth, tk, ta, en, a_locationVariable, a_locationOuter, a_locationIsClosure, a_locationValue, a_closureToken, a_closureEnvironment, a_frameToken, a_frameEnvironment, a_frameHasFirst, a_frameFirstIsClosure, a_frameFirstValue) ⟨f_steering, f_steeringLength, f_pathLeft, f_failed, f_choicesMade, f_allocsMade, f_visiting, f_position, f_environment, f_resultIsClosure, f_resultValue, f_depth, en, a_locationVariable, a_locationOuter, a_locationIsClosure, a_locationValue, a_closureToken, a_closureEnvironment, a_frameToken, a_frameEnvironment, a_frameHasFirst, a_frameFirstIsClosure, a_frameFirstValue, rfl, fun _ => ⟨hen, e, fun z => absurd z (by decide)⟩⟩
          rw [wX_next_11]
          exact br_c (fun _ => g) (fun _ => br_t e g)
        · intro post f f_used f_allocs f_nf f_nc f_sp f_rk f_rv a_lastBits a_cur a_fVar a_fPar a_fK a_fV a_cPos a_cEnv a_sPos a_sEnv a_sSt a_sK a_sV hf h hl hc
          obtain ⟨f, rfl⟩ : ∃ f', f = f' + 1 + 1 := ⟨f - 2, by omega⟩
          refine am_ypF hC hA hn hK hV hc hi64 hr ?_
          intro f_curLen f_over f_used f_allocs f_nf f_nc f_sp f_rk f_rv a_cur a_fVar a_fPar a_fK a_fV a_cPos a_cEnv a_sPos a_sEnv a_sSt a_sK a_sV hh
          have e : f_over = am_oI true := by rw [hh.1, am_ov_t hq]
          have e0 : ¬ f_over = 0 := by rw [e]; decide
          have g := h (nI mC, nI mA, nI n, 2, sols, fails + 1, lK, lV, nI lc, lA, f_curLen, f_over, f_used, f_allocs, f_nf, f_nc, f_sp, f_rk, f_rv, tk, ta, a_lastBits, a_cur, a_fVar, a_fPar, a_fK, a_fV, a_cPos, a_cEnv, a_sPos, a_sEnv, a_sSt, a_sK, a_sV) ⟨f_curLen, f_over, f_used, f_allocs, f_nf, f_nc, f_sp, f_rk, f_rv, a_lastBits, a_cur, a_fVar, a_fPar, a_fK, a_fV, a_cPos, a_cEnv, a_sPos, a_sEnv, a_sSt, a_sK, a_sV, rfl, hl, fun _ => ⟨e, fun z => absurd z (by decide)⟩⟩
          rw [wY_next_21]
          exact br_f (nI_ge (b := 200) (by omega) (by decide)) (br_f e0 g)
      | succ q =>
        have hg := am_V_grow hu hq
        obtain ⟨r, ph', sols', fails', lK', lV', lA', lc', lb', ov', b', L', hP, hX, hY⟩ := ih (am_sb b q) (q + 1) (i + 1) ph sols (fails + 1) lK lV lA lc lb (am_V_nb hA hn hq) (by omega) (by omega) p0 p2 hlc
        refine ⟨r, ph', sols', fails', lK', lV', lA', lc', lb', ov', b', L', hP, ?_, ?_⟩
        · intro post f f_failed f_choicesMade f_allocsMade f_visiting f_position f_environment f_resultIsClosure f_resultValue f_depth en a_locationVariable a_locationOuter a_locationIsClosure a_locationValue a_closureToken a_closureEnvironment a_frameToken a_frameEnvironment a_frameHasFirst a_frameFirstIsClosure a_frameFirstValue hf h hen
          obtain ⟨f, rfl⟩ : ∃ f', f = f' + 1 := ⟨f - 1, by omega⟩
          refine am_xpF hC hA hn hK hV hen hi64 hr ?_
          intro f_steering f_steeringLength f_pathLeft f_failed f_choicesMade f_allocsMade f_visiting f_position f_environment f_resultIsClosure f_resultValue f_depth a_locationVariable a_locationOuter a_locationIsClosure a_locationValue a_closureToken a_closureEnvironment a_frameToken a_frameEnvironment a_frameHasFirst a_frameFirstIsClosure a_frameFirstValue hh
          obtain ⟨e1, e2⟩ := hh
          obtain ⟨e3, e4⟩ := e2 (am_ov_f hq)
          rw [am_ov_f hq] at e1
          rw [am_nb_q hq, hq] at e3
          rw [hq] at e4
          subst e1
          subst e3
          subst e4
          exact hX post f _ _ _ _ _ _ _ _ _ _ _ _ _ _ _ _ _ _ _ _ _ (by omega) h hen
        · intro post f f_used f_allocs f_nf f_nc f_sp f_rk f_rv a_lastBits a_cur a_fVar a_fPar a_fK a_fV a_cPos a_cEnv a_sPos a_sEnv a_sSt a_sK a_sV hf h hl hc
          obtain ⟨f, rfl⟩ : ∃ f', f = f' + 1 := ⟨f - 1, by omega⟩
          refine am_ypF hC hA hn hK hV hc hi64 hr ?_
          intro f_curLen f_over f_used f_allocs f_nf f_nc f_sp f_rk f_rv a_cur a_fVar a_fPar a_fK a_fV a_cPos a_cEnv a_sPos a_sEnv a_sSt a_sK a_sV hh
          obtain ⟨e1, e2⟩ := hh
          obtain ⟨e3, e4⟩ := e2 (am_ov_f hq)
          rw [am_ov_f hq] at e1
          rw [hq] at e3
          rw [am_nb_q hq, hq] at e4
          subst e1
          subst e3
          exact hY post f _ _ _ _ _ _ _ _ _ _ _ _ _ _ _ _ _ _ _ _ (by omega) h hl e4
theorem i_up {k : Nat} {u : SX} {v : SY} (h : i_Rel k u v) : i_Rel (k + 3) u v := h
theorem i_vc_next {k : Nat} {u : SX} {v : SY} (I : i_Rel k u v) (hk : k + 3 ≤ 1538) : wpX_next (fun r u' => wpY_next (fun r' v' => r' = r ∧ i_Rel (k + 3) u' v') v) u := by
  have I0 := I
  obtain ⟨mC, mA, n, tk, ta, ph, sols, fails, lK, lV, lA, lc, lb, ov, b, L, hP, hX, hY⟩ := I
  obtain ⟨hC, hA, hn, hK, hlc, h2, hVV⟩ := hP
  obtain ⟨f_steering, f_steeringLength, f_pathLeft, f_failed, f_choicesMade, f_allocsMade, f_visiting, f_position, f_environment, f_resultIsClosure, f_resultValue, f_depth, a_ends, a_locationVariable, a_locationOuter, a_locationIsClosure, a_locationValue, a_closureToken, a_closureEnvironment, a_frameToken, a_frameEnvironment, a_frameHasFirst, a_frameFirstIsClosure, a_frameFirstValue, rfl, hx⟩ := hX
  obtain ⟨f_curLen, f_over, f_used, f_allocs, f_nf, f_nc, f_sp, f_rk, f_rv, a_lastBits, a_cur, a_fVar, a_fPar, a_fK, a_fV, a_cPos, a_cEnv, a_sPos, a_sEnv, a_sSt, a_sK, a_sV, rfl, hl, hy⟩ := hY
  by_cases p0 : ph = 0
  · exact br_t p0 (br_t p0 ⟨rfl, I0⟩)
  · obtain ⟨hen, x1, x2⟩ := hx p0
    obtain ⟨y1, y2⟩ := hy p0
    cases ov with
    | true =>
      have R : ∀ (u' : SX) (v' : SY), am_RX mC mA n tk ta 2 sols fails lK lV lA lc lb true b L u' → am_RY mC mA n tk ta 2 sols fails lK lV lA lc lb true b L v' → i_Rel (k + 3) u' v' := fun u' v' a c => ⟨mC, mA, n, tk, ta, 2, sols, fails, lK, lV, lA, lc, lb, true, b, L, ⟨hC, hA, hn, hK, hlc, fun _ => rfl, fun _ z => absurd z (by decide)⟩, a, c⟩
      have y0 : ¬ f_over = 0 := by rw [y1]; decide
      refine br_f p0 ⟨1, ?_⟩
      rw [wX_next_11]
      refine br_f (by decide) (br_t x1 ?_)
      refine br_f p0 (br_c (fun z => by subst z; exact ⟨rfl, R _ _ ⟨_, _, _, _, _, _, _, _, _, _, _, _, _, _, _, _, _, _, _, _, _, _, _, _, rfl, fun _ => ⟨hen, x1, x2⟩⟩ ⟨_, _, _, _, _, _, _, _, _, _, _, _, _, _, _, _, _, _, _, _, _, _, rfl, hl, fun _ => ⟨y1, y2⟩⟩⟩) (fun _ => ⟨1, ?_⟩))
      rw [wY_next_21]
      exact br_f (by decide) (br_f y0 ⟨rfl, R _ _ ⟨_, _, _, _, _, _, _, _, _, _, _, _, _, _, _, _, _, _, _, _, _, _, _, _, rfl, fun _ => ⟨hen, x1, x2⟩⟩ ⟨_, _, _, _, _, _, _, _, _, _, _, _, _, _, _, _, _, _, _, _, _, _, rfl, hl, fun _ => ⟨y1, y2⟩⟩⟩)
    | false =>
      have p2 : ¬ ph = 2 := fun z => absurd (h2 z) (by decide)
      obtain ⟨x3, x4⟩ := x2 rfl
      obtain ⟨y3, y4⟩ := y2 rfl
      subst x1
      subst x3
      subst x4
      subst y1
      subst y3
      obtain ⟨r, ph', sols', fails', lK', lV', lA', lc', lb', ov', b', L', hP, HX, HY⟩ := am_next hC hA hn hK 64 b L 0 ph sols fails lK lV lA lc lb (hVV p0 rfl) (by omega) (Nat.zero_le _) p0 p2 hlc
      refine br_f p0 ⟨65, HX _ 65 _ _ _ _ _ _ _ _ _ _ _ _ _ _ _ _ _ _ _ _ _ (by omega) (fun u' hu' => ?_) hen⟩
      exact br_f p0 (br_f p2 ⟨201, HY _ 201 _ _ _ _ _ _ _ _ _ _ _ _ _ _ _ _ _ _ _ _ (by omega) (fun v' hv' => ⟨rfl, mC, mA, n, tk, ta, ph', sols', fails', lK', lV', lA', lc', lb', ov', b', L', hP, hu', hv'⟩) hl y4⟩)
end
section
/-! compile: the shape, the ends, the scopes -/
def am_sh (tk : Nat → Int32) : Nat → Nat → Nat → Nat
  | 0, 0, _ => 0
  | 0, _ + 1, _ => 3
  | _ + 1, 0, _ => 2
  | d + 1, q + 1, i => am_sh tk d (q + am_ar (tk i)) (i + 1)
theorem am_sh_v (tk : Nat → Int32) : ∀ d q i : Nat, am_sh tk d q i = 0 ∨ am_sh tk d q i = 2 ∨ am_sh tk d q i = 3 := by
  intro d
  induction d with
  | zero =>
    intro q i
    cases q with
    | zero => exact Or.inl rfl
    | succ q => exact Or.inr (Or.inr rfl)
  | succ d ih =>
    intro q i
    cases q with
    | zero => exact Or.inr (Or.inl rfl)
    | succ q => exact ih (q + am_ar (tk i)) (i + 1)
/-- is one of f p, f (p + 1), .. (d of them) true -/
def am_an (f : Nat → Bool) : Nat → Nat → Bool
  | 0, _ => false
  | d + 1, p => match f p with
    | true => true
    | false => am_an f d (p + 1)
theorem am_an_t {f : Nat → Bool} {d p : Nat} (h : f p = true) : am_an f (d + 1) p = true := by
  show (match f p with
    | true => true
    | false => am_an f d (p + 1)) = true
  rw [h]
theorem am_an_f {f : Nat → Bool} {d p : Nat} (h : f p = false) : am_an f (d + 1) p = am_an f d (p + 1) := by
  show (match f p with
    | true => true
    | false => am_an f d (p + 1)) = am_an f d (p + 1)
  rw [h]
/-- does the token at p bind v at i -/
def am_bq (tk ta : Nat → Int32) (n i : Nat) (v : Int32) (p : Nat) : Bool := if tk p = 11 ∧ ta p = v then decide (am_eN tk n (p + 1) ≤ i ∧ i < am_eN tk n p) else if tk p = 12 ∧ ta p = v then decide (i < am_eN tk n p) else false
theorem am_bq_11 {tk ta : Nat → Int32} {n i p : Nat} {v : Int32} (h1 : tk p = 11) (h2 : ta p = v) : am_bq tk ta n i v p = decide (am_eN tk n (p + 1) ≤ i ∧ i < am_eN tk n p) := if_pos ⟨h1, h2⟩
theorem am_bq_12 {tk ta : Nat → Int32} {n i p : Nat} {v : Int32} (h1 : tk p = 12) (h2 : ta p = v) : am_bq tk ta n i v p = decide (i < am_eN tk n p) := by
  unfold am_bq
  rw [if_neg (fun z => absurd (h1.symm.trans z.1) (by decide)), if_pos ⟨h1, h2⟩]
theorem am_bq_v {tk ta : Nat → Int32} {n i p : Nat} {v : Int32} (h2 : ¬ ta p = v) : am_bq tk ta n i v p = false := by
  unfold am_bq
  rw [if_neg (fun z => h2 z.2), if_neg (fun z => h2 z.2)]
theorem am_bq_k {tk ta : Nat → Int32} {n i p : Nat} {v : Int32} (h1 : ¬ tk p = 11) (h2 : ¬ tk p = 12) : am_bq tk ta n i v p = false := by
  unfold am_bq
  rw [if_neg (fun z => h1 z.1), if_neg (fun z => h2 z.1)]
def am_ab (tk ta : Nat → Int32) (n : Nat) : Nat → Nat → Bool
  | 0, _ => true
  | d + 1, i => if (tk i = 1 ∨ tk i = 14) ∧ am_an (am_bq tk ta n i (ta i)) i 0 = false then false else am_ab tk ta n d (i + 1)
theorem am_ab_s (tk ta : Nat → Int32) (n d i : Nat) : am_ab tk ta n (d + 1) i = if (tk i = 1 ∨ tk i = 14) ∧ am_an (am_bq tk ta n i (ta i)) i 0 = false then false else am_ab tk ta n d (i + 1) := rfl
theorem am_xar {post : Int32 → Prop} {k k' : Int32} (ek : k' = k) (hk : am_kd k) (h : post (nI (am_ar k))) : wpX_arity post k' := by
  subst ek
  rcases hk with q | q | q | q | q | q | q | q | q | q | q | q | q | q | q | q
  · subst q
    rw [show am_ar 0 = 0 by decide] at h
    exact br_f (by decide) (br_f (by decide) (br_t rfl h))
  · subst q
    rw [show am_ar 1 = 0 by decide] at h
    exact br_f (by decide) (br_f (by decide) (br_f (by decide) (br_t rfl h)))
  · subst q
    rw [show am_ar 2 = 2 by decide] at h
    exact br_f (by decide) (br_f (by decide) (br_f (by decide) (br_f (by decide) (br_t rfl h))))
  · subst q
    rw [show am_ar 3 = 2 by decide] at h
    exact br_f (by decide) (br_f (by decide) (br_f (by decide) (br_f (by decide) (br_f (by decide) (br_t rfl h)))))
  · subst q
    rw [show am_ar 4 = 2 by decide] at h
    exact br_f (by decide) (br_f (by decide) (br_f (by decide) (br_f (by decide) (br_f (by decide) (br_f (by decide) (br_t rfl h))))))
  · subst q
    rw [show am_ar 5 = 2 by decide] at h
    exact br_f (by decide) (br_f (by decide) (br_f (by decide) (br_f (by decide) (br_f (by decide) (br_f (by decide) (br_f (by decide) (br_t rfl h)))))))
  · subst q
    rw [show am_ar 6 = 2 by decide] at h
    exact br_f (by decide) (br_f (by decide) (br_f (by decide) (br_f (by decide) (br_f (by decide) (br_f (by decide) (br_f (by decide) (br_f (by decide) (br_t rfl h))))))))
  · subst q
    rw [show am_ar 7 = 3 by decide] at h
    exact br_f (by decide) (br_f (by decide) (br_f (by decide) (br_f (by decide) (br_f (by decide) (br_f (by decide) (br_f (by decide) (br_f (by decide) (br_f (by decide) (br_t rfl h)))))))))
  · subst q
    rw [show am_ar 8 = 2 by decide] at h
    exact br_f (by decide) (br_f (by decide) (br_f (by decide) (br_f (by decide) (br_f (by decide) (br_f (by decide) (br_f (by decide) (br_f (by decide) (br_f (by decide) (br_f (by decide) (br_t rfl h))))))))))
  · subst q
    rw [show am_ar 9 = 0 by decide] at h
    exact br_f (by decide) (br_f (by decide) (br_f (by decide) (br_f (by decide) (br_f (by decide) (br_f (by decide) (br_f (by decide) (br_f (by decide) (br_f (by decide) (br_f (by decide) (br_f (by decide) (br_t rfl h)))))))))))
  · subst q
    rw [show am_ar 10 = 2 by decide] at h
    exact br_f (by decide) (br_f (by decide) (br_f (by decide) (br_f (by decide) (br_f (by decide) (br_f (by decide) (br_f (by decide) (br_f (by decide) (br_f (by decide) (br_f (by decide) (br_f (by decide) (br_f (by decide) (br_t rfl h))))))))))))
  · subst q
    rw [show am_ar 11 = 2 by decide] at h
    exact br_f (by decide) (br_f (by decide) (br_f (by decide) (br_f (by decide) (br_f (by decide) (br_f (by decide) (br_f (by decide) (br_f (by decide) (br_f (by decide) (br_f (by decide) (br_f (by decide) (br_f (by decide) (br_f (by decide) (br_t rfl h)))))))))))))
  · subst q
    rw [show am_ar 12 = 1 by decide] at h
    exact br_f (by decide) (br_f (by decide) (br_f (by decide) (br_f (by decide) (br_f (by decide) (br_f (by decide) (br_f (by decide) (br_f (by decide) (br_f (by decide) (br_f (by decide) (br_f (by decide) (br_f (by decide) (br_f (by decide) (br_f (by decide) (br_t rfl h))))))))))))))
  · subst q
    rw [show am_ar 13 = 2 by decide] at h
    exact br_f (by decide) (br_f (by decide) (br_f (by decide) (br_f (by decide) (br_f (by decide) (br_f (by decide) (br_f (by decide) (br_f (by decide) (br_f (by decide) (br_f (by decide) (br_f (by decide) (br_f (by decide) (br_f (by decide) (br_f (by decide) (br_f (by decide) (br_t rfl h)))))))))))))))
  · subst q
    rw [show am_ar 14 = 1 by decide] at h
    exact br_f (by decide) (br_f (by decide) (br_f (by decide) (br_f (by decide) (br_f (by decide) (br_f (by decide) (br_f (by decide) (br_f (by decide) (br_f (by decide) (br_f (by decide) (br_f (by decide) (br_f (by decide) (br_f (by decide) (br_f (by decide) (br_f (by decide) (br_f (by decide) (br_t rfl h))))))))))))))))
  · subst q
    rw [show am_ar 15 = 2 by decide] at h
    exact br_f (by decide) (br_t (by decide) h)
section
variable {f_maxChoices f_maxAlloc f_held f_stage f_solutions f_failures f_lastKind f_lastValue f_lastChoices f_lastChoiceCount f_lastAllocCount f_steering f_steeringLength f_pathLeft f_failed f_choicesMade f_allocsMade f_visiting f_position f_environment f_resultIsClosure f_resultValue f_depth : Int32} {a_kinds a_args a_ends a_locationVariable a_locationOuter a_locationIsClosure a_locationValue a_closureToken a_closureEnvironment a_frameToken a_frameEnvironment a_frameHasFirst a_frameFirstIsClosure a_frameFirstValue : Nat → Int32}
variable {n : Nat} {tk ta en : Nat → Int32}
theorem am_xsh {post : Int32 → Prop} (hn : n ≤ 32) (hK : ∀ i, i < n → am_kd (tk i)) : ∀ d q i : Nat, i + d = n → q + 3 * d < 1000 → post (nI (am_sh tk d q i)) → wX_checkShape_13 post f_maxChoices f_maxAlloc (nI n) f_stage f_solutions f_failures f_lastKind f_lastValue f_lastChoices f_lastChoiceCount f_lastAllocCount f_steering f_steeringLength f_pathLeft f_failed f_choicesMade f_allocsMade f_visiting f_position f_environment f_resultIsClosure f_resultValue f_depth tk a_args a_ends a_locationVariable a_locationOuter a_locationIsClosure a_locationValue a_closureToken a_closureEnvironment a_frameToken a_frameEnvironment a_frameHasFirst a_frameFirstIsClosure a_frameFirstValue (d + 1) (nI q) (nI i) := by
  intro d
  induction d with
  | zero =>
    intro q i hi hq h
    rw [wX_checkShape_13]
    refine br_t (nI_le (by omega) (by omega)) ?_
    cases q with
    | zero => exact br_t (Int32.le_refl _) h
    | succ q => exact br_f (nI_nle (by omega) (by omega)) h
  | succ d ih =>
    intro q i hi hq h
    rw [wX_checkShape_13]
    refine br_f (nI_ge (by omega) (by omega)) ?_
    cases q with
    | zero => exact br_t rfl h
    | succ q =>
      have ha := am_ar_le (tk i)
      have hc : (nI i).toNatClampNeg = i := nI_clamp (by omega)
      have e1 : nI (q + 1) - 1 + nI (am_ar (tk i)) = nI (q + am_ar (tk i)) := by rw [nI_pred, nI_add]
      exact br_f (nI_ne0 (by omega) (by omega)) ⟨vp_in_nI (by omega) (by decide), am_xar (by rw [hc]) (hK i (by omega)) (nm_r e1 (nm_r (nI_1 i) (ih (q + am_ar (tk i)) (i + 1) (by omega) (by omega) h)))⟩
theorem am_xend1 {post : Int32 → Prop} {p : Nat} {x : Int32} (hn : n ≤ 32) (hp : p ≤ n) (hen : p < n → en p = nI (am_eN tk n p)) (ex : x = nI p) (h : post (nI (am_eN tk n p))) : wpX_endOf post (f_maxChoices, f_maxAlloc, nI n, f_stage, f_solutions, f_failures, f_lastKind, f_lastValue, f_lastChoices, f_lastChoiceCount, f_lastAllocCount, f_steering, f_steeringLength, f_pathLeft, f_failed, f_choicesMade, f_allocsMade, f_visiting, f_position, f_environment, f_resultIsClosure, f_resultValue, f_depth, a_kinds, a_args, en, a_locationVariable, a_locationOuter, a_locationIsClosure, a_locationValue, a_closureToken, a_closureEnvironment, a_frameToken, a_frameEnvironment, a_frameHasFirst, a_frameFirstIsClosure, a_frameFirstValue) x := by
  rw [ex]
  have hc : (nI p).toNatClampNeg = p := nI_clamp (by omega)
  by_cases q : p < n
  · exact br_f (nI_pos (by omega)) (br_f (nI_ge q (by omega)) ⟨vp_in_nI (by omega) (by decide), by rw [hc, hen q]; exact h⟩)
  · have e : p = n := by omega
    rw [e, am_eN_n] at h
    exact br_f (nI_pos (by omega)) (br_t (nI_le (by omega) (by omega)) h)
theorem am_xfe28 {post : SX → Prop} {J : Int32 → (Nat → Int32) → (Nat → Int32) → (Nat → Int32) → (Nat → Int32) → (Nat → Int32) → (Nat → Int32) → (Nat → Int32) → (Nat → Int32) → (Nat → Int32) → (Nat → Int32) → (Nat → Int32) → (Nat → Int32) → (Nat → Int32) → (Nat → Int32) → Prop} {i A : Nat} (hn : n ≤ 32) (hi : i < n) (hA : A ≤ 3) (hen : ∀ j, i < j → j < n → en j = nI (am_eN tk n j)) : ∀ d q e : Nat, q + d = A → i < e → e ≤ n → J (am_pI i) a_kinds a_args (upd en i (nI (am_it tk n d e))) a_locationVariable a_locationOuter a_locationIsClosure a_locationValue a_closureToken a_closureEnvironment a_frameToken a_frameEnvironment a_frameHasFirst a_frameFirstIsClosure a_frameFirstValue → wX_findEnds_28 post J (nI i) (nI A) f_maxChoices f_maxAlloc (nI n) f_stage f_solutions f_failures f_lastKind f_lastValue f_lastChoices f_lastChoiceCount f_lastAllocCount f_steering f_steeringLength f_pathLeft f_failed f_choicesMade f_allocsMade f_visiting f_position f_environment f_resultIsClosure f_resultValue f_depth a_kinds a_args en a_locationVariable a_locationOuter a_locationIsClosure a_locationValue a_closureToken a_closureEnvironment a_frameToken a_frameEnvironment a_frameHasFirst a_frameFirstIsClosure a_frameFirstValue (d + 1) (nI e) (nI q) := by
  intro d
  induction d with
  | zero =>
    intro q e hq he hen2 h
    have hc : (nI i).toNatClampNeg = i := nI_clamp (by omega)
    rw [wX_findEnds_28]
    exact br_t (nI_le (by omega) (by omega)) ⟨vp_in_nI (by omega) (by decide), nm_r (by rw [hc]; rfl) (nm_r (am_pI_m i) h)⟩
  | succ d ih =>
    intro q e hq he hen2 h
    rw [wX_findEnds_28]
    exact br_f (nI_ge (by omega) (by omega)) (am_xend1 hn hen2 (fun z => hen e he z) rfl (nm_r (nI_1 q) (ih (q + 1) (am_eN tk n e) (by omega) (Nat.lt_of_lt_of_le he (am_eN_ge tk n e)) (am_eN_le hen2) h)))
theorem am_xfe {post : SX → Prop} (hn : n ≤ 32) (hK : ∀ i, i < n → am_kd (tk i)) : ∀ (i : Nat) (en : Nat → Int32), i ≤ n → (∀ j, i ≤ j → j < n → en j = nI (am_eN tk n j)) → (∀ en' : Nat → Int32, (∀ j, j < n → en' j = nI (am_eN tk n j)) → post (f_maxChoices, f_maxAlloc, nI n, f_stage, f_solutions, f_failures, f_lastKind, f_lastValue, f_lastChoices, f_lastChoiceCount, f_lastAllocCount, f_steering, f_steeringLength, f_pathLeft, f_failed, f_choicesMade, f_allocsMade, f_visiting, f_position, f_environment, f_resultIsClosure, f_resultValue, f_depth, tk, a_args, en', a_locationVariable, a_locationOuter, a_locationIsClosure, a_locationValue, a_closureToken, a_closureEnvironment, a_frameToken, a_frameEnvironment, a_frameHasFirst, a_frameFirstIsClosure, a_frameFirstValue)) → wX_findEnds_7 post f_maxChoices f_maxAlloc (nI n) f_stage f_solutions f_failures f_lastKind f_lastValue f_lastChoices f_lastChoiceCount f_lastAllocCount f_steering f_steeringLength f_pathLeft f_failed f_choicesMade f_allocsMade f_visiting f_position f_environment f_resultIsClosure f_resultValue f_depth (i + 1) (am_pI i) tk a_args en a_locationVariable a_locationOuter a_locationIsClosure a_locationValue a_closureToken a_closureEnvironment a_frameToken a_frameEnvironment a_frameHasFirst a_frameFirstIsClosure a_frameFirstValue := by
  intro i
  induction i with
  | zero =>
    intro en _ hen h
    rw [wX_findEnds_7]
    exact br_t (by decide) (h en (fun j hj => hen j (Nat.zero_le j) hj))
  | succ i ih =>
    intro en hi hen h
    have hc : (nI i).toNatClampNeg = i := nI_clamp (by omega)
    show wX_findEnds_7 post f_maxChoices f_maxAlloc (nI n) f_stage f_solutions f_failures f_lastKind f_lastValue f_lastChoices f_lastChoiceCount f_lastAllocCount f_steering f_steeringLength f_pathLeft f_failed f_choicesMade f_allocsMade f_visiting f_position f_environment f_resultIsClosure f_resultValue f_depth (i + 1 + 1) (nI i) tk a_args en a_locationVariable a_locationOuter a_locationIsClosure a_locationValue a_closureToken a_closureEnvironment a_frameToken a_frameEnvironment a_frameHasFirst a_frameFirstIsClosure a_frameFirstValue
    rw [wX_findEnds_7]
    refine br_f (nI_pos (by omega)) (nm_r (nI_1 i) ⟨vp_in_nI (by omega) (by decide), am_xar (by rw [hc]) (hK i hi) ⟨am_ar (tk i) + 1, ?_⟩⟩)
    refine am_xfe28 hn hi (am_ar_le (tk i)) (fun j h1 h2 => hen j h1 h2) (am_ar (tk i)) 0 (i + 1) (by omega) (Nat.lt_succ_self i) hi ?_
    refine ih (upd en i (nI (am_it tk n (am_ar (tk i)) (i + 1)))) (by omega) (fun j h1 h2 => ?_) h
    by_cases q : j = i
    · rw [q, am_up_s, am_eN_s hi]
    · rw [am_up_n q]
      exact hen j (by omega) h2
theorem am_xib1 {post : Int32 → Prop} {J : Int32 → Prop} {i p : Nat} {v : Int32} (hn : n ≤ 32) (hi : i < n) (hp : p < i) (hen : ∀ j, j < n → en j = nI (am_eN tk n j)) (hT : am_bq tk ta n i v p = true → post 1) (hF : am_bq tk ta n i v p = false → J (nI (p + 1))) :
    vp_in (nI p) 32 ∧ ((tk (nI p).toNatClampNeg = 11 → wX_isBound_29 post J (nI i) v (nI p) f_maxChoices f_maxAlloc (nI n) f_stage f_solutions f_failures f_lastKind f_lastValue f_lastChoices f_lastChoiceCount f_lastAllocCount f_steering f_steeringLength f_pathLeft f_failed f_choicesMade f_allocsMade f_visiting f_position f_environment f_resultIsClosure f_resultValue f_depth tk ta en a_locationVariable a_locationOuter a_locationIsClosure a_locationValue a_closureToken a_closureEnvironment a_frameToken a_frameEnvironment a_frameHasFirst a_frameFirstIsClosure a_frameFirstValue) ∧ (¬ tk (nI p).toNatClampNeg = 11 → vp_in (nI p) 32 ∧ ((tk (nI p).toNatClampNeg = 12 → wX_isBound_29 post J (nI i) v (nI p) f_maxChoices f_maxAlloc (nI n) f_stage f_solutions f_failures f_lastKind f_lastValue f_lastChoices f_lastChoiceCount f_lastAllocCount f_steering f_steeringLength f_pathLeft f_failed f_choicesMade f_allocsMade f_visiting f_position f_environment f_resultIsClosure f_resultValue f_depth tk ta en a_locationVariable a_locationOuter a_locationIsClosure a_locationValue a_closureToken a_closureEnvironment a_frameToken a_frameEnvironment a_frameHasFirst a_frameFirstIsClosure a_frameFirstValue) ∧ (¬ tk (nI p).toNatClampNeg = 12 → wX_isBound_34 post J (nI i) v (nI p) 0 f_maxChoices f_maxAlloc (nI n) f_stage f_solutions f_failures f_lastKind f_lastValue f_lastChoices f_lastChoiceCount f_lastAllocCount f_steering f_steeringLength f_pathLeft f_failed f_choicesMade f_allocsMade f_visiting f_position f_environment f_resultIsClosure f_resultValue f_depth tk ta en a_locationVariable a_locationOuter a_locationIsClosure a_locationValue a_closureToken a_closureEnvironment a_frameToken a_frameEnvironment a_frameHasFirst a_frameFirstIsClosure a_frameFirstValue)))) := by
  have hc : (nI p).toNatClampNeg = p := nI_clamp (by omega)
  have vv : vp_in (nI p) 32 := vp_in_nI (by omega) (by decide)
  have ee : en (nI p).toNatClampNeg = nI (am_eN tk n p) := by rw [hc]; exact hen p (by omega)
  have b1 : am_eN tk n (p + 1) ≤ n := am_eN_le (by omega)
  have b2 : am_eN tk n p ≤ n := am_eN_le (by omega)
  have v34 : ¬ ta p = v → wX_isBound_34 post J (nI i) v (nI p) 1 f_maxChoices f_maxAlloc (nI n) f_stage f_solutions f_failures f_lastKind f_lastValue f_lastChoices f_lastChoiceCount f_lastAllocCount f_steering f_steeringLength f_pathLeft f_failed f_choicesMade f_allocsMade f_visiting f_position f_environment f_resultIsClosure f_resultValue f_depth tk ta en a_locationVariable a_locationOuter a_locationIsClosure a_locationValue a_closureToken a_closureEnvironment a_frameToken a_frameEnvironment a_frameHasFirst a_frameFirstIsClosure a_frameFirstValue := fun z => br_f (by decide) ⟨vv, br_f (by rw [hc]; exact z) (nm_r (nI_1 p) (hF (am_bq_v z)))⟩
  refine ⟨vv, br_c (fun k => ?_) (fun k => ⟨vv, br_c (fun k2 => ?_) (fun k2 => ?_)⟩)⟩
  · rw [hc] at k
    by_cases a : ta p = v
    · have ea := am_bq_11 (n := n) (i := i) k a
      refine br_f (by decide) ⟨vv, br_t (by rw [hc]; exact a) ⟨vv, br_f (by rw [hc, k]; decide) (am_xend1 hn (by omega) (fun z => hen _ z) (nI_1 p) ?_)⟩⟩
      by_cases c1 : am_eN tk n (p + 1) ≤ i
      · by_cases c2 : i < am_eN tk n p
        · exact br_f (nI_nlt c1 (by omega)) ⟨vv, br_f (by rw [ee]; exact nI_ge c2 (by omega)) (hT (by rw [ea]; exact decide_eq_true ⟨c1, c2⟩))⟩
        · exact br_f (nI_nlt c1 (by omega)) ⟨vv, br_t (by rw [ee]; exact nI_le (by omega) (by omega)) (nm_r (nI_1 p) (hF (by rw [ea]; exact decide_eq_false (fun z => c2 z.2))))⟩
      · exact br_t (nI_lt (by omega) (by omega)) (nm_r (nI_1 p) (hF (by rw [ea]; exact decide_eq_false (fun z => c1 z.1))))
    · exact v34 a
  · rw [hc] at k k2
    by_cases a : ta p = v
    · have ea := am_bq_12 (n := n) (i := i) k2 a
      refine br_f (by decide) ⟨vv, br_t (by rw [hc]; exact a) ⟨vv, br_t (by rw [hc]; exact k2) ?_⟩⟩
      by_cases c2 : i < am_eN tk n p
      · exact br_f (by rw [nI_1]; exact nI_nlt (by omega) (by omega)) ⟨vv, br_f (by rw [ee]; exact nI_ge c2 (by omega)) (hT (by rw [ea]; exact decide_eq_true c2))⟩
      · exact br_f (by rw [nI_1]; exact nI_nlt (by omega) (by omega)) ⟨vv, br_t (by rw [ee]; exact nI_le (by omega) (by omega)) (nm_r (nI_1 p) (hF (by rw [ea]; exact decide_eq_false c2)))⟩
    · exact v34 a
  · rw [hc] at k k2
    exact br_t rfl (nm_r (nI_1 p) (hF (am_bq_k k k2)))
theorem am_xib {post : Int32 → Prop} {i : Nat} {v : Int32} (hn : n ≤ 32) (hi : i < n) (hen : ∀ j, j < n → en j = nI (am_eN tk n j)) : ∀ d p : Nat, p + d = i → post (am_bI (am_an (am_bq tk ta n i v) d p)) → wX_isBound_2 post (nI i) v f_maxChoices f_maxAlloc (nI n) f_stage f_solutions f_failures f_lastKind f_lastValue f_lastChoices f_lastChoiceCount f_lastAllocCount f_steering f_steeringLength f_pathLeft f_failed f_choicesMade f_allocsMade f_visiting f_position f_environment f_resultIsClosure f_resultValue f_depth tk ta en a_locationVariable a_locationOuter a_locationIsClosure a_locationValue a_closureToken a_closureEnvironment a_frameToken a_frameEnvironment a_frameHasFirst a_frameFirstIsClosure a_frameFirstValue (d + 1) (nI p) := by
  intro d
  induction d with
  | zero =>
    intro p hp h
    rw [wX_isBound_2]
    exact br_t (nI_le (by omega) (by omega)) h
  | succ d ih =>
    intro p hp h
    rw [wX_isBound_2]
    refine br_f (nI_ge (by omega) (by omega)) (am_xib1 hn hi (by omega) hen (fun z => ?_) (fun z => ?_))
    · rw [am_an_t z] at h
      exact h
    · rw [am_an_f z] at h
      exact ih (p + 1) (by omega) h
theorem am_xab {post : Int32 → Prop} (hn : n ≤ 32) (hen : ∀ j, j < n → en j = nI (am_eN tk n j)) : ∀ d i : Nat, i + d = n → post (am_bI (am_ab tk ta n d i)) → wX_allBound_2 post f_maxChoices f_maxAlloc (nI n) f_stage f_solutions f_failures f_lastKind f_lastValue f_lastChoices f_lastChoiceCount f_lastAllocCount f_steering f_steeringLength f_pathLeft f_failed f_choicesMade f_allocsMade f_visiting f_position f_environment f_resultIsClosure f_resultValue f_depth tk ta en a_locationVariable a_locationOuter a_locationIsClosure a_locationValue a_closureToken a_closureEnvironment a_frameToken a_frameEnvironment a_frameHasFirst a_frameFirstIsClosure a_frameFirstValue (d + 1) (nI i) := by
  intro d
  induction d with
  | zero =>
    intro i hi h
    rw [wX_allBound_2]
    exact br_t (nI_le (by omega) (by omega)) h
  | succ d ih =>
    intro i hi h
    have hc : (nI i).toNatClampNeg = i := nI_clamp (by omega)
    have vv : vp_in (nI i) 32 := vp_in_nI (by omega) (by decide)
    rw [am_ab_s] at h
    have h31 : (tk i = 1 ∨ tk i = 14) → wX_allBound_31 post (wX_allBound_2 post f_maxChoices f_maxAlloc (nI n) f_stage f_solutions f_failures f_lastKind f_lastValue f_lastChoices f_lastChoiceCount f_lastAllocCount f_steering f_steeringLength f_pathLeft f_failed f_choicesMade f_allocsMade f_visiting f_position f_environment f_resultIsClosure f_resultValue f_depth tk ta en a_locationVariable a_locationOuter a_locationIsClosure a_locationValue a_closureToken a_closureEnvironment a_frameToken a_frameEnvironment a_frameHasFirst a_frameFirstIsClosure a_frameFirstValue (d + 1)) (nI i) f_maxChoices f_maxAlloc (nI n) f_stage f_solutions f_failures f_lastKind f_lastValue f_lastChoices f_lastChoiceCount f_lastAllocCount f_steering f_steeringLength f_pathLeft f_failed f_choicesMade f_allocsMade f_visiting f_position f_environment f_resultIsClosure f_resultValue f_depth tk ta en a_locationVariable a_locationOuter a_locationIsClosure a_locationValue a_closureToken a_closureEnvironment a_frameToken a_frameEnvironment a_frameHasFirst a_frameFirstIsClosure a_frameFirstValue := by
      intro z
      refine ⟨vv, ⟨i + 1, ?_⟩⟩
      rw [hc]
      refine am_xib hn (by omega) hen i 0 (Nat.zero_add i) ?_
      cases ha : am_an (am_bq tk ta n i (ta i)) i 0 with
      | true =>
        rw [if_neg (fun y => absurd (ha.symm.trans y.2) (by decide))] at h
        exact br_f (by decide) (nm_r (nI_1 i) (ih (i + 1) (by omega) h))
      | false =>
        rw [if_pos ⟨z, ha⟩] at h
        exact br_t rfl h
    rw [wX_allBound_2]
    refine br_f (nI_ge (by omega) (by omega)) ⟨vv, br_c (fun k => ?_) (fun k => ⟨vv, br_c (fun k2 => ?_) (fun k2 => ?_)⟩)⟩
    · rw [hc] at k
      exact h31 (Or.inl k)
    · rw [hc] at k2
      exact h31 (Or.inr k2)
    · rw [hc] at k k2
      rw [if_neg (fun y => y.1.elim k k2)] at h
      exact nm_r (nI_1 i) (ih (i + 1) (by omega) h)
end
section
variable {f_maxC f_maxA f_n f_ph f_sols f_fails f_lastKind f_lastVal f_lastLen f_lastAlloc f_curLen f_over f_used f_allocs f_nf f_nc f_sp f_rk f_rv : Int32} {a_tk a_ta a_lastBits a_cur a_fVar a_fPar a_fK a_fV a_cPos a_cEnv a_sPos a_sEnv a_sSt a_sK a_sV : Nat → Int32}
variable {n : Nat} {tk ta : Nat → Int32}
theorem am_ysh {post : Int32 → SY → Prop} (hn : n ≤ 32) : ∀ d q i : Nat, i + d = n → q + 3 * d < 1000 → (am_sh tk d q i = 0 → ∃ f : Nat, wY_compile_65 post f_maxC f_maxA (nI n) f_ph f_sols f_fails f_lastKind f_lastVal f_lastLen f_lastAlloc f_curLen f_over f_used f_allocs f_nf f_nc f_sp f_rk f_rv tk ta a_lastBits a_cur a_fVar a_fPar a_fK a_fV a_cPos a_cEnv a_sPos a_sEnv a_sSt a_sK a_sV f 0) → (am_sh tk d q i = 2 → post 2 (f_maxC, f_maxA, nI n, f_ph, f_sols, f_fails, f_lastKind, f_lastVal, f_lastLen, f_lastAlloc, f_curLen, f_over, f_used, f_allocs, f_nf, f_nc, f_sp, f_rk, f_rv, tk, ta, a_lastBits, a_cur, a_fVar, a_fPar, a_fK, a_fV, a_cPos, a_cEnv, a_sPos, a_sEnv, a_sSt, a_sK, a_sV)) → (am_sh tk d q i = 3 → post 3 (f_maxC, f_maxA, nI n, f_ph, f_sols, f_fails, f_lastKind, f_lastVal, f_lastLen, f_lastAlloc, f_curLen, f_over, f_used, f_allocs, f_nf, f_nc, f_sp, f_rk, f_rv, tk, ta, a_lastBits, a_cur, a_fVar, a_fPar, a_fK, a_fV, a_cPos, a_cEnv, a_sPos, a_sEnv, a_sSt, a_sK, a_sV)) → wY_compile_22 post f_maxC f_maxA (nI n) f_ph f_sols f_fails f_lastKind f_lastVal f_lastLen f_lastAlloc f_curLen f_over f_used f_allocs f_nf f_nc f_sp f_rk f_rv tk ta a_lastBits a_cur a_fVar a_fPar a_fK a_fV a_cPos a_cEnv a_sPos a_sEnv a_sSt a_sK a_sV (d + 1) (nI q) (nI i) := by
  intro d
  induction d with
  | zero =>
    intro q i hi hq h0 h2 h3
    rw [wY_compile_22]
    refine br_t (nI_le (by omega) (by omega)) ?_
    cases q with
    | zero => exact br_t (Int32.le_refl _) (h0 rfl)
    | succ q => exact br_f (nI_nle (by omega) (by omega)) (h3 rfl)
  | succ d ih =>
    intro q i hi hq h0 h2 h3
    rw [wY_compile_22]
    refine br_f (nI_ge (by omega) (by omega)) ?_
    cases q with
    | zero => exact br_t rfl (h2 rfl)
    | succ q =>
      have ha := am_ar_le (tk i)
      have e1 : nI (q + 1) - 1 + nI (am_ar (tk (nI i).toNatClampNeg)) = nI (q + am_ar (tk i)) := by rw [nI_pred, nI_clamp (by omega), nI_add]
      exact br_f (nI_ne0 (by omega) (by omega)) ⟨vp_in_nI (by omega) (by decide), am_yar (nm_r e1 (nm_r (nI_1 i) (ih (q + am_ar (tk i)) (i + 1) (by omega) (by omega) h0 h2 h3)))⟩
theorem am_yib {post : Int32 → SY → Prop} {J : Int32 → Prop} {i : Nat} {v : Int32} (hn : n ≤ 32) (hi : i < n) : ∀ (d p : Nat) (acc : Bool), p + d = i → ((acc || am_an (am_bq tk ta n i v) d p) = false → post 4 (f_maxC, f_maxA, nI n, f_ph, f_sols, f_fails, f_lastKind, f_lastVal, f_lastLen, f_lastAlloc, f_curLen, f_over, f_used, f_allocs, f_nf, f_nc, f_sp, f_rk, f_rv, tk, ta, a_lastBits, a_cur, a_fVar, a_fPar, a_fK, a_fV, a_cPos, a_cEnv, a_sPos, a_sEnv, a_sSt, a_sK, a_sV)) → ((acc || am_an (am_bq tk ta n i v) d p) = true → J (nI (i + 1))) → wY_compile_107 post J (nI i) v f_maxC f_maxA (nI n) f_ph f_sols f_fails f_lastKind f_lastVal f_lastLen f_lastAlloc f_curLen f_over f_used f_allocs f_nf f_nc f_sp f_rk f_rv tk ta a_lastBits a_cur a_fVar a_fPar a_fK a_fV a_cPos a_cEnv a_sPos a_sEnv a_sSt a_sK a_sV (d + 1) (am_bI acc) (nI p) := by
  intro d
  induction d with
  | zero =>
    intro p acc hp hF hT
    rw [wY_compile_107]
    refine br_t (nI_le (by omega) (by omega)) ?_
    cases acc with
    | true => exact br_f (by decide) (nm_r (nI_1 i) (hT rfl))
    | false => exact br_t rfl (hF rfl)
  | succ d ih =>
    intro p acc hp hF hT
    have hc : (nI p).toNatClampNeg = p := nI_clamp (by omega)
    have vv : vp_in (nI p) 32 := vp_in_nI (by omega) (by decide)
    have b1 : am_eN tk n (p + 1) ≤ n := am_eN_le (by omega)
    have b2 : am_eN tk n p ≤ n := am_eN_le (by omega)
    have g0 : am_bq tk ta n i v p = false → wY_compile_107 post J (nI i) v f_maxC f_maxA (nI n) f_ph f_sols f_fails f_lastKind f_lastVal f_lastLen f_lastAlloc f_curLen f_over f_used f_allocs f_nf f_nc f_sp f_rk f_rv tk ta a_lastBits a_cur a_fVar a_fPar a_fK a_fV a_cPos a_cEnv a_sPos a_sEnv a_sSt a_sK a_sV (d + 1) (am_bI acc) (nI (p + 1)) := by
      intro z
      rw [am_an_f z] at hF hT
      exact ih (p + 1) acc (by omega) hF hT
    have g1 : am_bq tk ta n i v p = true → wY_compile_107 post J (nI i) v f_maxC f_maxA (nI n) f_ph f_sols f_fails f_lastKind f_lastVal f_lastLen f_lastAlloc f_curLen f_over f_used f_allocs f_nf f_nc f_sp f_rk f_rv tk ta a_lastBits a_cur a_fVar a_fPar a_fK a_fV a_cPos a_cEnv a_sPos a_sEnv a_sSt a_sK a_sV (d + 1) 1 (nI (p + 1)) := by
      intro z
      rw [am_an_t z, Bool.or_true] at hT
      exact ih (p + 1) true (by omega) (fun y => absurd y (by rw [Bool.true_or]; decide)) (fun _ => hT rfl)
    have h172 : ¬ (tk p = 11 ∧ ta p = v) → wY_compile_172 post J (wY_compile_107 post J (nI i) v f_maxC f_maxA (nI n) f_ph f_sols f_fails f_lastKind f_lastVal f_lastLen f_lastAlloc f_curLen f_over f_used f_allocs f_nf f_nc f_sp f_rk f_rv tk ta a_lastBits a_cur a_fVar a_fPar a_fK a_fV a_cPos a_cEnv a_sPos a_sEnv a_sSt a_sK a_sV (d + 1)) (nI i) v (am_bI acc) (nI p) f_maxC f_maxA (nI n) f_ph f_sols f_fails f_lastKind f_lastVal f_lastLen f_lastAlloc f_curLen f_over f_used f_allocs f_nf f_nc f_sp f_rk f_rv tk ta a_lastBits a_cur a_fVar a_fPar a_fK a_fV a_cPos a_cEnv a_sPos a_sEnv a_sSt a_sK a_sV := by
      intro no
      refine ⟨vv, br_c (fun k => ⟨vv, br_c (fun a => ?_) (fun a => ?_)⟩) (fun k => ?_)⟩
      · rw [hc] at k a
        have ea := am_bq_12 (n := n) (i := i) k a
        have e1 : am_eN tk n p = am_eN tk n (p + 1) := am_eN_1 (by omega) (by rw [k]; decide)
        rw [e1] at ea
        refine am_yend hn (by omega) (nI_1 p) ?_
        by_cases c2 : i < am_eN tk n (p + 1)
        · exact br_f (nI_ge c2 (by omega)) (nm_r (nI_1 p) (g1 (by rw [ea]; exact decide_eq_true c2)))
        · exact br_t (nI_le (by omega) (by omega)) (nm_r (nI_1 p) (g0 (by rw [ea]; exact decide_eq_false c2)))
      · rw [hc] at a
        exact nm_r (nI_1 p) (g0 (am_bq_v a))
      · rw [hc] at k
        refine nm_r (nI_1 p) (g0 ?_)
        by_cases a : ta p = v
        · exact am_bq_k (fun z => no ⟨z, a⟩) k
        · exact am_bq_v a
    rw [wY_compile_107]
    refine br_f (nI_ge (by omega) (by omega)) ⟨vv, br_c (fun k => ⟨vv, br_c (fun a => ?_) (fun a => ?_)⟩) (fun k => ?_)⟩
    · rw [hc] at k a
      have ea := am_bq_11 (n := n) (i := i) k a
      have e1 : am_eN tk n p = am_eN tk n (am_eN tk n (p + 1)) := am_eN_2 (by omega) (by rw [k]; decide)
      refine am_yend hn (by omega) (nI_1 p) (am_yend hn b1 rfl ?_)
      rw [← e1]
      by_cases c1 : am_eN tk n (p + 1) ≤ i
      · by_cases c2 : i < am_eN tk n p
        · exact br_f (nI_nlt c1 (by omega)) (br_f (nI_ge c2 (by omega)) (nm_r (nI_1 p) (g1 (by rw [ea]; exact decide_eq_true ⟨c1, c2⟩))))
        · exact br_f (nI_nlt c1 (by omega)) (br_t (nI_le (by omega) (by omega)) (nm_r (nI_1 p) (g0 (by rw [ea]; exact decide_eq_false (fun z => c2 z.2)))))
      · exact br_t (nI_lt (by omega) (by omega)) (nm_r (nI_1 p) (g0 (by rw [ea]; exact decide_eq_false (fun z => c1 z.1))))
    · rw [hc] at a
      exact h172 (fun z => a z.2)
    · rw [hc] at k
      exact h172 (fun z => k z.1)
theorem am_yab {post : Int32 → SY → Prop} (hn : n ≤ 32) : ∀ d i : Nat, i + d = n → (am_ab tk ta n d i = true → post 0 (f_maxC, f_maxA, nI n, 1, 0, 0, 0, 0, 0, 0, 0, 0, f_used, f_allocs, f_nf, f_nc, f_sp, f_rk, f_rv, tk, ta, a_lastBits, a_cur, a_fVar, a_fPar, a_fK, a_fV, a_cPos, a_cEnv, a_sPos, a_sEnv, a_sSt, a_sK, a_sV)) → (am_ab tk ta n d i = false → post 4 (f_maxC, f_maxA, nI n, f_ph, f_sols, f_fails, f_lastKind, f_lastVal, f_lastLen, f_lastAlloc, f_curLen, f_over, f_used, f_allocs, f_nf, f_nc, f_sp, f_rk, f_rv, tk, ta, a_lastBits, a_cur, a_fVar, a_fPar, a_fK, a_fV, a_cPos, a_cEnv, a_sPos, a_sEnv, a_sSt, a_sK, a_sV)) → wY_compile_65 post f_maxC f_maxA (nI n) f_ph f_sols f_fails f_lastKind f_lastVal f_lastLen f_lastAlloc f_curLen f_over f_used f_allocs f_nf f_nc f_sp f_rk f_rv tk ta a_lastBits a_cur a_fVar a_fPar a_fK a_fV a_cPos a_cEnv a_sPos a_sEnv a_sSt a_sK a_sV (d + 1) (nI i) := by
  intro d
  induction d with
  | zero =>
    intro i hi hT hF
    rw [wY_compile_65]
    exact br_t (nI_le (by omega) (by omega)) (hT rfl)
  | succ d ih =>
    intro i hi hT hF
    have hc : (nI i).toNatClampNeg = i := nI_clamp (by omega)
    have vv : vp_in (nI i) 32 := vp_in_nI (by omega) (by decide)
    rw [am_ab_s] at hT hF
    have h94 : (tk i = 1 ∨ tk i = 14) → wY_compile_94 post (wY_compile_65 post f_maxC f_maxA (nI n) f_ph f_sols f_fails f_lastKind f_lastVal f_lastLen f_lastAlloc f_curLen f_over f_used f_allocs f_nf f_nc f_sp f_rk f_rv tk ta a_lastBits a_cur a_fVar a_fPar a_fK a_fV a_cPos a_cEnv a_sPos a_sEnv a_sSt a_sK a_sV (d + 1)) (nI i) f_maxC f_maxA (nI n) f_ph f_sols f_fails f_lastKind f_lastVal f_lastLen f_lastAlloc f_curLen f_over f_used f_allocs f_nf f_nc f_sp f_rk f_rv tk ta a_lastBits a_cur a_fVar a_fPar a_fK a_fV a_cPos a_cEnv a_sPos a_sEnv a_sSt a_sK a_sV := by
      intro z
      have ea : ta (nI i).toNatClampNeg = ta i := by rw [hc]
      refine ⟨vv, nm_r ea ⟨i + 1, am_yib hn (by omega) i 0 false (Nat.zero_add i) (fun y => ?_) (fun y => ?_)⟩⟩
      · rw [Bool.false_or] at y
        rw [if_pos ⟨z, y⟩] at hF
        exact hF rfl
      · rw [Bool.false_or] at y
        rw [if_neg (fun x => absurd (y.symm.trans x.2) (by decide))] at hT hF
        exact ih (i + 1) (by omega) hT hF
    rw [wY_compile_65]
    refine br_f (nI_ge (by omega) (by omega)) ⟨vv, br_c (fun k => ?_) (fun k => ⟨vv, br_c (fun k2 => ?_) (fun k2 => ?_)⟩)⟩
    · rw [hc] at k
      exact h94 (Or.inl k)
    · rw [hc] at k2
      exact h94 (Or.inr k2)
    · rw [hc] at k k2
      rw [if_neg (fun y => y.1.elim k k2)] at hT hF
      exact nm_r (nI_1 i) (ih (i + 1) (by omega) hT hF)
end
end
section
/-! the owed statements -/
theorem am_V0 (mC mA n : Nat) (tk ta : Nat → Int32) : am_V mC mA n tk ta (fun _ => false) 0 := ⟨Nat.zero_le _, fun _ _ => rfl, Nat.zero_le _⟩
theorem am_clampX {post : Int32 → Prop} {x : Int32} {g : Nat} (hg : 1 ≤ g) (hb : g < 1000) (h : ∀ m : Nat, m ≤ g → (x < 1 → m = 1) → (nI g ≤ x → m = g) → (1 ≤ x → x ≤ nI g → x = nI m) → post (nI m)) : wpX_clamp post x (nI g) := by
  refine br_c (fun h1 => br_c (fun h2 => ?_) (fun h2 => ?_)) (fun h1 => ?_)
  · have hp : ¬ x < 0 := Int32.not_lt.mpr (Int32.le_trans (by decide) h1)
    obtain ⟨j, hj, rfl⟩ := nI_of hp
    rw [nI_leI hj (by omega)] at h2
    refine h j h2 (fun z => absurd h1 (Int32.not_le.mpr z)) (fun z => ?_) (fun _ _ => rfl)
    rw [nI_leI (by omega) hj] at z
    omega
  · exact h g (Nat.le_refl g) (fun z => absurd h1 (Int32.not_le.mpr z)) (fun _ => rfl) (fun _ z => absurd z h2)
  · have h3 : x < 1 := Int32.not_le.mp h1
    refine h 1 hg (fun _ => rfl) (fun z => ?_) (fun z => absurd z h1)
    have h4 : (1 : Int32) ≤ nI g := nI_le (a := 1) hg (by omega)
    exact absurd (Int32.le_trans h4 z) h1
theorem i_vc0 (k0 : Int32) (k1 : Int32) : wpX_init (fun u => wpY_init (fun v => i_Rel 2 u v) k0 k1) k0 k1 := by
  unfold wpX_init
  refine am_clampX (g := 6) (by decide) (by decide) (fun mC hC c1 c2 c3 => ?_)
  refine am_clampX (g := 16) (by decide) (by decide) (fun mA hA a1 a2 a3 => ?_)
  have R : ∀ v, am_RY mC mA 0 (fun _ => 0) (fun _ => 0) 0 0 0 0 0 0 0 (fun _ => false) false (fun _ => false) 0 v → i_Rel 2 (nI mC, nI mA, 0, 0, 0, 0, 0, 0, 0, 0, 0, 0, 0, 0, 0, 0, 0, 0, 0, (-1), 0, 0, 0, (fun _ ↦ 0), (fun _ ↦ 0), (fun _ ↦ 0), (fun _ ↦ 0), (fun _ ↦ 0), (fun _ ↦ 0), (fun _ ↦ 0), (fun _ ↦ 0), (fun _ ↦ 0), (fun _ ↦ 0), (fun _ ↦ 0), (fun _ ↦ 0), (fun _ ↦ 0), (fun _ ↦ 0)) v := fun v hv => ⟨mC, mA, 0, fun _ => 0, fun _ => 0, 0, 0, 0, 0, 0, 0, 0, fun _ => false, false, fun _ => false, 0, ⟨hC, hA, by decide, fun i hi => absurd hi (Nat.not_lt_zero i), by decide, fun z => absurd z (by decide), fun z => absurd rfl z⟩, ⟨_, _, _, _, _, _, _, _, _, _, _, _, _, _, _, _, _, _, _, _, _, _, _, _, rfl, fun z => absurd rfl z⟩, hv⟩
  have Q : i_Rel 2 (nI mC, nI mA, 0, 0, 0, 0, 0, 0, 0, 0, 0, 0, 0, 0, 0, 0, 0, 0, 0, (-1), 0, 0, 0, (fun _ ↦ 0), (fun _ ↦ 0), (fun _ ↦ 0), (fun _ ↦ 0), (fun _ ↦ 0), (fun _ ↦ 0), (fun _ ↦ 0), (fun _ ↦ 0), (fun _ ↦ 0), (fun _ ↦ 0), (fun _ ↦ 0), (fun _ ↦ 0), (fun _ ↦ 0), (fun _ ↦ 0)) (nI mC, nI mA, 0, 0, 0, 0, 0, 0, 0, 0, 0, 0, 0, 0, 0, 0, 0, 0, 0, (fun _ ↦ 0), (fun _ ↦ 0), (fun _ ↦ 0), (fun _ ↦ 0), (fun _ ↦ 0), (fun _ ↦ 0), (fun _ ↦ 0), (fun _ ↦ 0), (fun _ ↦ 0), (fun _ ↦ 0), (fun _ ↦ 0), (fun _ ↦ 0), (fun _ ↦ 0), (fun _ ↦ 0), (fun _ ↦ 0)) := R _ ⟨_, _, _, _, _, _, _, _, _, _, _, _, _, _, _, _, _, _, _, _, _, _, rfl, fun j hj => absurd hj (Nat.not_lt_zero j), fun z => absurd rfl z⟩
  have Q2 : ∀ x y : Int32, x = nI mC → y = nI mA → i_Rel 2 (nI mC, nI mA, 0, 0, 0, 0, 0, 0, 0, 0, 0, 0, 0, 0, 0, 0, 0, 0, 0, (-1), 0, 0, 0, (fun _ ↦ 0), (fun _ ↦ 0), (fun _ ↦ 0), (fun _ ↦ 0), (fun _ ↦ 0), (fun _ ↦ 0), (fun _ ↦ 0), (fun _ ↦ 0), (fun _ ↦ 0), (fun _ ↦ 0), (fun _ ↦ 0), (fun _ ↦ 0), (fun _ ↦ 0), (fun _ ↦ 0)) (x, y, 0, 0, 0, 0, 0, 0, 0, 0, 0, 0, 0, 0, 0, 0, 0, 0, 0, (fun _ ↦ 0), (fun _ ↦ 0), (fun _ ↦ 0), (fun _ ↦ 0), (fun _ ↦ 0), (fun _ ↦ 0), (fun _ ↦ 0), (fun _ ↦ 0), (fun _ ↦ 0), (fun _ ↦ 0), (fun _ ↦ 0), (fun _ ↦ 0), (fun _ ↦ 0), (fun _ ↦ 0), (fun _ ↦ 0)) := by
    intro x y ex ey
    rw [ex, ey]
    exact Q
  have A : ∀ x : Int32, x = nI mC → wY_init_162 (fun v => i_Rel 2 (nI mC, nI mA, 0, 0, 0, 0, 0, 0, 0, 0, 0, 0, 0, 0, 0, 0, 0, 0, 0, (-1), 0, 0, 0, (fun _ ↦ 0), (fun _ ↦ 0), (fun _ ↦ 0), (fun _ ↦ 0), (fun _ ↦ 0), (fun _ ↦ 0), (fun _ ↦ 0), (fun _ ↦ 0), (fun _ ↦ 0), (fun _ ↦ 0), (fun _ ↦ 0), (fun _ ↦ 0), (fun _ ↦ 0), (fun _ ↦ 0)) v) k1 x 0 0 0 0 0 0 0 0 0 0 0 0 0 0 0 0 0 0 (fun _ ↦ 0) (fun _ ↦ 0) (fun _ ↦ 0) (fun _ ↦ 0) (fun _ ↦ 0) (fun _ ↦ 0) (fun _ ↦ 0) (fun _ ↦ 0) (fun _ ↦ 0) (fun _ ↦ 0) (fun _ ↦ 0) (fun _ ↦ 0) (fun _ ↦ 0) (fun _ ↦ 0) (fun _ ↦ 0) := by
    intro x ex
    refine br_c (fun h1 => br_c (fun h2 => ?_) (fun h2 => ?_)) (fun h1 => br_t (by decide) ?_)
    · exact Q2 x k1 ex (a3 h1 h2)
    · exact Q2 x 16 ex (by rw [a2 (Int32.le_of_lt (Int32.not_le.mp h2))]; rfl)
    · exact Q2 x 1 ex (by rw [a1 (Int32.not_le.mp h1)]; rfl)
  refine br_c (fun h1 => br_c (fun h2 => ?_) (fun h2 => ?_)) (fun h1 => br_t (by decide) ?_)
  · exact A k0 (c3 h1 h2)
  · exact A 6 (by rw [c2 (Int32.le_of_lt (Int32.not_le.mp h2))]; rfl)
  · exact A 1 (by rw [c1 (Int32.not_le.mp h1)]; rfl)
theorem i_vc_reset {k : Nat} {u : SX} {v : SY} (I : i_Rel k u v) (hk : k + 3 ≤ 1538) : wpX_reset (fun u' => wpY_reset (fun v' => i_Rel (k + 3) u' v') v) u := by
  have I0 := I
  obtain ⟨mC, mA, n, tk, ta, ph, sols, fails, lK, lV, lA, lc, lb, ov, b, L, hP, hX, hY⟩ := I
  obtain ⟨hC, hA, hn, hK, hlc, h2, hVV⟩ := hP
  obtain ⟨f_steering, f_steeringLength, f_pathLeft, f_failed, f_choicesMade, f_allocsMade, f_visiting, f_position, f_environment, f_resultIsClosure, f_resultValue, f_depth, a_ends, a_locationVariable, a_locationOuter, a_locationIsClosure, a_locationValue, a_closureToken, a_closureEnvironment, a_frameToken, a_frameEnvironment, a_frameHasFirst, a_frameFirstIsClosure, a_frameFirstValue, rfl, hx⟩ := hX
  obtain ⟨f_curLen, f_over, f_used, f_allocs, f_nf, f_nc, f_sp, f_rk, f_rv, a_lastBits, a_cur, a_fVar, a_fPar, a_fK, a_fV, a_cPos, a_cEnv, a_sPos, a_sEnv, a_sSt, a_sK, a_sV, rfl, hl, hy⟩ := hY
  exact ⟨mC, mA, 0, tk, ta, 0, 0, 0, 0, 0, 0, 0, lb, false, b, L, ⟨hC, hA, by decide, fun i hi => absurd hi (Nat.not_lt_zero i), by decide, fun z => absurd z (by decide), fun z => absurd rfl z⟩, ⟨_, _, _, _, _, _, _, _, _, _, _, _, _, _, _, _, _, _, _, _, _, _, _, _, rfl, fun z => absurd rfl z⟩, ⟨_, _, _, _, _, _, _, _, _, _, _, _, _, _, _, _, _, _, _, _, _, _, rfl, fun j hj => absurd hj (Nat.not_lt_zero j), fun z => absurd rfl z⟩⟩
section
variable {f_maxChoices f_maxAlloc f_held f_stage f_solutions f_failures f_lastKind f_lastValue f_lastChoices f_lastChoiceCount f_lastAllocCount f_steering f_steeringLength f_pathLeft f_failed f_choicesMade f_allocsMade f_visiting f_position f_environment f_resultIsClosure f_resultValue f_depth : Int32} {a_kinds a_args a_ends a_locationVariable a_locationOuter a_locationIsClosure a_locationValue a_closureToken a_closureEnvironment a_frameToken a_frameEnvironment a_frameHasFirst a_frameFirstIsClosure a_frameFirstValue : Nat → Int32}
theorem am_tok51 {post : Int32 → SX → Prop} {n : Nat} {x y z r : Int32} (hn : n < 32) (h0 : r = 0 → x = 0 → z = y) (h1 : r = 0 → ¬ x = 0 → z = 0) (h2 : ¬ r = 0 → z = y) (h : post 1 (f_maxChoices, f_maxAlloc, nI (n + 1), f_stage, f_solutions, f_failures, f_lastKind, f_lastValue, f_lastChoices, f_lastChoiceCount, f_lastAllocCount, f_steering, f_steeringLength, f_pathLeft, f_failed, f_choicesMade, f_allocsMade, f_visiting, f_position, f_environment, f_resultIsClosure, f_resultValue, f_depth, upd a_kinds n x, upd a_args n z, a_ends, a_locationVariable, a_locationOuter, a_locationIsClosure, a_locationValue, a_closureToken, a_closureEnvironment, a_frameToken, a_frameEnvironment, a_frameHasFirst, a_frameFirstIsClosure, a_frameFirstValue)) : wX_token_51 post x y r f_maxChoices f_maxAlloc (nI n) f_stage f_solutions f_failures f_lastKind f_lastValue f_lastChoices f_lastChoiceCount f_lastAllocCount f_steering f_steeringLength f_pathLeft f_failed f_choicesMade f_allocsMade f_visiting f_position f_environment f_resultIsClosure f_resultValue f_depth a_kinds a_args a_ends a_locationVariable a_locationOuter a_locationIsClosure a_locationValue a_closureToken a_closureEnvironment a_frameToken a_frameEnvironment a_frameHasFirst a_frameFirstIsClosure a_frameFirstValue := by
  have hc : (nI n).toNatClampNeg = n := nI_clamp (by omega)
  have v : vp_in (nI n) 32 := vp_in_nI hn (by decide)
  refine ⟨v, nm_r (by rw [hc]) (br_c (fun a => br_c (fun c => ?_) (fun c => ?_)) (fun a => ?_))⟩
  · rw [h0 a c] at h
    exact ⟨v, nm_r (by rw [hc]) (nm_r (nI_1 n) h)⟩
  · rw [h1 a c] at h
    exact ⟨v, nm_r (by rw [hc]) (nm_r (nI_1 n) h)⟩
  · rw [h2 a] at h
    exact ⟨v, nm_r (by rw [hc]) (nm_r (nI_1 n) h)⟩
end
section
variable {f_maxC f_maxA f_n f_ph f_sols f_fails f_lastKind f_lastVal f_lastLen f_lastAlloc f_curLen f_over f_used f_allocs f_nf f_nc f_sp f_rk f_rv : Int32} {a_tk a_ta a_lastBits a_cur a_fVar a_fPar a_fK a_fV a_cPos a_cEnv a_sPos a_sEnv a_sSt a_sK a_sV : Nat → Int32}
theorem am_tok81 {post : Int32 → SY → Prop} {n : Nat} {x y z r : Int32} (hn : n < 32) (h1 : r = 0 → z = 0) (h2 : ¬ r = 0 → z = y) (h : post 1 (f_maxC, f_maxA, nI (n + 1), f_ph, f_sols, f_fails, f_lastKind, f_lastVal, f_lastLen, f_lastAlloc, f_curLen, f_over, f_used, f_allocs, f_nf, f_nc, f_sp, f_rk, f_rv, upd a_tk n x, upd a_ta n z, a_lastBits, a_cur, a_fVar, a_fPar, a_fK, a_fV, a_cPos, a_cEnv, a_sPos, a_sEnv, a_sSt, a_sK, a_sV)) : wY_token_81 post x y r f_maxC f_maxA (nI n) f_ph f_sols f_fails f_lastKind f_lastVal f_lastLen f_lastAlloc f_curLen f_over f_used f_allocs f_nf f_nc f_sp f_rk f_rv a_tk a_ta a_lastBits a_cur a_fVar a_fPar a_fK a_fV a_cPos a_cEnv a_sPos a_sEnv a_sSt a_sK a_sV := by
  have hc : (nI n).toNatClampNeg = n := nI_clamp (by omega)
  have v : vp_in (nI n) 32 := vp_in_nI hn (by decide)
  refine ⟨v, nm_r (by rw [hc]) (br_c (fun a => ?_) (fun a => ?_))⟩
  · rw [h1 a] at h
    exact ⟨v, nm_r (by rw [hc]) (nm_r (nI_1 n) h)⟩
  · rw [h2 a] at h
    exact ⟨v, nm_r (by rw [hc]) (nm_r (nI_1 n) h)⟩
end
theorem am_kdOf {x : Int32} (h0 : ¬ x < 0) (h1 : x ≤ 15) : am_kd x := by
  obtain ⟨j, hj, rfl⟩ := nI_of2 (n := 15) (by decide) h0 h1
  have : ∀ j, j < 16 → am_kd (nI j) := by unfold am_kd; decide +kernel
  exact this j (by omega)
theorem i_vc_token {k : Nat} {u : SX} {v : SY} (I : i_Rel k u v) (hk : k + 3 ≤ 1538) (v1 : Int32) (v2 : Int32) : wpX_token (fun r u' => wpY_token (fun r' v' => r' = r ∧ i_Rel (k + 3) u' v') v v1 v2) u v1 v2 := by
  have I0 := I
  obtain ⟨mC, mA, n, tk, ta, ph, sols, fails, lK, lV, lA, lc, lb, ov, b, L, hP, hX, hY⟩ := I
  obtain ⟨hC, hA, hn, hK, hlc, h2, hVV⟩ := hP
  obtain ⟨f_steering, f_steeringLength, f_pathLeft, f_failed, f_choicesMade, f_allocsMade, f_visiting, f_position, f_environment, f_resultIsClosure, f_resultValue, f_depth, a_ends, a_locationVariable, a_locationOuter, a_locationIsClosure, a_locationValue, a_closureToken, a_closureEnvironment, a_frameToken, a_frameEnvironment, a_frameHasFirst, a_frameFirstIsClosure, a_frameFirstValue, rfl, hx⟩ := hX
  obtain ⟨f_curLen, f_over, f_used, f_allocs, f_nf, f_nc, f_sp, f_rk, f_rv, a_lastBits, a_cur, a_fVar, a_fPar, a_fK, a_fV, a_cPos, a_cEnv, a_sPos, a_sEnv, a_sSt, a_sK, a_sV, rfl, hl, hy⟩ := hY
  have J : i_Rel (k + 3) (nI mC, nI mA, nI n, ph, sols, fails, lK, lV, nI (am_nm lb lc), nI lc, lA, f_steering, f_steeringLength, f_pathLeft, f_failed, f_choicesMade, f_allocsMade, f_visiting, f_position, f_environment, f_resultIsClosure, f_resultValue, f_depth, tk, ta, a_ends, a_locationVariable, a_locationOuter, a_locationIsClosure, a_locationValue, a_closureToken, a_closureEnvironment, a_frameToken, a_frameEnvironment, a_frameHasFirst, a_frameFirstIsClosure, a_frameFirstValue) (nI mC, nI mA, nI n, ph, sols, fails, lK, lV, nI lc, lA, f_curLen, f_over, f_used, f_allocs, f_nf, f_nc, f_sp, f_rk, f_rv, tk, ta, a_lastBits, a_cur, a_fVar, a_fPar, a_fK, a_fV, a_cPos, a_cEnv, a_sPos, a_sEnv, a_sSt, a_sK, a_sV) := I0
  by_cases p0 : ph = 0
  · by_cases hf : n < 32
    · have f1 : nI n < 32 := nI_lt (b := 32) hf (by decide)
      by_cases n0 : v1 < 0
      · exact br_t p0 (br_t f1 (br_t n0 (br_t p0 (br_t n0 ⟨rfl, J⟩))))
      · by_cases n15 : v1 ≤ 15
        · have m15 : ¬ 15 < v1 := Int32.not_lt.mpr n15
          have R : ∀ z : Int32, i_Rel (k + 3) (nI mC, nI mA, nI (n + 1), ph, sols, fails, lK, lV, nI (am_nm lb lc), nI lc, lA, f_steering, f_steeringLength, f_pathLeft, f_failed, f_choicesMade, f_allocsMade, f_visiting, f_position, f_environment, f_resultIsClosure, f_resultValue, f_depth, upd tk n v1, upd ta n z, a_ends, a_locationVariable, a_locationOuter, a_locationIsClosure, a_locationValue, a_closureToken, a_closureEnvironment, a_frameToken, a_frameEnvironment, a_frameHasFirst, a_frameFirstIsClosure, a_frameFirstValue) (nI mC, nI mA, nI (n + 1), ph, sols, fails, lK, lV, nI lc, lA, f_curLen, f_over, f_used, f_allocs, f_nf, f_nc, f_sp, f_rk, f_rv, upd tk n v1, upd ta n z, a_lastBits, a_cur, a_fVar, a_fPar, a_fK, a_fV, a_cPos, a_cEnv, a_sPos, a_sEnv, a_sSt, a_sK, a_sV) := by
            intro z
            refine ⟨mC, mA, n + 1, upd tk n v1, upd ta n z, ph, sols, fails, lK, lV, lA, lc, lb, ov, b, L, ⟨hC, hA, hf, fun i hi => ?_, hlc, h2, fun y => absurd p0 y⟩, ⟨_, _, _, _, _, _, _, _, _, _, _, _, _, _, _, _, _, _, _, _, _, _, _, _, rfl, fun y => absurd p0 y⟩, ⟨_, _, _, _, _, _, _, _, _, _, _, _, _, _, _, _, _, _, _, _, _, _, rfl, hl, fun y => absurd p0 y⟩⟩
            by_cases q : i = n
            · rw [q, am_up_s]
              exact am_kdOf n0 n15
            · rw [am_up_n q]
              exact hK i (by omega)
          have YN : ∀ z : Int32, (v1 = 1 ∨ v1 = 11 ∨ v1 = 12 ∨ v1 = 14) → ¬ v2 < 0 → v2 < 8 → z = v2 → wpY_token (fun r' v' => r' = 1 ∧ i_Rel (k + 3) (nI mC, nI mA, nI (n + 1), ph, sols, fails, lK, lV, nI (am_nm lb lc), nI lc, lA, f_steering, f_steeringLength, f_pathLeft, f_failed, f_choicesMade, f_allocsMade, f_visiting, f_position, f_environment, f_resultIsClosure, f_resultValue, f_depth, upd tk n v1, upd ta n z, a_ends, a_locationVariable, a_locationOuter, a_locationIsClosure, a_locationValue, a_closureToken, a_closureEnvironment, a_frameToken, a_frameEnvironment, a_frameHasFirst, a_frameFirstIsClosure, a_frameFirstValue) v') (nI mC, nI mA, nI n, ph, sols, fails, lK, lV, nI lc, lA, f_curLen, f_over, f_used, f_allocs, f_nf, f_nc, f_sp, f_rk, f_rv, tk, ta, a_lastBits, a_cur, a_fVar, a_fPar, a_fK, a_fV, a_cPos, a_cEnv, a_sPos, a_sEnv, a_sSt, a_sK, a_sV) v1 v2 := by
            intro z hv g0 g8 hz
            have g7 : v2 ≤ 7 := by
              obtain ⟨j, hj, rfl⟩ := nI_of g0
              have g9 := (nI_ltI hj (b := 8) (by decide)).mp g8
              exact nI_le (b := 7) (by omega) (by decide)
            have H60 : ¬ v1 = 0 → wY_token_60 (fun r' v' => r' = 1 ∧ i_Rel (k + 3) (nI mC, nI mA, nI (n + 1), ph, sols, fails, lK, lV, nI (am_nm lb lc), nI lc, lA, f_steering, f_steeringLength, f_pathLeft, f_failed, f_choicesMade, f_allocsMade, f_visiting, f_position, f_environment, f_resultIsClosure, f_resultValue, f_depth, upd tk n v1, upd ta n z, a_ends, a_locationVariable, a_locationOuter, a_locationIsClosure, a_locationValue, a_closureToken, a_closureEnvironment, a_frameToken, a_frameEnvironment, a_frameHasFirst, a_frameFirstIsClosure, a_frameFirstValue) v') v1 v2 1 (nI mC) (nI mA) (nI n) ph sols fails lK lV (nI lc) lA f_curLen f_over f_used f_allocs f_nf f_nc f_sp f_rk f_rv tk ta a_lastBits a_cur a_fVar a_fPar a_fK a_fV a_cPos a_cEnv a_sPos a_sEnv a_sSt a_sK a_sV := fun a => br_f (by decide) (br_f a (br_f g0 (br_t g7 (am_tok81 hf (fun y => absurd y (by decide)) (fun _ => hz) ⟨rfl, R z⟩))))
            rcases hv with q | q | q | q
            · exact br_t p0 (br_f n0 (br_f m15 (br_t f1 (br_f (by rw [q]; decide) (br_t q (H60 (by rw [q]; decide)))))))
            · exact br_t p0 (br_f n0 (br_f m15 (br_t f1 (br_f (by rw [q]; decide) (br_f (by rw [q]; decide) (br_t q (H60 (by rw [q]; decide))))))))
            · exact br_t p0 (br_f n0 (br_f m15 (br_t f1 (br_f (by rw [q]; decide) (br_f (by rw [q]; decide) (br_f (by rw [q]; decide) (br_t q (H60 (by rw [q]; decide)))))))))
            · exact br_t p0 (br_f n0 (br_f m15 (br_t f1 (br_f (by rw [q]; decide) (br_f (by rw [q]; decide) (br_f (by rw [q]; decide) (br_f (by rw [q]; decide) (br_t q (H60 (by rw [q]; decide))))))))))
          have YF : (v1 = 1 ∨ v1 = 11 ∨ v1 = 12 ∨ v1 = 14) → (v2 < 0 ∨ ¬ v2 < 8) → wpY_token (fun r' v' => r' = 0 ∧ i_Rel (k + 3) (nI mC, nI mA, nI n, ph, sols, fails, lK, lV, nI (am_nm lb lc), nI lc, lA, f_steering, f_steeringLength, f_pathLeft, f_failed, f_choicesMade, f_allocsMade, f_visiting, f_position, f_environment, f_resultIsClosure, f_resultValue, f_depth, tk, ta, a_ends, a_locationVariable, a_locationOuter, a_locationIsClosure, a_locationValue, a_closureToken, a_closureEnvironment, a_frameToken, a_frameEnvironment, a_frameHasFirst, a_frameFirstIsClosure, a_frameFirstValue) v') (nI mC, nI mA, nI n, ph, sols, fails, lK, lV, nI lc, lA, f_curLen, f_over, f_used, f_allocs, f_nf, f_nc, f_sp, f_rk, f_rv, tk, ta, a_lastBits, a_cur, a_fVar, a_fPar, a_fK, a_fV, a_cPos, a_cEnv, a_sPos, a_sEnv, a_sSt, a_sK, a_sV) v1 v2 := by
            intro hv hg
            have H60 : ¬ v1 = 0 → wY_token_60 (fun r' v' => r' = 0 ∧ i_Rel (k + 3) (nI mC, nI mA, nI n, ph, sols, fails, lK, lV, nI (am_nm lb lc), nI lc, lA, f_steering, f_steeringLength, f_pathLeft, f_failed, f_choicesMade, f_allocsMade, f_visiting, f_position, f_environment, f_resultIsClosure, f_resultValue, f_depth, tk, ta, a_ends, a_locationVariable, a_locationOuter, a_locationIsClosure, a_locationValue, a_closureToken, a_closureEnvironment, a_frameToken, a_frameEnvironment, a_frameHasFirst, a_frameFirstIsClosure, a_frameFirstValue) v') v1 v2 1 (nI mC) (nI mA) (nI n) ph sols fails lK lV (nI lc) lA f_curLen f_over f_used f_allocs f_nf f_nc f_sp f_rk f_rv tk ta a_lastBits a_cur a_fVar a_fPar a_fK a_fV a_cPos a_cEnv a_sPos a_sEnv a_sSt a_sK a_sV := fun a => br_f (by decide) (br_f a (br_c (fun _ => ⟨rfl, J⟩) (fun g0 => br_f (fun g7 => by
              rcases hg with g | g
              · exact g0 g
              · exact g (Int32.lt_of_le_of_lt g7 (by decide))) ⟨rfl, J⟩)))
            rcases hv with q | q | q | q
            · exact br_t p0 (br_f n0 (br_f m15 (br_t f1 (br_f (by rw [q]; decide) (br_t q (H60 (by rw [q]; decide)))))))
            · exact br_t p0 (br_f n0 (br_f m15 (br_t f1 (br_f (by rw [q]; decide) (br_f (by rw [q]; decide) (br_t q (H60 (by rw [q]; decide))))))))
            · exact br_t p0 (br_f n0 (br_f m15 (br_t f1 (br_f (by rw [q]; decide) (br_f (by rw [q]; decide) (br_f (by rw [q]; decide) (br_t q (H60 (by rw [q]; decide)))))))))
            · exact br_t p0 (br_f n0 (br_f m15 (br_t f1 (br_f (by rw [q]; decide) (br_f (by rw [q]; decide) (br_f (by rw [q]; decide) (br_f (by rw [q]; decide) (br_t q (H60 (by rw [q]; decide))))))))))
          refine br_t p0 (br_t f1 (br_f n0 (br_t n15 ?_)))
          have XN : (v1 = 1 ∨ v1 = 11 ∨ v1 = 12 ∨ v1 = 14) → (((1 : Int32) = 0 → wX_token_51 (fun r u' => wpY_token (fun r' v' => r' = r ∧ i_Rel (k + 3) u' v') (nI mC, nI mA, nI n, ph, sols, fails, lK, lV, nI lc, lA, f_curLen, f_over, f_used, f_allocs, f_nf, f_nc, f_sp, f_rk, f_rv, tk, ta, a_lastBits, a_cur, a_fVar, a_fPar, a_fK, a_fV, a_cPos, a_cEnv, a_sPos, a_sEnv, a_sSt, a_sK, a_sV) v1 v2) v1 v2 1 (nI mC) (nI mA) (nI n) ph sols fails lK lV (nI (am_nm lb lc)) (nI lc) lA f_steering f_steeringLength f_pathLeft f_failed f_choicesMade f_allocsMade f_visiting f_position f_environment f_resultIsClosure f_resultValue f_depth tk ta a_ends a_locationVariable a_locationOuter a_locationIsClosure a_locationValue a_closureToken a_closureEnvironment a_frameToken a_frameEnvironment a_frameHasFirst a_frameFirstIsClosure a_frameFirstValue) ∧ (¬ (1 : Int32) = 0 → ((v2 < 0 → wpY_token (fun r' v' => r' = 0 ∧ i_Rel (k + 3) (nI mC, nI mA, nI n, ph, sols, fails, lK, lV, nI (am_nm lb lc), nI lc, lA, f_steering, f_steeringLength, f_pathLeft, f_failed, f_choicesMade, f_allocsMade, f_visiting, f_position, f_environment, f_resultIsClosure, f_resultValue, f_depth, tk, ta, a_ends, a_locationVariable, a_locationOuter, a_locationIsClosure, a_locationValue, a_closureToken, a_closureEnvironment, a_frameToken, a_frameEnvironment, a_frameHasFirst, a_frameFirstIsClosure, a_frameFirstValue) v') (nI mC, nI mA, nI n, ph, sols, fails, lK, lV, nI lc, lA, f_curLen, f_over, f_used, f_allocs, f_nf, f_nc, f_sp, f_rk, f_rv, tk, ta, a_lastBits, a_cur, a_fVar, a_fPar, a_fK, a_fV, a_cPos, a_cEnv, a_sPos, a_sEnv, a_sSt, a_sK, a_sV) v1 v2) ∧ (¬ v2 < 0 → ((v2 < 8 → wX_token_51 (fun r u' => wpY_token (fun r' v' => r' = r ∧ i_Rel (k + 3) u' v') (nI mC, nI mA, nI n, ph, sols, fails, lK, lV, nI lc, lA, f_curLen, f_over, f_used, f_allocs, f_nf, f_nc, f_sp, f_rk, f_rv, tk, ta, a_lastBits, a_cur, a_fVar, a_fPar, a_fK, a_fV, a_cPos, a_cEnv, a_sPos, a_sEnv, a_sSt, a_sK, a_sV) v1 v2) v1 v2 1 (nI mC) (nI mA) (nI n) ph sols fails lK lV (nI (am_nm lb lc)) (nI lc) lA f_steering f_steeringLength f_pathLeft f_failed f_choicesMade f_allocsMade f_visiting f_position f_environment f_resultIsClosure f_resultValue f_depth tk ta a_ends a_locationVariable a_locationOuter a_locationIsClosure a_locationValue a_closureToken a_closureEnvironment a_frameToken a_frameEnvironment a_frameHasFirst a_frameFirstIsClosure a_frameFirstValue) ∧ (¬ v2 < 8 → wpY_token (fun r' v' => r' = 0 ∧ i_Rel (k + 3) (nI mC, nI mA, nI n, ph, sols, fails, lK, lV, nI (am_nm lb lc), nI lc, lA, f_steering, f_steeringLength, f_pathLeft, f_failed, f_choicesMade, f_allocsMade, f_visiting, f_position, f_environment, f_resultIsClosure, f_resultValue, f_depth, tk, ta, a_ends, a_locationVariable, a_locationOuter, a_locationIsClosure, a_locationValue, a_closureToken, a_closureEnvironment, a_frameToken, a_frameEnvironment, a_frameHasFirst, a_frameFirstIsClosure, a_frameFirstValue) v') (nI mC, nI mA, nI n, ph, sols, fails, lK, lV, nI lc, lA, f_curLen, f_over, f_used, f_allocs, f_nf, f_nc, f_sp, f_rk, f_rv, tk, ta, a_lastBits, a_cur, a_fVar, a_fPar, a_fK, a_fV, a_cPos, a_cEnv, a_sPos, a_sEnv, a_sSt, a_sK, a_sV) v1 v2)))))) := fun hv => br_f (by decide) (br_c (fun g => YF hv (Or.inl g)) (fun g0 => br_c (fun g8 => am_tok51 hf (fun y => absurd y (by decide)) (fun y => absurd y (by decide)) (fun _ => rfl) (YN v2 hv g0 g8 rfl)) (fun g8 => YF hv (Or.inr g8))))
          by_cases q1 : v1 = 1
          · exact br_t q1 (XN (Or.inl q1))
          by_cases q11 : v1 = 11
          · exact br_f q1 (br_t q11 (XN (Or.inr (Or.inl q11))))
          by_cases q12 : v1 = 12
          · exact br_f q1 (br_f q11 (br_t q12 (XN (Or.inr (Or.inr (Or.inl q12))))))
          by_cases q14 : v1 = 14
          · exact br_f q1 (br_f q11 (br_f q12 (br_t q14 (XN (Or.inr (Or.inr (Or.inr q14)))))))
          refine br_f q1 (br_f q11 (br_f q12 (br_f q14 (br_t rfl ?_))))
          by_cases q0 : v1 = 0
          · refine am_tok51 hf (z := v2) (fun _ _ => rfl) (fun _ y => absurd q0 y) (fun y => absurd rfl y) ?_
            exact br_t p0 (br_f n0 (br_f m15 (br_t f1 (br_t q0 (br_f (by decide) (br_t q0 (am_tok81 hf (fun y => absurd y (by decide)) (fun _ => rfl) ⟨rfl, R v2⟩)))))))
          · refine am_tok51 hf (z := 0) (fun _ y => absurd y q0) (fun _ _ => rfl) (fun y => absurd rfl y) ?_
            exact br_t p0 (br_f n0 (br_f m15 (br_t f1 (br_f q0 (br_f q1 (br_f q11 (br_f q12 (br_f q14 (br_t rfl (am_tok81 hf (fun _ => rfl) (fun y => absurd rfl y) ⟨rfl, R 0⟩))))))))))
        · exact br_t p0 (br_t f1 (br_f n0 (br_f n15 (br_t p0 (br_f n0 (br_t (Int32.not_le.mp n15) ⟨rfl, J⟩))))))
    · have f1 : ¬ nI n < 32 := nI_nlt (b := 32) (by omega) (by omega)
      exact br_t p0 (br_f f1 (br_t p0 (br_c (fun _ => ⟨rfl, J⟩) (fun _ => br_c (fun _ => ⟨rfl, J⟩) (fun _ => br_f f1 ⟨rfl, J⟩)))))
  · exact br_f p0 (br_f p0 ⟨rfl, J⟩)
section
variable {f_maxChoices f_maxAlloc f_held f_stage f_solutions f_failures f_lastKind f_lastValue f_lastChoices f_lastChoiceCount f_lastAllocCount f_steering f_steeringLength f_pathLeft f_failed f_choicesMade f_allocsMade f_visiting f_position f_environment f_resultIsClosure f_resultValue f_depth : Int32} {a_kinds a_args a_ends a_locationVariable a_locationOuter a_locationIsClosure a_locationValue a_closureToken a_closureEnvironment a_frameToken a_frameEnvironment a_frameHasFirst a_frameFirstIsClosure a_frameFirstValue : Nat → Int32}
theorem am_xcs {post : Int32 → Prop} {n : Nat} {tk : Nat → Int32} (hn : n ≤ 32) (hK : ∀ i, i < n → am_kd (tk i)) (h0 : n = 0 → post 1) (h1 : ¬ n = 0 → post (nI (am_sh tk n 1 0))) : wpX_checkShape post (f_maxChoices, f_maxAlloc, nI n, f_stage, f_solutions, f_failures, f_lastKind, f_lastValue, f_lastChoices, f_lastChoiceCount, f_lastAllocCount, f_steering, f_steeringLength, f_pathLeft, f_failed, f_choicesMade, f_allocsMade, f_visiting, f_position, f_environment, f_resultIsClosure, f_resultValue, f_depth, tk, a_args, a_ends, a_locationVariable, a_locationOuter, a_locationIsClosure, a_locationValue, a_closureToken, a_closureEnvironment, a_frameToken, a_frameEnvironment, a_frameHasFirst, a_frameFirstIsClosure, a_frameFirstValue) := by
  by_cases q : n = 0
  · exact br_t (by rw [q]; rfl) (h0 q)
  · exact br_f (nI_ne0 (by omega) (by omega)) ⟨n + 1, am_xsh hn hK n 1 0 (Nat.zero_add n) (by omega) (h1 q)⟩
theorem am_xfinds {post : SX → Prop} {n : Nat} {tk : Nat → Int32} (hn : n ≤ 32) (hK : ∀ i, i < n → am_kd (tk i)) (h : ∀ en' : Nat → Int32, (∀ j, j < n → en' j = nI (am_eN tk n j)) → post (f_maxChoices, f_maxAlloc, nI n, f_stage, f_solutions, f_failures, f_lastKind, f_lastValue, f_lastChoices, f_lastChoiceCount, f_lastAllocCount, f_steering, f_steeringLength, f_pathLeft, f_failed, f_choicesMade, f_allocsMade, f_visiting, f_position, f_environment, f_resultIsClosure, f_resultValue, f_depth, tk, a_args, en', a_locationVariable, a_locationOuter, a_locationIsClosure, a_locationValue, a_closureToken, a_closureEnvironment, a_frameToken, a_frameEnvironment, a_frameHasFirst, a_frameFirstIsClosure, a_frameFirstValue)) : wpX_findEnds post (f_maxChoices, f_maxAlloc, nI n, f_stage, f_solutions, f_failures, f_lastKind, f_lastValue, f_lastChoices, f_lastChoiceCount, f_lastAllocCount, f_steering, f_steeringLength, f_pathLeft, f_failed, f_choicesMade, f_allocsMade, f_visiting, f_position, f_environment, f_resultIsClosure, f_resultValue, f_depth, tk, a_args, a_ends, a_locationVariable, a_locationOuter, a_locationIsClosure, a_locationValue, a_closureToken, a_closureEnvironment, a_frameToken, a_frameEnvironment, a_frameHasFirst, a_frameFirstIsClosure, a_frameFirstValue) := nm_r (am_pI_s n) ⟨n + 1, am_xfe hn hK n a_ends (Nat.le_refl n) (fun j h1 h2 => absurd h2 (Nat.not_lt.mpr h1)) h⟩
end
theorem i_vc_compile {k : Nat} {u : SX} {v : SY} (I : i_Rel k u v) (hk : k + 3 ≤ 1538) : wpX_compile (fun r u' => wpY_compile (fun r' v' => r' = r ∧ i_Rel (k + 3) u' v') v) u := by
  have I0 := I
  obtain ⟨mC, mA, n, tk, ta, ph, sols, fails, lK, lV, lA, lc, lb, ov, b, L, hP, hX, hY⟩ := I
  obtain ⟨hC, hA, hn, hK, hlc, h2, hVV⟩ := hP
  obtain ⟨f_steering, f_steeringLength, f_pathLeft, f_failed, f_choicesMade, f_allocsMade, f_visiting, f_position, f_environment, f_resultIsClosure, f_resultValue, f_depth, a_ends, a_locationVariable, a_locationOuter, a_locationIsClosure, a_locationValue, a_closureToken, a_closureEnvironment, a_frameToken, a_frameEnvironment, a_frameHasFirst, a_frameFirstIsClosure, a_frameFirstValue, rfl, hx⟩ := hX
  obtain ⟨f_curLen, f_over, f_used, f_allocs, f_nf, f_nc, f_sp, f_rk, f_rv, a_lastBits, a_cur, a_fVar, a_fPar, a_fK, a_fV, a_cPos, a_cEnv, a_sPos, a_sEnv, a_sSt, a_sK, a_sV, rfl, hl, hy⟩ := hY
  have J : i_Rel (k + 3) (nI mC, nI mA, nI n, ph, sols, fails, lK, lV, nI (am_nm lb lc), nI lc, lA, f_steering, f_steeringLength, f_pathLeft, f_failed, f_choicesMade, f_allocsMade, f_visiting, f_position, f_environment, f_resultIsClosure, f_resultValue, f_depth, tk, ta, a_ends, a_locationVariable, a_locationOuter, a_locationIsClosure, a_locationValue, a_closureToken, a_closureEnvironment, a_frameToken, a_frameEnvironment, a_frameHasFirst, a_frameFirstIsClosure, a_frameFirstValue) (nI mC, nI mA, nI n, ph, sols, fails, lK, lV, nI lc, lA, f_curLen, f_over, f_used, f_allocs, f_nf, f_nc, f_sp, f_rk, f_rv, tk, ta, a_lastBits, a_cur, a_fVar, a_fPar, a_fK, a_fV, a_cPos, a_cEnv, a_sPos, a_sEnv, a_sSt, a_sK, a_sV) := I0
  by_cases p0 : ph = 0
  · refine br_t p0 (am_xcs hn hK (fun z => ?_) (fun z => ?_))
    · exact br_f (by decide) (br_t p0 (br_t (by rw [z]; rfl) ⟨rfl, J⟩))
    · have nz : ¬ nI n = 0 := nI_ne0 (by omega) (by omega)
      rcases am_sh_v tk n 1 0 with e | e | e
      · rw [e]
        refine br_t rfl (am_xfinds hn hK (fun en' hen => ⟨n + 1, am_xab hn hen n 0 (Nat.zero_add n) ?_⟩))
        have J4 : i_Rel (k + 3) (nI mC, nI mA, nI n, ph, sols, fails, lK, lV, nI (am_nm lb lc), nI lc, lA, f_steering, f_steeringLength, f_pathLeft, f_failed, f_choicesMade, f_allocsMade, f_visiting, f_position, f_environment, f_resultIsClosure, f_resultValue, f_depth, tk, ta, en', a_locationVariable, a_locationOuter, a_locationIsClosure, a_locationValue, a_closureToken, a_closureEnvironment, a_frameToken, a_frameEnvironment, a_frameHasFirst, a_frameFirstIsClosure, a_frameFirstValue) (nI mC, nI mA, nI n, ph, sols, fails, lK, lV, nI lc, lA, f_curLen, f_over, f_used, f_allocs, f_nf, f_nc, f_sp, f_rk, f_rv, tk, ta, a_lastBits, a_cur, a_fVar, a_fPar, a_fK, a_fV, a_cPos, a_cEnv, a_sPos, a_sEnv, a_sSt, a_sK, a_sV) := ⟨mC, mA, n, tk, ta, ph, sols, fails, lK, lV, lA, lc, lb, ov, b, L, ⟨hC, hA, hn, hK, hlc, h2, hVV⟩, ⟨_, _, _, _, _, _, _, _, _, _, _, _, _, _, _, _, _, _, _, _, _, _, _, _, rfl, fun y => absurd p0 y⟩, ⟨_, _, _, _, _, _, _, _, _, _, _, _, _, _, _, _, _, _, _, _, _, _, rfl, hl, hy⟩⟩
        cases ha : am_ab tk ta n n 0 with
        | true =>
          refine br_f (by decide) (br_t p0 (br_f nz ⟨n + 1, am_ysh hn n 1 0 (Nat.zero_add n) (by omega) (fun _ => ⟨n + 1, am_yab hn n 0 (Nat.zero_add n) (fun _ => ⟨rfl, ?_⟩) (fun y => absurd (ha.symm.trans y) (by decide))⟩) (fun y => absurd (e.symm.trans y) (by decide)) (fun y => absurd (e.symm.trans y) (by decide))⟩))
          exact ⟨mC, mA, n, tk, ta, 1, 0, 0, 0, 0, 0, 0, fun _ => false, false, fun _ => false, 0, ⟨hC, hA, hn, hK, by decide, fun z => absurd z (by decide), fun _ _ => am_V0 mC mA n tk ta⟩, ⟨_, _, _, _, _, _, _, _, _, _, _, _, _, _, _, _, _, _, _, _, _, _, _, _, rfl, fun _ => ⟨hen, rfl, fun _ => ⟨rfl, rfl⟩⟩⟩, ⟨_, _, _, _, _, _, _, _, _, _, _, _, _, _, _, _, _, _, _, _, _, _, rfl, fun j hj => absurd hj (Nat.not_lt_zero j), fun _ => ⟨rfl, fun _ => ⟨rfl, fun j hj => absurd hj (Nat.not_lt_zero j)⟩⟩⟩⟩
        | false =>
          exact br_t rfl (br_t p0 (br_f nz ⟨n + 1, am_ysh hn n 1 0 (Nat.zero_add n) (by omega) (fun _ => ⟨n + 1, am_yab hn n 0 (Nat.zero_add n) (fun y => absurd (ha.symm.trans y) (by decide)) (fun _ => ⟨rfl, J4⟩)⟩) (fun y => absurd (e.symm.trans y) (by decide)) (fun y => absurd (e.symm.trans y) (by decide))⟩))
      · rw [e]
        exact br_f (by decide) (br_t p0 (br_f nz ⟨n + 1, am_ysh hn n 1 0 (Nat.zero_add n) (by omega) (fun y => absurd (e.symm.trans y) (by decide)) (fun _ => ⟨rfl, J⟩) (fun y => absurd (e.symm.trans y) (by decide))⟩))
      · rw [e]
        exact br_f (by decide) (br_t p0 (br_f nz ⟨n + 1, am_ysh hn n 1 0 (Nat.zero_add n) (by omega) (fun y => absurd (e.symm.trans y) (by decide)) (fun y => absurd (e.symm.trans y) (by decide)) (fun _ => ⟨rfl, J⟩)⟩))
  · exact br_f p0 (br_f p0 ⟨rfl, J⟩)
theorem i_vc_restart {k : Nat} {u : SX} {v : SY} (I : i_Rel k u v) (hk : k + 3 ≤ 1538) : wpX_restart (fun r u' => wpY_restart (fun r' v' => r' = r ∧ i_Rel (k + 3) u' v') v) u := by
  have I0 := I
  obtain ⟨mC, mA, n, tk, ta, ph, sols, fails, lK, lV, lA, lc, lb, ov, b, L, hP, hX, hY⟩ := I
  obtain ⟨hC, hA, hn, hK, hlc, h2, hVV⟩ := hP
  obtain ⟨f_steering, f_steeringLength, f_pathLeft, f_failed, f_choicesMade, f_allocsMade, f_visiting, f_position, f_environment, f_resultIsClosure, f_resultValue, f_depth, a_ends, a_locationVariable, a_locationOuter, a_locationIsClosure, a_locationValue, a_closureToken, a_closureEnvironment, a_frameToken, a_frameEnvironment, a_frameHasFirst, a_frameFirstIsClosure, a_frameFirstValue, rfl, hx⟩ := hX
  obtain ⟨f_curLen, f_over, f_used, f_allocs, f_nf, f_nc, f_sp, f_rk, f_rv, a_lastBits, a_cur, a_fVar, a_fPar, a_fK, a_fV, a_cPos, a_cEnv, a_sPos, a_sEnv, a_sSt, a_sK, a_sV, rfl, hl, hy⟩ := hY
  by_cases p0 : ph = 0
  · exact br_t p0 (br_t p0 ⟨rfl, I0⟩)
  · exact br_f p0 (br_f p0 ⟨rfl, ⟨mC, mA, n, tk, ta, 1, 0, 0, 0, 0, 0, 0, fun _ => false, false, fun _ => false, 0, ⟨hC, hA, hn, hK, by decide, fun z => absurd z (by decide), fun _ _ => am_V0 mC mA n tk ta⟩, ⟨_, _, _, _, _, _, _, _, _, _, _, _, _, _, _, _, _, _, _, _, _, _, _, _, rfl, fun _ => ⟨(hx p0).1, rfl, fun _ => ⟨rfl, rfl⟩⟩⟩, ⟨_, _, _, _, _, _, _, _, _, _, _, _, _, _, _, _, _, _, _, _, _, _, rfl, fun j hj => absurd hj (Nat.not_lt_zero j), fun _ => ⟨rfl, fun _ => ⟨rfl, fun j hj => absurd hj (Nat.not_lt_zero j)⟩⟩⟩⟩⟩)
theorem i_vc_phase {k : Nat} {u : SX} {v : SY} (I : i_Rel k u v) (hk : k + 3 ≤ 1538) : wpX_phase (fun r => wpY_phase (fun r' => r' = r ∧ i_Rel (k + 3) u v) v) u := by
  have I0 := I
  obtain ⟨mC, mA, n, tk, ta, ph, sols, fails, lK, lV, lA, lc, lb, ov, b, L, hP, hX, hY⟩ := I
  obtain ⟨hC, hA, hn, hK, hlc, h2, hVV⟩ := hP
  obtain ⟨f_steering, f_steeringLength, f_pathLeft, f_failed, f_choicesMade, f_allocsMade, f_visiting, f_position, f_environment, f_resultIsClosure, f_resultValue, f_depth, a_ends, a_locationVariable, a_locationOuter, a_locationIsClosure, a_locationValue, a_closureToken, a_closureEnvironment, a_frameToken, a_frameEnvironment, a_frameHasFirst, a_frameFirstIsClosure, a_frameFirstValue, rfl, hx⟩ := hX
  obtain ⟨f_curLen, f_over, f_used, f_allocs, f_nf, f_nc, f_sp, f_rk, f_rv, a_lastBits, a_cur, a_fVar, a_fPar, a_fK, a_fV, a_cPos, a_cEnv, a_sPos, a_sEnv, a_sSt, a_sK, a_sV, rfl, hl, hy⟩ := hY
  exact ⟨rfl, I0⟩
theorem i_vc_kind {k : Nat} {u : SX} {v : SY} (I : i_Rel k u v) (hk : k + 3 ≤ 1538) : wpX_kind (fun r => wpY_kind (fun r' => r' = r ∧ i_Rel (k + 3) u v) v) u := by
  have I0 := I
  obtain ⟨mC, mA, n, tk, ta, ph, sols, fails, lK, lV, lA, lc, lb, ov, b, L, hP, hX, hY⟩ := I
  obtain ⟨hC, hA, hn, hK, hlc, h2, hVV⟩ := hP
  obtain ⟨f_steering, f_steeringLength, f_pathLeft, f_failed, f_choicesMade, f_allocsMade, f_visiting, f_position, f_environment, f_resultIsClosure, f_resultValue, f_depth, a_ends, a_locationVariable, a_locationOuter, a_locationIsClosure, a_locationValue, a_closureToken, a_closureEnvironment, a_frameToken, a_frameEnvironment, a_frameHasFirst, a_frameFirstIsClosure, a_frameFirstValue, rfl, hx⟩ := hX
  obtain ⟨f_curLen, f_over, f_used, f_allocs, f_nf, f_nc, f_sp, f_rk, f_rv, a_lastBits, a_cur, a_fVar, a_fPar, a_fK, a_fV, a_cPos, a_cEnv, a_sPos, a_sEnv, a_sSt, a_sK, a_sV, rfl, hl, hy⟩ := hY
  exact ⟨rfl, I0⟩
theorem i_vc_value {k : Nat} {u : SX} {v : SY} (I : i_Rel k u v) (hk : k + 3 ≤ 1538) : wpX_value (fun r => wpY_value (fun r' => r' = r ∧ i_Rel (k + 3) u v) v) u := by
  have I0 := I
  obtain ⟨mC, mA, n, tk, ta, ph, sols, fails, lK, lV, lA, lc, lb, ov, b, L, hP, hX, hY⟩ := I
  obtain ⟨hC, hA, hn, hK, hlc, h2, hVV⟩ := hP
  obtain ⟨f_steering, f_steeringLength, f_pathLeft, f_failed, f_choicesMade, f_allocsMade, f_visiting, f_position, f_environment, f_resultIsClosure, f_resultValue, f_depth, a_ends, a_locationVariable, a_locationOuter, a_locationIsClosure, a_locationValue, a_closureToken, a_closureEnvironment, a_frameToken, a_frameEnvironment, a_frameHasFirst, a_frameFirstIsClosure, a_frameFirstValue, rfl, hx⟩ := hX
  obtain ⟨f_curLen, f_over, f_used, f_allocs, f_nf, f_nc, f_sp, f_rk, f_rv, a_lastBits, a_cur, a_fVar, a_fPar, a_fK, a_fV, a_cPos, a_cEnv, a_sPos, a_sEnv, a_sSt, a_sK, a_sV, rfl, hl, hy⟩ := hY
  exact ⟨rfl, I0⟩
theorem i_vc_solutionCount {k : Nat} {u : SX} {v : SY} (I : i_Rel k u v) (hk : k + 3 ≤ 1538) : wpX_solutionCount (fun r => wpY_solutionCount (fun r' => r' = r ∧ i_Rel (k + 3) u v) v) u := by
  have I0 := I
  obtain ⟨mC, mA, n, tk, ta, ph, sols, fails, lK, lV, lA, lc, lb, ov, b, L, hP, hX, hY⟩ := I
  obtain ⟨hC, hA, hn, hK, hlc, h2, hVV⟩ := hP
  obtain ⟨f_steering, f_steeringLength, f_pathLeft, f_failed, f_choicesMade, f_allocsMade, f_visiting, f_position, f_environment, f_resultIsClosure, f_resultValue, f_depth, a_ends, a_locationVariable, a_locationOuter, a_locationIsClosure, a_locationValue, a_closureToken, a_closureEnvironment, a_frameToken, a_frameEnvironment, a_frameHasFirst, a_frameFirstIsClosure, a_frameFirstValue, rfl, hx⟩ := hX
  obtain ⟨f_curLen, f_over, f_used, f_allocs, f_nf, f_nc, f_sp, f_rk, f_rv, a_lastBits, a_cur, a_fVar, a_fPar, a_fK, a_fV, a_cPos, a_cEnv, a_sPos, a_sEnv, a_sSt, a_sK, a_sV, rfl, hl, hy⟩ := hY
  exact ⟨rfl, I0⟩
theorem i_vc_failureCount {k : Nat} {u : SX} {v : SY} (I : i_Rel k u v) (hk : k + 3 ≤ 1538) : wpX_failureCount (fun r => wpY_failureCount (fun r' => r' = r ∧ i_Rel (k + 3) u v) v) u := by
  have I0 := I
  obtain ⟨mC, mA, n, tk, ta, ph, sols, fails, lK, lV, lA, lc, lb, ov, b, L, hP, hX, hY⟩ := I
  obtain ⟨hC, hA, hn, hK, hlc, h2, hVV⟩ := hP
  obtain ⟨f_steering, f_steeringLength, f_pathLeft, f_failed, f_choicesMade, f_allocsMade, f_visiting, f_position, f_environment, f_resultIsClosure, f_resultValue, f_depth, a_ends, a_locationVariable, a_locationOuter, a_locationIsClosure, a_locationValue, a_closureToken, a_closureEnvironment, a_frameToken, a_frameEnvironment, a_frameHasFirst, a_frameFirstIsClosure, a_frameFirstValue, rfl, hx⟩ := hX
  obtain ⟨f_curLen, f_over, f_used, f_allocs, f_nf, f_nc, f_sp, f_rk, f_rv, a_lastBits, a_cur, a_fVar, a_fPar, a_fK, a_fV, a_cPos, a_cEnv, a_sPos, a_sEnv, a_sSt, a_sK, a_sV, rfl, hl, hy⟩ := hY
  exact ⟨rfl, I0⟩
theorem i_vc_choiceCount {k : Nat} {u : SX} {v : SY} (I : i_Rel k u v) (hk : k + 3 ≤ 1538) : wpX_choiceCount (fun r => wpY_choiceCount (fun r' => r' = r ∧ i_Rel (k + 3) u v) v) u := by
  have I0 := I
  obtain ⟨mC, mA, n, tk, ta, ph, sols, fails, lK, lV, lA, lc, lb, ov, b, L, hP, hX, hY⟩ := I
  obtain ⟨hC, hA, hn, hK, hlc, h2, hVV⟩ := hP
  obtain ⟨f_steering, f_steeringLength, f_pathLeft, f_failed, f_choicesMade, f_allocsMade, f_visiting, f_position, f_environment, f_resultIsClosure, f_resultValue, f_depth, a_ends, a_locationVariable, a_locationOuter, a_locationIsClosure, a_locationValue, a_closureToken, a_closureEnvironment, a_frameToken, a_frameEnvironment, a_frameHasFirst, a_frameFirstIsClosure, a_frameFirstValue, rfl, hx⟩ := hX
  obtain ⟨f_curLen, f_over, f_used, f_allocs, f_nf, f_nc, f_sp, f_rk, f_rv, a_lastBits, a_cur, a_fVar, a_fPar, a_fK, a_fV, a_cPos, a_cEnv, a_sPos, a_sEnv, a_sSt, a_sK, a_sV, rfl, hl, hy⟩ := hY
  exact ⟨rfl, I0⟩
theorem i_vc_allocCount {k : Nat} {u : SX} {v : SY} (I : i_Rel k u v) (hk : k + 3 ≤ 1538) : wpX_allocCount (fun r => wpY_allocCount (fun r' => r' = r ∧ i_Rel (k + 3) u v) v) u := by
  have I0 := I
  obtain ⟨mC, mA, n, tk, ta, ph, sols, fails, lK, lV, lA, lc, lb, ov, b, L, hP, hX, hY⟩ := I
  obtain ⟨hC, hA, hn, hK, hlc, h2, hVV⟩ := hP
  obtain ⟨f_steering, f_steeringLength, f_pathLeft, f_failed, f_choicesMade, f_allocsMade, f_visiting, f_position, f_environment, f_resultIsClosure, f_resultValue, f_depth, a_ends, a_locationVariable, a_locationOuter, a_locationIsClosure, a_locationValue, a_closureToken, a_closureEnvironment, a_frameToken, a_frameEnvironment, a_frameHasFirst, a_frameFirstIsClosure, a_frameFirstValue, rfl, hx⟩ := hX
  obtain ⟨f_curLen, f_over, f_used, f_allocs, f_nf, f_nc, f_sp, f_rk, f_rv, a_lastBits, a_cur, a_fVar, a_fPar, a_fK, a_fV, a_cPos, a_cEnv, a_sPos, a_sEnv, a_sSt, a_sK, a_sV, rfl, hl, hy⟩ := hY
  exact ⟨rfl, I0⟩
theorem i_vc_tokenCount {k : Nat} {u : SX} {v : SY} (I : i_Rel k u v) (hk : k + 3 ≤ 1538) : wpX_tokenCount (fun r => wpY_tokenCount (fun r' => r' = r ∧ i_Rel (k + 3) u v) v) u := by
  have I0 := I
  obtain ⟨mC, mA, n, tk, ta, ph, sols, fails, lK, lV, lA, lc, lb, ov, b, L, hP, hX, hY⟩ := I
  obtain ⟨hC, hA, hn, hK, hlc, h2, hVV⟩ := hP
  obtain ⟨f_steering, f_steeringLength, f_pathLeft, f_failed, f_choicesMade, f_allocsMade, f_visiting, f_position, f_environment, f_resultIsClosure, f_resultValue, f_depth, a_ends, a_locationVariable, a_locationOuter, a_locationIsClosure, a_locationValue, a_closureToken, a_closureEnvironment, a_frameToken, a_frameEnvironment, a_frameHasFirst, a_frameFirstIsClosure, a_frameFirstValue, rfl, hx⟩ := hX
  obtain ⟨f_curLen, f_over, f_used, f_allocs, f_nf, f_nc, f_sp, f_rk, f_rv, a_lastBits, a_cur, a_fVar, a_fPar, a_fK, a_fV, a_cPos, a_cEnv, a_sPos, a_sEnv, a_sSt, a_sK, a_sV, rfl, hl, hy⟩ := hY
  exact ⟨rfl, I0⟩
theorem i_vc_choiceBit {k : Nat} {u : SX} {v : SY} (I : i_Rel k u v) (hk : k + 3 ≤ 1538) (v1 : Int32) : wpX_choiceBit (fun r => wpY_choiceBit (fun r' => r' = r ∧ i_Rel (k + 3) u v) v v1) u v1 := by
  have I0 := I
  obtain ⟨mC, mA, n, tk, ta, ph, sols, fails, lK, lV, lA, lc, lb, ov, b, L, hP, hX, hY⟩ := I
  obtain ⟨hC, hA, hn, hK, hlc, h2, hVV⟩ := hP
  obtain ⟨f_steering, f_steeringLength, f_pathLeft, f_failed, f_choicesMade, f_allocsMade, f_visiting, f_position, f_environment, f_resultIsClosure, f_resultValue, f_depth, a_ends, a_locationVariable, a_locationOuter, a_locationIsClosure, a_locationValue, a_closureToken, a_closureEnvironment, a_frameToken, a_frameEnvironment, a_frameHasFirst, a_frameFirstIsClosure, a_frameFirstValue, rfl, hx⟩ := hX
  obtain ⟨f_curLen, f_over, f_used, f_allocs, f_nf, f_nc, f_sp, f_rk, f_rv, a_lastBits, a_cur, a_fVar, a_fPar, a_fK, a_fV, a_cPos, a_cEnv, a_sPos, a_sEnv, a_sSt, a_sK, a_sV, rfl, hl, hy⟩ := hY
  have J : i_Rel (k + 3) (nI mC, nI mA, nI n, ph, sols, fails, lK, lV, nI (am_nm lb lc), nI lc, lA, f_steering, f_steeringLength, f_pathLeft, f_failed, f_choicesMade, f_allocsMade, f_visiting, f_position, f_environment, f_resultIsClosure, f_resultValue, f_depth, tk, ta, a_ends, a_locationVariable, a_locationOuter, a_locationIsClosure, a_locationValue, a_closureToken, a_closureEnvironment, a_frameToken, a_frameEnvironment, a_frameHasFirst, a_frameFirstIsClosure, a_frameFirstValue) (nI mC, nI mA, nI n, ph, sols, fails, lK, lV, nI lc, lA, f_curLen, f_over, f_used, f_allocs, f_nf, f_nc, f_sp, f_rk, f_rv, tk, ta, a_lastBits, a_cur, a_fVar, a_fPar, a_fK, a_fV, a_cPos, a_cEnv, a_sPos, a_sEnv, a_sSt, a_sK, a_sV) := I0
  by_cases n0 : v1 < 0
  · exact br_t n0 (br_t n0 ⟨rfl, J⟩)
  · obtain ⟨j, hj, rfl⟩ := nI_of n0
    by_cases q : j < lc
    · have hc : (nI j).toNatClampNeg = j := nI_clamp hj
      have e1 : (nI lc - 1) - nI j = nI lc - nI (j + 1) := by
        rw [am_sub (by omega), show nI lc - 1 = nI lc - nI 1 from rfl, am_sub (by omega), am_sub (by omega)]
        exact congrArg nI (by omega)
      have eb : (nI (am_nm lb lc) >>> (((nI lc - 1) - nI j) &&& 31)) &&& 1 = am_bI (lb j) := by rw [e1, am_bit q hlc, am_bI_n]
      refine br_f n0 (br_t (nI_lt q (by omega)) (br_f n0 (br_f (nI_ge q (by omega)) (br_t (nI_lt (b := 6) (by omega) (by decide)) ⟨vp_in_nI (by omega) (by decide), ?_, J⟩))))
      rw [hc, hl j q, eb]
    · have q2 : lc ≤ j := by omega
      exact br_f n0 (br_f (nI_nlt q2 hj) (br_f n0 (br_t (nI_le q2 hj) ⟨rfl, J⟩)))
theorem i_vc_tokenKind {k : Nat} {u : SX} {v : SY} (I : i_Rel k u v) (hk : k + 3 ≤ 1538) (v1 : Int32) : wpX_tokenKind (fun r => wpY_tokenKind (fun r' => r' = r ∧ i_Rel (k + 3) u v) v v1) u v1 := by
  have I0 := I
  obtain ⟨mC, mA, n, tk, ta, ph, sols, fails, lK, lV, lA, lc, lb, ov, b, L, hP, hX, hY⟩ := I
  obtain ⟨hC, hA, hn, hK, hlc, h2, hVV⟩ := hP
  obtain ⟨f_steering, f_steeringLength, f_pathLeft, f_failed, f_choicesMade, f_allocsMade, f_visiting, f_position, f_environment, f_resultIsClosure, f_resultValue, f_depth, a_ends, a_locationVariable, a_locationOuter, a_locationIsClosure, a_locationValue, a_closureToken, a_closureEnvironment, a_frameToken, a_frameEnvironment, a_frameHasFirst, a_frameFirstIsClosure, a_frameFirstValue, rfl, hx⟩ := hX
  obtain ⟨f_curLen, f_over, f_used, f_allocs, f_nf, f_nc, f_sp, f_rk, f_rv, a_lastBits, a_cur, a_fVar, a_fPar, a_fK, a_fV, a_cPos, a_cEnv, a_sPos, a_sEnv, a_sSt, a_sK, a_sV, rfl, hl, hy⟩ := hY
  have J : i_Rel (k + 3) (nI mC, nI mA, nI n, ph, sols, fails, lK, lV, nI (am_nm lb lc), nI lc, lA, f_steering, f_steeringLength, f_pathLeft, f_failed, f_choicesMade, f_allocsMade, f_visiting, f_position, f_environment, f_resultIsClosure, f_resultValue, f_depth, tk, ta, a_ends, a_locationVariable, a_locationOuter, a_locationIsClosure, a_locationValue, a_closureToken, a_closureEnvironment, a_frameToken, a_frameEnvironment, a_frameHasFirst, a_frameFirstIsClosure, a_frameFirstValue) (nI mC, nI mA, nI n, ph, sols, fails, lK, lV, nI lc, lA, f_curLen, f_over, f_used, f_allocs, f_nf, f_nc, f_sp, f_rk, f_rv, tk, ta, a_lastBits, a_cur, a_fVar, a_fPar, a_fK, a_fV, a_cPos, a_cEnv, a_sPos, a_sEnv, a_sSt, a_sK, a_sV) := I0
  unfold wpX_tokenKind
  by_cases n0 : v1 < 0
  · exact br_t n0 (br_t rfl (br_t n0 ⟨rfl, J⟩))
  · obtain ⟨j, hj, rfl⟩ := nI_of n0
    by_cases q : j < n
    · have vv : vp_in (nI j) 32 := vp_in_nI (by omega) (by decide)
      exact br_f n0 (br_f (nI_ge q (by omega)) (br_f (by decide) ⟨vv, br_f n0 (br_t (nI_lt q (by omega)) ⟨vv, rfl, J⟩)⟩))
    · exact br_f n0 (br_t (nI_le (by omega) hj) (br_t rfl (br_f n0 (br_f (nI_nlt (by omega) hj) ⟨rfl, J⟩))))
theorem i_vc_tokenArg {k : Nat} {u : SX} {v : SY} (I : i_Rel k u v) (hk : k + 3 ≤ 1538) (v1 : Int32) : wpX_tokenArg (fun r => wpY_tokenArg (fun r' => r' = r ∧ i_Rel (k + 3) u v) v v1) u v1 := by
  have I0 := I
  obtain ⟨mC, mA, n, tk, ta, ph, sols, fails, lK, lV, lA, lc, lb, ov, b, L, hP, hX, hY⟩ := I
  obtain ⟨hC, hA, hn, hK, hlc, h2, hVV⟩ := hP
  obtain ⟨f_steering, f_steeringLength, f_pathLeft, f_failed, f_choicesMade, f_allocsMade, f_visiting, f_position, f_environment, f_resultIsClosure, f_resultValue, f_depth, a_ends, a_locationVariable, a_locationOuter, a_locationIsClosure, a_locationValue, a_closureToken, a_closureEnvironment, a_frameToken, a_frameEnvironment, a_frameHasFirst, a_frameFirstIsClosure, a_frameFirstValue, rfl, hx⟩ := hX
  obtain ⟨f_curLen, f_over, f_used, f_allocs, f_nf, f_nc, f_sp, f_rk, f_rv, a_lastBits, a_cur, a_fVar, a_fPar, a_fK, a_fV, a_cPos, a_cEnv, a_sPos, a_sEnv, a_sSt, a_sK, a_sV, rfl, hl, hy⟩ := hY
  have J : i_Rel (k + 3) (nI mC, nI mA, nI n, ph, sols, fails, lK, lV, nI (am_nm lb lc), nI lc, lA, f_steering, f_steeringLength, f_pathLeft, f_failed, f_choicesMade, f_allocsMade, f_visiting, f_position, f_environment, f_resultIsClosure, f_resultValue, f_depth, tk, ta, a_ends, a_locationVariable, a_locationOuter, a_locationIsClosure, a_locationValue, a_closureToken, a_closureEnvironment, a_frameToken, a_frameEnvironment, a_frameHasFirst, a_frameFirstIsClosure, a_frameFirstValue) (nI mC, nI mA, nI n, ph, sols, fails, lK, lV, nI lc, lA, f_curLen, f_over, f_used, f_allocs, f_nf, f_nc, f_sp, f_rk, f_rv, tk, ta, a_lastBits, a_cur, a_fVar, a_fPar, a_fK, a_fV, a_cPos, a_cEnv, a_sPos, a_sEnv, a_sSt, a_sK, a_sV) := I0
  unfold wpX_tokenArg
  by_cases n0 : v1 < 0
  · exact br_t n0 (br_t rfl (br_t n0 ⟨rfl, J⟩))
  · obtain ⟨j, hj, rfl⟩ := nI_of n0
    by_cases q : j < n
    · have vv : vp_in (nI j) 32 := vp_in_nI (by omega) (by decide)
      exact br_f n0 (br_f (nI_ge q (by omega)) (br_f (by decide) ⟨vv, br_f n0 (br_t (nI_lt q (by omega)) ⟨vv, rfl, J⟩)⟩))
    · exact br_f n0 (br_t (nI_le (by omega) hj) (br_t rfl (br_f n0 (br_f (nI_nlt (by omega) hj) ⟨rfl, J⟩))))
end
