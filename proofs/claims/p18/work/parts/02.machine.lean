/-! the store of a path: us choices made, nf locations (variable, outer, kind, value), nc closures (token, environment); xl, xc: the component's names of them -/
abbrev am_S : Type := Nat × Nat × Nat × (Nat → Int32) × (Nat → Int32) × (Nat → Int32) × (Nat → Int32) × (Nat → Int32) × (Nat → Int32) × (Nat → Nat) × (Nat → Nat)
def am_us (s : am_S) : Nat := s.1
def am_nf (s : am_S) : Nat := s.2.1
def am_nc (s : am_S) : Nat := s.2.2.1
def am_fVar (s : am_S) : Nat → Int32 := s.2.2.2.1
def am_fPar (s : am_S) : Nat → Int32 := s.2.2.2.2.1
def am_fK (s : am_S) : Nat → Int32 := s.2.2.2.2.2.1
def am_fV (s : am_S) : Nat → Int32 := s.2.2.2.2.2.2.1
def am_cPos (s : am_S) : Nat → Int32 := s.2.2.2.2.2.2.2.1
def am_cEnv (s : am_S) : Nat → Int32 := s.2.2.2.2.2.2.2.2.1
def am_xl (s : am_S) : Nat → Nat := s.2.2.2.2.2.2.2.2.2.1
def am_xc (s : am_S) : Nat → Nat := s.2.2.2.2.2.2.2.2.2.2
def am_al (s : am_S) : Nat := am_nf s + am_nc s
def am_un (f : Nat → Nat) (k x : Nat) : Nat → Nat := fun j => if j = k then x else f j
theorem am_un_s {f : Nat → Nat} {k x : Nat} : am_un f k x k = x := if_pos rfl
theorem am_un_n {f : Nat → Nat} {k j x : Nat} (h : j ≠ k) : am_un f k x j = f j := if_neg h
theorem am_up_s {f : Nat → Int32} {k : Nat} {x : Int32} : upd f k x k = x := if_pos rfl
theorem am_up_n {f : Nat → Int32} {k j : Nat} {x : Int32} (h : j ≠ k) : upd f k x j = f j := if_neg h
def am_s0 : am_S := (0, 0, 0, fun _ => 0, fun _ => 0, fun _ => 0, fun _ => 0, fun _ => 0, fun _ => 0, fun _ => 0, fun _ => 0)
/-- a choice made -/
def am_tick (s : am_S) : am_S := (am_us s + 1, am_nf s, am_nc s, am_fVar s, am_fPar s, am_fK s, am_fV s, am_cPos s, am_cEnv s, am_xl s, am_xc s)
/-- a new location -/
def am_nl (x e k v : Int32) (s : am_S) : am_S := (am_us s, am_nf s + 1, am_nc s, upd (am_fVar s) (am_nf s) x, upd (am_fPar s) (am_nf s) e, upd (am_fK s) (am_nf s) k, upd (am_fV s) (am_nf s) v, am_cPos s, am_cEnv s, am_un (am_xl s) (am_nf s) (am_al s), am_xc s)
/-- a new closure -/
def am_nk (p : Nat) (e : Int32) (s : am_S) : am_S := (am_us s, am_nf s, am_nc s + 1, am_fVar s, am_fPar s, am_fK s, am_fV s, upd (am_cPos s) (am_nc s) (nI p), upd (am_cEnv s) (am_nc s) e, am_xl s, am_un (am_xc s) (am_nc s) (am_al s))
/-- location f set -/
def am_sl (f : Nat) (k v : Int32) (s : am_S) : am_S := (am_us s, am_nf s, am_nc s, am_fVar s, am_fPar s, upd (am_fK s) f k, upd (am_fV s) f v, am_cPos s, am_cEnv s, am_xl s, am_xc s)
/-- the location of a variable -/
def am_lk (s : am_S) (v : Int32) : Nat → Int32 → Int32
  | 0, _ => -1
  | k + 1, e => if e < 0 then -1 else if am_fVar s e.toNatClampNeg = v then e else am_lk s v k (am_fPar s e.toNatClampNeg)
theorem am_lk_s (s : am_S) (v : Int32) (k : Nat) (e : Int32) : am_lk s v (k + 1) e = if e < 0 then -1 else if am_fVar s e.toNatClampNeg = v then e else am_lk s v k (am_fPar s e.toNatClampNeg) := rfl
theorem am_lk_m (s : am_S) (v : Int32) : ∀ k, am_lk s v k (-1) = -1 := by
  intro k
  cases k with
  | zero => rfl
  | succ k => rw [am_lk_s, if_pos (by decide)]
/-- an evaluation's end: did it succeed, kind and value, the store -/
abbrev am_R : Type := Bool × Int32 × Int32 × am_S
def am_fl (s : am_S) : am_R := (false, 0, 0, s)
def am_bd (r : am_R) (f : Int32 → Int32 → am_S → am_R) : am_R := if r.1 = true then f r.2.1 r.2.2.1 r.2.2.2 else am_fl r.2.2.2
theorem am_bd_t {r : am_R} {f : Int32 → Int32 → am_S → am_R} (h : r.1 = true) : am_bd r f = f r.2.1 r.2.2.1 r.2.2.2 := if_pos h
theorem am_bd_f {r : am_R} {f : Int32 → Int32 → am_S → am_R} (h : r.1 = false) : am_bd r f = am_fl r.2.2.2 := if_neg (by rw [h]; decide)
def am_rd (f : Int32) (s : am_S) : am_R := if f < 0 then am_fl s else (true, am_fK s f.toNatClampNeg, am_fV s f.toNatClampNeg, s)
def am_wr (f k v : Int32) (s : am_S) : am_R := if f < 0 then am_fl s else (true, k, v, am_sl f.toNatClampNeg k v s)
def am_op (k x y : Int32) : Int32 := if k = 2 then x + y else if k = 3 then x - y else if k = 4 then x * y else if k = 5 then (if x < y then 1 else 0) else (if x = y then 1 else 0)
section
variable (n : Nat) (tk ta : Nat → Int32) (mC mA : Nat) (b : Nat → Bool) (E : Nat → Int32 → am_S → am_R) (p : Nat) (e : Int32) (s : am_S)
def am_q7 (v : Int32) : Nat := if v = 0 then am_eN tk n (am_eN tk n (p + 1)) else am_eN tk n (p + 1)
def am_c7 (k v : Int32) (s1 : am_S) : am_R := if k = 1 then E (am_q7 n tk p v) e s1 else am_fl s1
def am_e7 : am_R := am_bd (E (p + 1) e s) (am_c7 n tk E p e)
def am_q8 (x : Bool) : Nat := if x = true then am_eN tk n (p + 1) else p + 1
def am_e8 : am_R := if mC ≤ am_us s then am_fl s else E (am_q8 n tk p (b (am_us s))) e (am_tick s)
def am_c10 (k v : Int32) (s1 : am_S) : am_R := if k = 1 ∧ ¬ v = 0 then E (am_eN tk n (p + 1)) e s1 else am_fl s1
def am_e10 : am_R := am_bd (E (p + 1) e s) (am_c10 n tk E p e)
def am_c11 (k v : Int32) (s1 : am_S) : am_R := if mA ≤ am_al s1 then am_fl s1 else E (am_eN tk n (p + 1)) (nI (am_nf s1)) (am_nl (ta p) e k v s1)
def am_e11 : am_R := am_bd (E (p + 1) e s) (am_c11 n tk ta mA E p e)
def am_e12 : am_R := if mA ≤ am_al s then am_fl s else (true, 2, nI (am_nc s), am_nk p e s)
def am_ap (k v k2 v2 : Int32) (s2 : am_S) : am_R := if k = 2 then (if mA ≤ am_al s2 then am_fl s2 else E ((am_cPos s2 v.toNatClampNeg).toNatClampNeg + 1) (nI (am_nf s2)) (am_nl (ta (am_cPos s2 v.toNatClampNeg).toNatClampNeg) (am_cEnv s2 v.toNatClampNeg) k2 v2 s2)) else am_fl s2
def am_c13 (k v : Int32) (s1 : am_S) : am_R := am_bd (E (am_eN tk n (p + 1)) e s1) (am_ap ta mA E k v)
def am_e13 : am_R := am_bd (E (p + 1) e s) (am_c13 n tk ta mA E p e)
def am_c14 (k v : Int32) (s1 : am_S) : am_R := am_wr (am_lk s1 (ta p) 17 e) k v s1
def am_e14 : am_R := am_bd (E (p + 1) e s) (am_c14 ta p e)
def am_c15 (_ _ : Int32) (s1 : am_S) : am_R := E (am_eN tk n (p + 1)) e s1
def am_e15 : am_R := am_bd (E (p + 1) e s) (am_c15 n tk E p e)
def am_ca (c k v k2 v2 : Int32) (s2 : am_S) : am_R := if k = 1 ∧ k2 = 1 then (true, 1, am_op c v v2, s2) else am_fl s2
def am_c2 (k v : Int32) (s1 : am_S) : am_R := am_bd (E (am_eN tk n (p + 1)) e s1) (am_ca (tk p) k v)
def am_e2 : am_R := am_bd (E (p + 1) e s) (am_c2 n tk E p e)
/-- one visit, with the evaluator E for the operands -/
def am_stp : am_R :=
  if n ≤ p then am_fl s
  else if tk p = 0 then (true, 1, ta p, s)
  else if tk p = 1 then am_rd (am_lk s (ta p) 17 e) s
  else if tk p = 7 then am_e7 n tk E p e s
  else if tk p = 8 then am_e8 n tk mC b E p e s
  else if tk p = 9 then am_fl s
  else if tk p = 10 then am_e10 n tk E p e s
  else if tk p = 11 then am_e11 n tk ta mA E p e s
  else if tk p = 12 then am_e12 mA p e s
  else if tk p = 13 then am_e13 n tk ta mA E p e s
  else if tk p = 14 then am_e14 ta E p e s
  else if tk p = 15 then am_e15 n tk E p e s
  else am_e2 n tk E p e s
end
/-- the kinds of tokens -/
def am_kd (k : Int32) : Prop := k = 0 ∨ k = 1 ∨ k = 2 ∨ k = 3 ∨ k = 4 ∨ k = 5 ∨ k = 6 ∨ k = 7 ∨ k = 8 ∨ k = 9 ∨ k = 10 ∨ k = 11 ∨ k = 12 ∨ k = 13 ∨ k = 14 ∨ k = 15
def am_bin (k : Int32) : Prop := k = 2 ∨ k = 3 ∨ k = 4 ∨ k = 5 ∨ k = 6
theorem am_cases {n : Nat} {tk ta : Nat → Int32} {mC mA : Nat} {b : Nat → Bool} {E : Nat → Int32 → am_S → am_R} {p : Nat} {e : Int32} {s : am_S} {P : am_R → Prop}
    (hn : n ≤ p → P (am_fl s))
    (h0 : p < n → tk p = 0 → P (true, 1, ta p, s))
    (h1 : p < n → tk p = 1 → P (am_rd (am_lk s (ta p) 17 e) s))
    (h7 : p < n → tk p = 7 → P (am_e7 n tk E p e s))
    (h8 : p < n → tk p = 8 → P (am_e8 n tk mC b E p e s))
    (h9 : p < n → tk p = 9 → P (am_fl s))
    (h10 : p < n → tk p = 10 → P (am_e10 n tk E p e s))
    (h11 : p < n → tk p = 11 → P (am_e11 n tk ta mA E p e s))
    (h12 : p < n → tk p = 12 → P (am_e12 mA p e s))
    (h13 : p < n → tk p = 13 → P (am_e13 n tk ta mA E p e s))
    (h14 : p < n → tk p = 14 → P (am_e14 ta E p e s))
    (h15 : p < n → tk p = 15 → P (am_e15 n tk E p e s))
    (h2 : p < n → (¬ tk p = 0 ∧ ¬ tk p = 1 ∧ ¬ tk p = 7 ∧ ¬ tk p = 8 ∧ ¬ tk p = 9 ∧ ¬ tk p = 10 ∧ ¬ tk p = 11 ∧ ¬ tk p = 12 ∧ ¬ tk p = 13 ∧ ¬ tk p = 14 ∧ ¬ tk p = 15) → P (am_e2 n tk E p e s)) :
    P (am_stp n tk ta mC mA b E p e s) := by
  unfold am_stp
  by_cases q : n ≤ p
  · rw [if_pos q]; exact hn q
  rw [if_neg q]
  have hp : p < n := Nat.lt_of_not_le q
  by_cases k0 : tk p = 0
  · rw [if_pos k0]; exact h0 hp k0
  rw [if_neg k0]
  by_cases k1 : tk p = 1
  · rw [if_pos k1]; exact h1 hp k1
  rw [if_neg k1]
  by_cases k7 : tk p = 7
  · rw [if_pos k7]; exact h7 hp k7
  rw [if_neg k7]
  by_cases k8 : tk p = 8
  · rw [if_pos k8]; exact h8 hp k8
  rw [if_neg k8]
  by_cases k9 : tk p = 9
  · rw [if_pos k9]; exact h9 hp k9
  rw [if_neg k9]
  by_cases k10 : tk p = 10
  · rw [if_pos k10]; exact h10 hp k10
  rw [if_neg k10]
  by_cases k11 : tk p = 11
  · rw [if_pos k11]; exact h11 hp k11
  rw [if_neg k11]
  by_cases k12 : tk p = 12
  · rw [if_pos k12]; exact h12 hp k12
  rw [if_neg k12]
  by_cases k13 : tk p = 13
  · rw [if_pos k13]; exact h13 hp k13
  rw [if_neg k13]
  by_cases k14 : tk p = 14
  · rw [if_pos k14]; exact h14 hp k14
  rw [if_neg k14]
  by_cases k15 : tk p = 15
  · rw [if_pos k15]; exact h15 hp k15
  rw [if_neg k15]
  exact h2 hp ⟨k0, k1, k7, k8, k9, k10, k11, k12, k13, k14, k15⟩
theorem am_binOf {k : Int32} (h : am_kd k) (g : ¬ k = 0 ∧ ¬ k = 1 ∧ ¬ k = 7 ∧ ¬ k = 8 ∧ ¬ k = 9 ∧ ¬ k = 10 ∧ ¬ k = 11 ∧ ¬ k = 12 ∧ ¬ k = 13 ∧ ¬ k = 14 ∧ ¬ k = 15) : am_bin k := by
  obtain ⟨g0, g1, g7, g8, g9, g10, g11, g12, g13, g14, g15⟩ := g
  rcases h with h | h | h | h | h | h | h | h | h | h | h | h | h | h | h | h
  · exact absurd h g0
  · exact absurd h g1
  · exact Or.inl h
  · exact Or.inr (Or.inl h)
  · exact Or.inr (Or.inr (Or.inl h))
  · exact Or.inr (Or.inr (Or.inr (Or.inl h)))
  · exact Or.inr (Or.inr (Or.inr (Or.inr h)))
  · exact absurd h g7
  · exact absurd h g8
  · exact absurd h g9
  · exact absurd h g10
  · exact absurd h g11
  · exact absurd h g12
  · exact absurd h g13
  · exact absurd h g14
  · exact absurd h g15
def am_ev (n : Nat) (tk ta : Nat → Int32) (mC mA : Nat) (b : Nat → Bool) : Nat → Nat → Int32 → am_S → am_R
  | 0 => fun _ _ s => am_fl s
  | F + 1 => am_stp n tk ta mC mA b (am_ev n tk ta mC mA b F)
theorem am_ev_s (n : Nat) (tk ta : Nat → Int32) (mC mA : Nat) (b : Nat → Bool) (F p : Nat) (e : Int32) (s : am_S) : am_ev n tk ta mC mA b (F + 1) p e s = am_stp n tk ta mC mA b (am_ev n tk ta mC mA b F) p e s := rfl
