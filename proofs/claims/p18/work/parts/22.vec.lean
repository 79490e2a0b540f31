/-! p18: the vectors in their order -/
def pe_b (k v : Nat) : Nat → Bool := fun i => decide (i < k ∧ v / 2 ^ (k - 1 - i) % 2 = 1)
theorem pe_b_i {k v i x : Nat} (hi : i < k) (h : v / 2 ^ (k - 1 - i) % 2 = x) : am_b1 (pe_b k v i) = x := by
  have hx : x < 2 := by rw [← h]; exact Nat.mod_lt _ (by decide)
  unfold pe_b
  by_cases q : x = 1
  · rw [decide_eq_true ⟨hi, h.trans q⟩, q]
    rfl
  · rw [decide_eq_false (fun z => q (h.symm.trans z.2))]
    show 0 = x
    omega
theorem pe_b1_inj {x y : Bool} (h : am_b1 x = am_b1 y) : x = y := by
  cases x <;> cases y <;> first | rfl | exact absurd h (by decide)
theorem pe_b_hi {k v i : Nat} (h : k ≤ i) : pe_b k v i = false := decide_eq_false (fun z => absurd z.1 (Nat.not_lt.mpr h))
/-- the vector of a number whose first u bits are those of b -/
theorem pe_b_agree {b : Nat → Bool} {k u v : Nat} (hu : u ≤ k) (h : v / 2 ^ (k - u) = am_nm b u) : ∀ i, i < u → pe_b k v i = b i := by
  intro i hi
  apply pe_b1_inj
  apply pe_b_i (by omega)
  have e : k - 1 - i = (k - u) + (u - (i + 1)) := by omega
  have h2 := am_nm_sh b (i + 1) (u - (i + 1))
  have e2 : i + 1 + (u - (i + 1)) = u := by omega
  rw [e2] at h2
  rw [e, Nat.pow_add, ← Nat.div_div_eq_div_mul, h, h2, am_nm_odd]
theorem pe_b_nm {b : Nat → Bool} {k : Nat} (hz : ∀ j, k ≤ j → b j = false) : pe_b k (am_nm b k) = b := by
  funext i
  by_cases h : i < k
  · refine pe_b_agree (Nat.le_refl k) ?_ i h
    rw [Nat.sub_self, Nat.pow_zero, Nat.div_one]
  · rw [pe_b_hi (by omega), hz i (by omega)]
theorem pe_nm_z {b : Nat → Bool} {u : Nat} (hz : ∀ j, u ≤ j → b j = false) : ∀ d, am_nm b (u + d) = am_nm b u * 2 ^ d := by
  intro d
  induction d with
  | zero => rw [Nat.add_zero, Nat.pow_zero, Nat.mul_one]
  | succ d ih =>
    have e : u + (d + 1) = u + d + 1 := by omega
    have e1 : am_b1 (b (u + d)) = 0 := by rw [hz (u + d) (by omega)]; rfl
    rw [e, am_nm_s, e1, ih, Nat.pow_succ, Nat.add_zero, Nat.mul_comm 2, Nat.mul_assoc]
theorem pe_nm_next {b : Nat → Bool} {q : Nat} : ∀ u, am_la b u = q + 1 → am_nm (am_sb b q) u = am_nm b u + 1 := by
  intro u
  induction u with
  | zero => intro h; exact absurd h (by show ¬ (0 = q + 1); omega)
  | succ u ih =>
    intro h
    cases hb : b u with
    | true =>
      rw [am_la_t hb] at h
      have hq := (am_la_q _ h).1
      have e1 : am_b1 (am_sb b q u) = 0 := by rw [am_sb_hi hq]; rfl
      have e2 : am_b1 (b u) = 1 := by rw [hb]; rfl
      rw [am_nm_s, am_nm_s, e1, e2, ih h]
      omega
    | false =>
      rw [am_la_f hb] at h
      have e : q = u := by omega
      have e2 : am_b1 (b u) = 0 := by rw [hb]; rfl
      rw [e, am_nm_sb, am_nm_s, e2]
theorem pe_nm_top {b : Nat → Bool} : ∀ u, am_la b u = 0 → am_nm b u + 1 = 2 ^ u := by
  intro u
  induction u with
  | zero => intro _; rfl
  | succ u ih =>
    intro h
    cases hb : b u with
    | true =>
      rw [am_la_t hb] at h
      have e2 : am_b1 (b u) = 1 := by rw [hb]; rfl
      have h2 := ih h
      rw [am_nm_s, e2, Nat.pow_succ]
      omega
    | false =>
      rw [am_la_f hb] at h
      omega
/-- numbers from N * D on, below (N + 1) * D: the same bits on top -/
theorem pe_div {v N D : Nat} (hD : 0 < D) (h1 : N * D ≤ v) (h2 : v < (N + 1) * D) : v / D = N := by
  have h3 : v / D < N + 1 := (Nat.div_lt_iff_lt_mul hD).mpr h2
  have h4 : N ≤ v / D := (Nat.le_div_iff_mul_le hD).mpr h1
  omega
theorem pe_mod {v N D : Nat} (h : v / D = N) (hv : v ≠ N * D) : v % D ≠ 0 := by
  intro z
  have h2 := Nat.div_add_mod v D
  rw [h, z, Nat.add_zero, Nat.mul_comm] at h2
  exact hv h2.symm
theorem pe_mod0 (N D : Nat) : N * D % D = 0 := Nat.mul_mod_left N D
section
variable {n : Nat} {tk ta : Nat → Int32} {mC mA : Nat}
/-- two vectors that agree on the choices of a path: the same path -/
theorem pe_same {b b2 : Nat → Bool} (h : ∀ i, i < am_us (am_run n tk ta mC mA b).2.2.2 → b i = b2 i) : am_run n tk ta mC mA b2 = am_run n tk ta mC mA b := by
  rcases am_ev_D (n := n) (tk := tk) (ta := ta) (mC := mC) (mA := mA) h 545 0 (-1) am_s0 with ⟨_, h2⟩ | ⟨h1, _⟩
  · exact h2
  · exact absurd h1 (Nat.lt_irrefl _)
end
