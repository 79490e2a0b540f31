/-! what both of whole's sides use -/
def am_mx (L0 u : Nat) : Nat := L0 + (u - L0)
def am_bI : Bool → Int32
  | true => 1
  | false => 0
theorem am_bI_n (x : Bool) : am_bI x = nI (am_b1 x) := by cases x <;> decide
theorem am_sub {a b : Nat} (h : b ≤ a) : nI a - nI b = nI (a - b) := by
  obtain ⟨c, rfl⟩ : ∃ c, a = c + b := ⟨a - b, by omega⟩
  rw [← nI_add, Int32.add_sub_cancel, Nat.add_sub_cancel]
theorem am_m1 (n : Nat) : nI (n + 1) + (-1) = nI n := by
  rw [← nI_1, Int32.add_assoc, show (1 : Int32) + (-1) = 0 from rfl, Int32.add_zero]
def am_pI : Nat → Int32
  | 0 => -1
  | k + 1 => nI k
theorem am_pI_m (k : Nat) : nI k + (-1) = am_pI k := by
  cases k with
  | zero => decide
  | succ k => exact am_m1 k
theorem am_pI_s (k : Nat) : nI k - 1 = am_pI k := by
  cases k with
  | zero => decide
  | succ k => exact nI_pred k
theorem am_al_nk (p : Nat) (e : Int32) (s : am_S) : am_al (am_nk p e s) = am_al s + 1 := rfl
