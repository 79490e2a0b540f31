/-! a machine of frames (token, environment, state, first kind, first value), by its rules; a is the number of steps left over 128 for each allocation that may still come -/
abbrev am_F : Type := Nat × Int32 × Int32 × Int32 × Int32
def am_psh (k : Int32) : Prop := k = 7 ∨ k = 10 ∨ k = 11 ∨ k = 13 ∨ k = 14 ∨ k = 15 ∨ am_bin k
def am_tl (k st : Int32) : Prop := (k = 7 ∧ st = 2) ∨ (k = 8 ∧ st = 1) ∨ (k = 10 ∧ st = 2) ∨ (k = 11 ∧ st = 2) ∨ (k = 13 ∧ st = 3) ∨ (k = 15 ∧ st = 2)
def am_nz : List am_F → Prop
  | [] => True
  | (_, _, st, _, _) :: r => ¬ st = 0 ∧ am_nz r
def am_H (n mC mA : Nat) (s : am_S) (e : Int32) (p : Nat) (stk : List am_F) : Prop := am_WF n mC mA s ∧ am_okE s e ∧ p < n ∧ stk.length < 544 ∧ am_nz stk
def am_I (n : Nat) (tk ta : Nat → Int32) (mC mA : Nat) (b : Nat → Bool) (L : Nat → List am_F → Int32 → Int32 → am_S → Prop) (Q : am_S → Prop) : Prop :=
  (∀ (a a' : Nat) (stk : List am_F) (rk rv : Int32) (s : am_S), a ≤ a' → L a stk rk rv s → L a' stk rk rv s) ∧
  (∀ (a : Nat) (e : Int32) (stk : List am_F) (rk rv : Int32) (s : am_S), am_WF n mC mA s → am_okE s e → stk.length < 545 → Q s → L (a + 1) ((n, e, 0, 0, 0) :: stk) rk rv s) ∧
  (∀ (a p : Nat) (e : Int32) (stk : List am_F) (rk rv : Int32) (s : am_S), am_H n mC mA s e p stk → tk p = 0 → L a stk 1 (ta p) s → L (a + 1) ((p, e, 0, 0, 0) :: stk) rk rv s) ∧
  (∀ (a p : Nat) (e : Int32) (stk : List am_F) (rk rv : Int32) (s : am_S) (f : Nat), am_H n mC mA s e p stk → tk p = 1 → f < am_nf s → am_lk s (ta p) 17 e = nI f → L a stk (am_fK s f) (am_fV s f) s → L (a + 1) ((p, e, 0, 0, 0) :: stk) rk rv s) ∧
  (∀ (a p : Nat) (e : Int32) (stk : List am_F) (rk rv : Int32) (s : am_S), am_H n mC mA s e p stk → tk p = 1 → am_lk s (ta p) 17 e = -1 → Q s → L (a + 1) ((p, e, 0, 0, 0) :: stk) rk rv s) ∧
  (∀ (a p : Nat) (e : Int32) (stk : List am_F) (rk rv : Int32) (s : am_S), am_H n mC mA s e p stk → am_psh (tk p) → L a ((p + 1, e, 0, 0, 0) :: (p, e, 1, 0, 0) :: stk) rk rv s → L (a + 1) ((p, e, 0, 0, 0) :: stk) rk rv s) ∧
  (∀ (a p : Nat) (e : Int32) (stk : List am_F) (rk rv : Int32) (s : am_S), am_H n mC mA s e p stk → tk p = 8 → am_us s < mC → L a ((am_q8 n tk p (b (am_us s)), e, 0, 0, 0) :: (p, e, 1, 0, 0) :: stk) rk rv (am_tick s) → L (a + 1) ((p, e, 0, 0, 0) :: stk) rk rv s) ∧
  (∀ (a p : Nat) (e : Int32) (stk : List am_F) (rk rv : Int32) (s : am_S), am_H n mC mA s e p stk → tk p = 8 → mC ≤ am_us s → Q s → L (a + 1) ((p, e, 0, 0, 0) :: stk) rk rv s) ∧
  (∀ (a p : Nat) (e : Int32) (stk : List am_F) (rk rv : Int32) (s : am_S), am_H n mC mA s e p stk → tk p = 9 → Q s → L (a + 1) ((p, e, 0, 0, 0) :: stk) rk rv s) ∧
  (∀ (a p : Nat) (e : Int32) (stk : List am_F) (rk rv : Int32) (s : am_S), am_H n mC mA s e p stk → tk p = 12 → am_al s < mA → L a stk 2 (nI (am_nc s)) (am_nk p e s) → L (a + 1) ((p, e, 0, 0, 0) :: stk) rk rv s) ∧
  (∀ (a p : Nat) (e : Int32) (stk : List am_F) (rk rv : Int32) (s : am_S), am_H n mC mA s e p stk → tk p = 12 → mA ≤ am_al s → Q s → L (a + 1) ((p, e, 0, 0, 0) :: stk) rk rv s) ∧
  (∀ (a p : Nat) (e : Int32) (stk : List am_F) (rk rv : Int32) (s : am_S), am_H n mC mA s e p stk → am_okV s rk rv → (tk p = 13 ∨ am_bin (tk p)) → L a ((am_eN tk n (p + 1), e, 0, 0, 0) :: (p, e, 2, rk, rv) :: stk) rk rv s → L (a + 1) ((p, e, 1, 0, 0) :: stk) rk rv s) ∧
  (∀ (a p : Nat) (e : Int32) (stk : List am_F) (v rv : Int32) (s : am_S), am_H n mC mA s e p stk → am_bin (tk p) → L a stk 1 (am_op (tk p) v rv) s → L (a + 1) ((p, e, 2, 1, v) :: stk) 1 rv s) ∧
  (∀ (a p : Nat) (e : Int32) (stk : List am_F) (k v rk rv : Int32) (s : am_S), am_H n mC mA s e p stk → am_bin (tk p) → am_okV s k v → am_okV s rk rv → ¬ (k = 1 ∧ rk = 1) → Q s → L (a + 1) ((p, e, 2, k, v) :: stk) rk rv s) ∧
  (∀ (a p : Nat) (e : Int32) (stk : List am_F) (rv : Int32) (s : am_S), am_H n mC mA s e p stk → tk p = 7 → L a ((am_q7 n tk p rv, e, 0, 0, 0) :: (p, e, 2, 0, 0) :: stk) 1 rv s → L (a + 1) ((p, e, 1, 0, 0) :: stk) 1 rv s) ∧
  (∀ (a p : Nat) (e : Int32) (stk : List am_F) (rk rv : Int32) (s : am_S), am_H n mC mA s e p stk → tk p = 7 → am_okV s rk rv → ¬ rk = 1 → Q s → L (a + 1) ((p, e, 1, 0, 0) :: stk) rk rv s) ∧
  (∀ (a p : Nat) (e : Int32) (stk : List am_F) (rv : Int32) (s : am_S), am_H n mC mA s e p stk → tk p = 10 → ¬ rv = 0 → L a ((am_eN tk n (p + 1), e, 0, 0, 0) :: (p, e, 2, 0, 0) :: stk) 1 rv s → L (a + 1) ((p, e, 1, 0, 0) :: stk) 1 rv s) ∧
  (∀ (a p : Nat) (e : Int32) (stk : List am_F) (rk rv : Int32) (s : am_S), am_H n mC mA s e p stk → tk p = 10 → am_okV s rk rv → ¬ (rk = 1 ∧ ¬ rv = 0) → Q s → L (a + 1) ((p, e, 1, 0, 0) :: stk) rk rv s) ∧
  (∀ (a p : Nat) (e : Int32) (stk : List am_F) (rk rv : Int32) (s : am_S), am_H n mC mA s e p stk → tk p = 11 → am_okV s rk rv → am_al s < mA → L a ((am_eN tk n (p + 1), nI (am_nf s), 0, 0, 0) :: (p, e, 2, 0, 0) :: stk) rk rv (am_nl (ta p) e rk rv s) → L (a + 1) ((p, e, 1, 0, 0) :: stk) rk rv s) ∧
  (∀ (a p : Nat) (e : Int32) (stk : List am_F) (rk rv : Int32) (s : am_S), am_H n mC mA s e p stk → tk p = 11 → am_okV s rk rv → mA ≤ am_al s → Q s → L (a + 1) ((p, e, 1, 0, 0) :: stk) rk rv s) ∧
  (∀ (a p : Nat) (e : Int32) (stk : List am_F) (rk rv : Int32) (s : am_S) (f : Nat), am_H n mC mA s e p stk → tk p = 14 → am_okV s rk rv → f < am_nf s → am_lk s (ta p) 17 e = nI f → L a stk rk rv (am_sl f rk rv s) → L (a + 1) ((p, e, 1, 0, 0) :: stk) rk rv s) ∧
  (∀ (a p : Nat) (e : Int32) (stk : List am_F) (rk rv : Int32) (s : am_S), am_H n mC mA s e p stk → tk p = 14 → am_okV s rk rv → am_lk s (ta p) 17 e = -1 → Q s → L (a + 1) ((p, e, 1, 0, 0) :: stk) rk rv s) ∧
  (∀ (a p : Nat) (e : Int32) (stk : List am_F) (rk rv : Int32) (s : am_S), am_H n mC mA s e p stk → tk p = 15 → am_okV s rk rv → L a ((am_eN tk n (p + 1), e, 0, 0, 0) :: (p, e, 2, 0, 0) :: stk) rk rv s → L (a + 1) ((p, e, 1, 0, 0) :: stk) rk rv s) ∧
  (∀ (a p : Nat) (e : Int32) (stk : List am_F) (rk rv : Int32) (s : am_S) (c lp : Nat), am_H n mC mA s e p stk → tk p = 13 → am_okV s rk rv → c < am_nc s → am_al s < mA → lp < n → am_cPos s c = nI lp → L (a + 127) ((lp + 1, nI (am_nf s), 0, 0, 0) :: (p, e, 3, 2, nI c) :: stk) rk rv (am_nl (ta lp) (am_cEnv s c) rk rv s) → L a ((p, e, 2, 2, nI c) :: stk) rk rv s) ∧
  (∀ (a p : Nat) (e : Int32) (stk : List am_F) (k v rk rv : Int32) (s : am_S), am_H n mC mA s e p stk → tk p = 13 → am_okV s k v → am_okV s rk rv → (¬ k = 2 ∨ mA ≤ am_al s) → Q s → L (a + 1) ((p, e, 2, k, v) :: stk) rk rv s) ∧
  (∀ (a p : Nat) (e : Int32) (stk : List am_F) (st k v rk rv : Int32) (s : am_S), am_H n mC mA s e p stk → am_okV s rk rv → am_tl (tk p) st → L a stk rk rv s → L (a + 1) ((p, e, st, k, v) :: stk) rk rv s)
/-- what is wanted of the machine at an evaluation's end -/
def am_K (L : Nat → List am_F → Int32 → Int32 → am_S → Prop) (Q : am_S → Prop) (stk : List am_F) (a : Nat) (r : am_R) : Prop := if r.1 = true then L a stk r.2.1 r.2.2.1 r.2.2.2 else Q r.2.2.2
section
variable {L : Nat → List am_F → Int32 → Int32 → am_S → Prop} {Q : am_S → Prop}
theorem am_K_t {stk : List am_F} {a : Nat} {r : am_R} (h : r.1 = true) (H : am_K L Q stk a r) : L a stk r.2.1 r.2.2.1 r.2.2.2 := by
  unfold am_K at H
  rw [if_pos h] at H
  exact H
theorem am_K_f {stk : List am_F} {a : Nat} {r : am_R} (h : r.1 = false) (H : am_K L Q stk a r) : Q r.2.2.2 := by
  unfold am_K at H
  rw [if_neg (by rw [h]; decide)] at H
  exact H
theorem am_K_T {stk : List am_F} {a : Nat} {r : am_R} (h : r.1 = true) (H : L a stk r.2.1 r.2.2.1 r.2.2.2) : am_K L Q stk a r := by
  unfold am_K
  rw [if_pos h]
  exact H
theorem am_K_F {stk : List am_F} {a : Nat} {r : am_R} (h : r.1 = false) (H : Q r.2.2.2) : am_K L Q stk a r := by
  unfold am_K
  rw [if_neg (by rw [h]; decide)]
  exact H
theorem am_K_q {stk : List am_F} {a : Nat} {s : am_S} (H : am_K L Q stk a (am_fl s)) : Q s := am_K_f (r := am_fl s) rfl H
theorem am_K_o {stk : List am_F} {a : Nat} {k v : Int32} {s : am_S} (H : am_K L Q stk a (true, k, v, s)) : L a stk k v s := am_K_t (r := (true, k, v, s)) rfl H
theorem am_K_bd {n mC mA : Nat} {s : am_S} {stk stk2 : List am_F} {a a2 : Nat} {r : am_R} {f : Int32 → Int32 → am_S → am_R} (g : am_G n mC mA s r) (H : am_K L Q stk a (am_bd r f)) (h : ∀ k v s1, am_WF n mC mA s1 → am_ext s s1 → am_okV s1 k v → am_K L Q stk a (f k v s1) → L a2 stk2 k v s1) : am_K L Q stk2 a2 r := by
  cases hr : r.1 with
  | true =>
    rw [am_bd_t hr] at H
    exact am_K_T hr (h _ _ _ g.1 g.2.1 (g.2.2 hr) H)
  | false =>
    rw [am_bd_f hr] at H
    exact am_K_F hr (am_K_q H)
theorem am_K_pop {n mC mA : Nat} {s : am_S} {stk stk2 : List am_F} {a a2 : Nat} {r : am_R} (g : am_G n mC mA s r) (H : am_K L Q stk a r) (h : ∀ k v s1, am_WF n mC mA s1 → am_ext s s1 → am_okV s1 k v → L a stk k v s1 → L a2 stk2 k v s1) : am_K L Q stk2 a2 r := by
  cases hr : r.1 with
  | true => exact am_K_T hr (h _ _ _ g.1 g.2.1 (g.2.2 hr) (am_K_t hr H))
  | false => exact am_K_F hr (am_K_f hr H)
end
theorem am_al_nl (x e k v : Int32) (s : am_S) : am_al (am_nl x e k v s) = am_al s + 1 := by
  show am_nf s + 1 + am_nc s = am_nf s + am_nc s + 1
  omega
theorem am_al_tick (s : am_S) : am_al (am_tick s) = am_al s := rfl
theorem am_q7_b {n : Nat} {tk : Nat → Int32} {p : Nat} (hp : p < n) (v : Int32) : am_eN tk n (p + 1) ≤ am_q7 n tk p v ∧ am_q7 n tk p v ≤ n ∧ am_q7 n tk p v ≤ am_eN tk n (am_q7 n tk p v) ∧ am_eN tk n (am_q7 n tk p v) ≤ am_eN tk n (am_eN tk n (am_eN tk n (p + 1))) := by
  have c1 : am_eN tk n (p + 1) ≤ n := am_eN_le hp
  have c2 : am_eN tk n (am_eN tk n (p + 1)) ≤ n := am_eN_le c1
  have b2 := am_eN_ge tk n (am_eN tk n (p + 1))
  have b3 := am_eN_ge tk n (am_eN tk n (am_eN tk n (p + 1)))
  unfold am_q7
  by_cases h : v = 0
  · rw [if_pos h]
    exact ⟨b2, c2, b3, Nat.le_refl _⟩
  · rw [if_neg h]
    exact ⟨Nat.le_refl _, c1, b2, b3⟩
theorem am_q8_b {n : Nat} {tk : Nat → Int32} {p : Nat} (hp : p < n) (x : Bool) : p + 1 ≤ am_q8 n tk p x ∧ am_q8 n tk p x ≤ n ∧ am_q8 n tk p x ≤ am_eN tk n (am_q8 n tk p x) ∧ am_eN tk n (am_q8 n tk p x) ≤ am_eN tk n (am_eN tk n (p + 1)) := by
  have c1 : am_eN tk n (p + 1) ≤ n := am_eN_le hp
  have b1 := am_eN_ge tk n (p + 1)
  have b2 := am_eN_ge tk n (am_eN tk n (p + 1))
  unfold am_q8
  by_cases h : x = true
  · rw [if_pos h]
    exact ⟨b1, c1, b2, Nat.le_refl _⟩
  · rw [if_neg h]
    exact ⟨Nat.le_refl _, hp, b1, b2⟩
theorem am_ar_bin {k : Int32} (h : am_bin k) : am_ar k = 2 := by
  rcases h with h | h | h | h | h <;> rw [h] <;> decide
