/-! p18: the law's program has its shape, its scopes and at most 32 tokens -/
/-- m tokens from p on are one expression -/
def pe_X (tk : Nat → Int32) (p m : Nat) : Prop := ∀ d q, am_sh tk (d + m) (q + 1) p = am_sh tk d q (p + m)
theorem pe_sh_s (tk : Nat → Int32) (d q i : Nat) : am_sh tk (d + 1) (q + 1) i = am_sh tk d (q + am_ar (tk i)) (i + 1) := rfl
theorem pe_X0 {tk : Nat → Int32} {p : Nat} (h : am_ar (tk p) = 0) : pe_X tk p 1 := by
  intro d q
  rw [pe_sh_s, h]
  rfl
theorem pe_X1 {tk : Nat → Int32} {p m : Nat} (h : am_ar (tk p) = 1) (h1 : pe_X tk (p + 1) m) : pe_X tk p (m + 1) := by
  intro d q
  have e : d + (m + 1) = d + m + 1 := by omega
  have e2 : p + (m + 1) = p + 1 + m := by omega
  rw [e, pe_sh_s, h, h1 d q, e2]
theorem pe_X2 {tk : Nat → Int32} {p m1 m2 : Nat} (h : am_ar (tk p) = 2) (h1 : pe_X tk (p + 1) m1) (h2 : pe_X tk (p + 1 + m1) m2) : pe_X tk p (m1 + m2 + 1) := by
  intro d q
  have e : d + (m1 + m2 + 1) = (d + m2) + m1 + 1 := by omega
  have e2 : p + (m1 + m2 + 1) = p + 1 + m1 + m2 := by omega
  have e3 : q + 2 = (q + 1) + 1 := by omega
  rw [e, pe_sh_s, h, e3, h1 (d + m2) (q + 1), h2 d q, e2]
theorem pe_X_eq {tk : Nat → Int32} {p m m' : Nat} (e : m = m') (h : pe_X tk p m) : pe_X tk p m' := by rw [← e]; exact h
theorem pe_XW {tk ta : Nat → Int32} {f q : Nat} {w : Int32} (h : pe_at tk ta q (pe_W f w)) : pe_X tk q (pe_W f w).length := by
  unfold pe_W at h ⊢
  by_cases f0 : f = 0
  · rw [if_pos f0] at h ⊢
    obtain ⟨⟨a1, _⟩, _⟩ := h
    exact pe_X0 (by rw [a1]; decide)
  rw [if_neg f0] at h ⊢
  by_cases f1 : f = 1
  · rw [if_pos f1] at h ⊢
    obtain ⟨⟨a1, _⟩, ⟨a2, _⟩, ⟨a3, _⟩, _⟩ := h
    exact pe_X2 (m1 := 1) (m2 := 1) (by rw [a1]; decide) (pe_X0 (by rw [a2]; decide)) (pe_X0 (by rw [a3]; decide))
  · rw [if_neg f1] at h ⊢
    obtain ⟨⟨a1, _⟩, ⟨a2, _⟩, ⟨a3, _⟩, ⟨a4, _⟩, ⟨a5, _⟩, ⟨a6, _⟩, _⟩ := h
    exact pe_X2 (m1 := 4) (m2 := 1) (by rw [a1]; decide) (pe_X1 (m := 3) (by rw [a2]; decide) (pe_X2 (m1 := 1) (m2 := 1) (by rw [a3]; decide) (pe_X0 (by rw [a4]; decide)) (pe_X0 (by rw [a5]; decide)))) (pe_X0 (by rw [a6]; decide))
theorem pe_XA {tk ta : Nat → Int32} {f q : Nat} {w : Int32} (h : pe_at tk ta q ((8, 0) :: (0, 0) :: pe_W f w)) : pe_X tk q ((pe_W f w).length + 2) := by
  obtain ⟨⟨a1, _⟩, ⟨a2, _⟩, hW⟩ := h
  exact pe_X_eq (by omega) (pe_X2 (m1 := 1) (by rw [a1]; decide) (pe_X0 (by rw [a2]; decide)) (pe_XW hW))
theorem pe_XS {tk ta : Nat → Int32} {k : Nat} {f w : Nat → Nat} (hT : ∀ i, i < k → pe_at tk ta (pe_P k f w i) (pe_T k f w i)) : ∀ r i : Nat, i + r + 1 = k → pe_P k f w i ≤ pe_P k f w k ∧ pe_X tk (pe_P k f w i) (pe_P k f w k - pe_P k f w i) := by
  intro r
  induction r with
  | zero =>
    intro i hi
    have hl : ¬ i < k - 1 := by omega
    have h := hT i (by omega)
    have hP := pe_P_s k f w i
    have ek : i + 1 = k := by omega
    rw [ek, pe_T_last hl, List.length_cons, List.length_cons] at hP
    rw [pe_T_last hl] at h
    exact ⟨by omega, pe_X_eq (by omega) (pe_XA h)⟩
  | succ r ih =>
    intro i hi
    have hl : i < k - 1 := by omega
    have h := hT i (by omega)
    have hP := pe_P_s k f w i
    rw [pe_T_in hl, List.length_cons, List.length_cons, List.length_cons] at hP
    rw [pe_T_in hl] at h
    obtain ⟨⟨a0, _⟩, hA⟩ := h
    obtain ⟨i1, i2⟩ := ih (i + 1) (by omega)
    have e : pe_P k f w i + 1 + ((pe_W (f i) (nI (w i))).length + 2) = pe_P k f w (i + 1) := by omega
    have x := pe_X2 (m2 := pe_P k f w k - pe_P k f w (i + 1)) (by rw [a0]; decide) (pe_XA hA) (by rw [e]; exact i2)
    exact ⟨by omega, pe_X_eq (by omega) x⟩
theorem pe_shape {tk ta : Nat → Int32} {k c : Nat} {f w : Nat → Nat} (hk : 1 ≤ k) (h : pe_at tk ta 0 (pe_fl k f w k ++ pe_E c)) : am_sh tk (pe_P k f w k + 7) 1 0 = 0 := by
  obtain ⟨hf, hE⟩ := pe_at_app _ _ h
  obtain ⟨hT, h3⟩ := pe_at_fl k hf
  rw [Nat.zero_add] at hE
  have hE2 : pe_at tk ta (pe_P k f w k) (pe_E c) := hE
  obtain ⟨⟨a0, _⟩, ⟨a1, _⟩, ⟨a2, _⟩, _⟩ := h3
  obtain ⟨⟨b0, _⟩, ⟨b1, _⟩, ⟨b2, _⟩, ⟨b3, _⟩, ⟨b4, _⟩, ⟨b5, _⟩, ⟨b6, _⟩, _⟩ := hE2
  have hP0 : pe_P k f w 0 = 3 := rfl
  obtain ⟨s1, s2⟩ := pe_XS hT (k - 1) 0 (by omega)
  rw [hP0] at s1 s2
  have x1 : pe_X tk (pe_P k f w k + 1) 3 := pe_X2 (m1 := 1) (m2 := 1) (by rw [b1]; decide) (pe_X0 (by rw [b2]; decide)) (pe_X0 (by rw [b3]; decide))
  have x2 : pe_X tk (pe_P k f w k + 4) 3 := pe_X2 (m1 := 1) (m2 := 1) (by rw [b4]; decide) (pe_X0 (by rw [b5]; decide)) (pe_X0 (by rw [b6]; decide))
  have x3 : pe_X tk (pe_P k f w k) 7 := pe_X2 (m1 := 3) (m2 := 3) (by rw [b0]; decide) x1 x2
  have e3 : 2 + 1 + (pe_P k f w k - 3) = pe_P k f w k := by omega
  have x4 : pe_X tk 2 (pe_P k f w k - 3 + 7 + 1) := pe_X2 (by rw [a2]; decide) s2 (by rw [e3]; exact x3)
  have x5 : pe_X tk 0 (1 + (pe_P k f w k - 3 + 7 + 1) + 1) := pe_X2 (by rw [a0]; decide) (pe_X0 (by rw [a1]; decide)) x4
  have x6 : pe_X tk 0 (pe_P k f w k + 7) := pe_X_eq (by omega) x5
  have x7 := x6 0 0
  rw [Nat.zero_add, Nat.zero_add] at x7
  exact x7
/-! scopes -/
theorem pe_an_in {f : Nat → Bool} {j : Nat} (hf : f j = true) : ∀ d p : Nat, p ≤ j → j < p + d → am_an f d p = true := by
  intro d
  induction d with
  | zero => intro p h1 h2; omega
  | succ d ih =>
    intro p h1 h2
    cases hp : f p with
    | true => exact am_an_t hp
    | false =>
      rw [am_an_f hp]
      have hne : p ≠ j := by
        intro z
        rw [z, hf] at hp
        exact absurd hp (by decide)
      exact ih (p + 1) (by omega) (by omega)
/-- what is asked of position i -/
def pe_U (tk ta : Nat → Int32) (n i : Nat) : Prop := (tk i = 1 ∨ tk i = 14) → am_an (am_bq tk ta n i (ta i)) i 0 = true
theorem pe_ab {tk ta : Nat → Int32} {n : Nat} : ∀ d i : Nat, (∀ j, i ≤ j → j < i + d → pe_U tk ta n j) → am_ab tk ta n d i = true := by
  intro d
  induction d with
  | zero => intro i _; rfl
  | succ d ih =>
    intro i h
    rw [am_ab_s, if_neg (fun z => absurd ((h i (Nat.le_refl i) (by omega) z.1).symm.trans z.2) (by decide))]
    exact ih (i + 1) (fun j h1 h2 => h j (by omega) (by omega))
theorem pe_U_no {tk ta : Nat → Int32} {n i : Nat} {x : Int32} (hk : tk i = x) (h1 : ¬ x = 1) (h2 : ¬ x = 14) : pe_U tk ta n i := by
  intro z
  rw [hk] at z
  rcases z with z | z
  · exact absurd z h1
  · exact absurd z h2
theorem pe_U_in {tk ta : Nat → Int32} {n i p : Nat} (hp : p < i) (hk : tk p = 11) (ha : ta p = ta i) (h1 : am_eN tk n (p + 1) ≤ i) (h2 : i < am_eN tk n p) : pe_U tk ta n i := by
  intro _
  refine pe_an_in (j := p) ?_ i 0 (Nat.zero_le p) (by omega)
  rw [am_bq_11 hk ha]
  exact decide_eq_true ⟨h1, h2⟩
/-- a user of variable 1 behind the first two tokens -/
theorem pe_U1 {tk ta : Nat → Int32} {n i : Nat} (a0 : tk 0 = 11) (t0 : ta 0 = 1) (a1 : tk 1 = 0) (hn : am_eN tk n 0 = n) (hi : 2 ≤ i) (hin : i < n) (ht : ta i = 1) : pe_U tk ta n i :=
  pe_U_in (p := 0) (by omega) a0 (by rw [t0, ht]) (by rw [pe_eN0 (by omega) a1]; omega) (by rw [hn]; exact hin)
theorem pe_UW {tk ta : Nat → Int32} {n f q : Nat} {w : Int32} (h : pe_at tk ta q (pe_W f w)) (hn : q + (pe_W f w).length ≤ n) (hU : ∀ i, q ≤ i → i < n → ta i = 1 → pe_U tk ta n i) : ∀ i, q ≤ i → i < q + (pe_W f w).length → pe_U tk ta n i := by
  have hN := pe_eNW h hn
  unfold pe_W at h hn hN ⊢
  by_cases f0 : f = 0
  · rw [if_pos f0] at h hn ⊢
    obtain ⟨⟨a1, _⟩, _⟩ := h
    intro i h1 h2
    have h3 : i < q + 1 := h2
    have e : i = q := by omega
    rw [e]
    exact pe_U_no a1 (by decide) (by decide)
  rw [if_neg f0] at h hn hN ⊢
  by_cases f1 : f = 1
  · rw [if_pos f1] at h hn hN ⊢
    have hn3 : q + 3 ≤ n := hn
    have hN3 : am_eN tk n q = q + 3 := hN
    obtain ⟨⟨a1, t1⟩, ⟨a2, _⟩, ⟨a3, t3⟩, _⟩ := h
    intro i h1 h2
    have h3 : i < q + 3 := h2
    have hc : i = q ∨ i = q + 1 ∨ i = q + 1 + 1 := by omega
    rcases hc with e | e | e
    · rw [e]; exact pe_U_no a1 (by decide) (by decide)
    · rw [e]; exact pe_U_no a2 (by decide) (by decide)
    · rw [e]
      exact pe_U_in (p := q) (by omega) a1 (by rw [t1, t3]) (by rw [pe_eN0 (by omega) a2]; omega) (by rw [hN3]; omega)
  · rw [if_neg f1] at h hn ⊢
    have hn6 : q + 6 ≤ n := hn
    obtain ⟨⟨a1, _⟩, ⟨a2, t2⟩, ⟨a3, _⟩, ⟨a4, t4⟩, ⟨a5, _⟩, ⟨a6, _⟩, _⟩ := h
    intro i h1 h2
    have h3 : i < q + 6 := h2
    have hc : i = q ∨ i = q + 1 ∨ i = q + 1 + 1 ∨ i = q + 1 + 1 + 1 ∨ i = q + 1 + 1 + 1 + 1 ∨ i = q + 1 + 1 + 1 + 1 + 1 := by omega
    rcases hc with e | e | e | e | e | e
    · rw [e]; exact pe_U_no a1 (by decide) (by decide)
    · rw [e]; exact hU _ (by omega) (by omega) t2
    · rw [e]; exact pe_U_no a3 (by decide) (by decide)
    · rw [e]; exact hU _ (by omega) (by omega) t4
    · rw [e]; exact pe_U_no a5 (by decide) (by decide)
    · rw [e]; exact pe_U_no a6 (by decide) (by decide)
theorem pe_UA {tk ta : Nat → Int32} {n f q : Nat} {w : Int32} (h : pe_at tk ta q ((8, 0) :: (0, 0) :: pe_W f w)) (hn : q + 2 + (pe_W f w).length ≤ n) (hU : ∀ i, q ≤ i → i < n → ta i = 1 → pe_U tk ta n i) : ∀ i, q ≤ i → i < q + 2 + (pe_W f w).length → pe_U tk ta n i := by
  obtain ⟨⟨a1, _⟩, ⟨a2, _⟩, hW⟩ := h
  intro i h1 h2
  by_cases e : i = q
  · rw [e]; exact pe_U_no a1 (by decide) (by decide)
  by_cases e2 : i = q + 1
  · rw [e2]; exact pe_U_no a2 (by decide) (by decide)
  exact pe_UW hW hn (fun j h3 h4 h5 => hU j (by omega) h4 h5) i (by omega) (by omega)
theorem pe_bound {tk ta : Nat → Int32} {k c : Nat} {f w : Nat → Nat} (hk : 1 ≤ k) (h : pe_at tk ta 0 (pe_fl k f w k ++ pe_E c)) : am_ab tk ta (pe_P k f w k + 7) (pe_P k f w k + 7) 0 = true := by
  obtain ⟨hf, hE⟩ := pe_at_app _ _ h
  obtain ⟨hT, h3⟩ := pe_at_fl k hf
  rw [Nat.zero_add] at hE
  have hE2 : pe_at tk ta (pe_P k f w k) (pe_E c) := hE
  obtain ⟨⟨a0, t0⟩, ⟨a1, _⟩, ⟨a2, t2⟩, _⟩ := h3
  obtain ⟨⟨b0, _⟩, ⟨b1, _⟩, ⟨b2, s2⟩, ⟨b3, _⟩, ⟨b4, _⟩, ⟨b5, s5⟩, ⟨b6, s6⟩, _⟩ := hE2
  have hP0 : pe_P k f w 0 = 3 := rfl
  have hP3 := pe_P_le (k := k) (f := f) (w := w) k 0
  rw [Nat.zero_add, hP0] at hP3
  generalize hn : pe_P k f w k + 7 = n
  have e3 : am_eN tk n 3 = pe_P k f w k := by
    have := (pe_sum (mC := 0) (mA := 0) (b := fun _ => false) (n := n) (by omega) hT (by omega) (k - 1) 0 (by omega)).1
    rw [hP0] at this
    exact this
  have c1 : am_eN tk n (pe_P k f w k + 1) = pe_P k f w k + 4 := by rw [am_eN_2 (by omega) (by rw [b1]; decide), pe_eN1 (by omega) b2, pe_eN0 (by omega) b3]
  have c4 : am_eN tk n (pe_P k f w k + 4) = pe_P k f w k + 7 := by rw [am_eN_2 (by omega) (by rw [b4]; decide), pe_eN1 (by omega) b5, pe_eN1 (by omega) b6]
  have cP : am_eN tk n (pe_P k f w k) = n := by rw [am_eN_2 (by omega) (by rw [b0]; decide), c1, c4, hn]
  have e2 : am_eN tk n 2 = n := by rw [am_eN_2 (by omega) (by rw [a2]; decide), e3, cP]
  have e1 : am_eN tk n 1 = 2 := pe_eN0 (by omega) a1
  have e0 : am_eN tk n 0 = n := by rw [am_eN_2 (by omega) (by rw [a0]; decide), e1, e2]
  have hU : ∀ i, 2 ≤ i → i < n → ta i = 1 → pe_U tk ta n i := fun i h1 h2 h3 => pe_U1 a0 t0 a1 e0 h1 h2 h3
  have hV : ∀ i, pe_P k f w k ≤ i → i < n → ta i = 0 → pe_U tk ta n i := fun i h1 h2 h3 => pe_U_in (p := 2) (by omega) a2 (by rw [t2, h3]) (by rw [e3]; exact h1) (by rw [e2]; exact h2)
  have hS : ∀ j, j ≤ k → ∀ i, i < pe_P k f w j → pe_U tk ta n i := by
    intro j
    induction j with
    | zero =>
      intro _ i hi
      rw [hP0] at hi
      have hc : i = 0 ∨ i = 1 ∨ i = 2 := by omega
      rcases hc with e | e | e
      · rw [e]; exact pe_U_no a0 (by decide) (by decide)
      · rw [e]; exact pe_U_no a1 (by decide) (by decide)
      · rw [e]; exact pe_U_no a2 (by decide) (by decide)
    | succ j ih =>
      intro hj i hi
      by_cases q : i < pe_P k f w j
      · exact ih (by omega) i q
      have hT1 := hT j (by omega)
      have hP := pe_P_s k f w j
      have hPj := pe_P_le (k := k) (f := f) (w := w) (k - (j + 1)) (j + 1)
      have hP2 := pe_P_le (k := k) (f := f) (w := w) j 0
      rw [Nat.zero_add, hP0] at hP2
      have ek : j + 1 + (k - (j + 1)) = k := by omega
      rw [ek] at hPj
      by_cases l : j < k - 1
      · rw [pe_T_in l] at hT1 hP
        rw [List.length_cons, List.length_cons, List.length_cons] at hP
        obtain ⟨⟨z0, _⟩, hA⟩ := hT1
        by_cases e : i = pe_P k f w j
        · rw [e]; exact pe_U_no z0 (by decide) (by decide)
        · exact pe_UA hA (by omega) (fun x h4 h5 h6 => hU x (by omega) h5 h6) i (by omega) (by omega)
      · rw [pe_T_last l] at hT1 hP
        rw [List.length_cons, List.length_cons] at hP
        exact pe_UA hT1 (by omega) (fun x h4 h5 h6 => hU x (by omega) h5 h6) i (by omega) (by omega)
  refine pe_ab n 0 (fun i _ hi => ?_)
  by_cases q : i < pe_P k f w k
  · exact hS k (Nat.le_refl k) i q
  have hc : i = pe_P k f w k ∨ i = pe_P k f w k + 1 ∨ i = pe_P k f w k + 1 + 1 ∨ i = pe_P k f w k + 1 + 1 + 1 ∨ i = pe_P k f w k + 1 + 1 + 1 + 1 ∨ i = pe_P k f w k + 1 + 1 + 1 + 1 + 1 ∨ i = pe_P k f w k + 1 + 1 + 1 + 1 + 1 + 1 := by omega
  rcases hc with e | e | e | e | e | e | e
  · rw [e]; exact pe_U_no b0 (by decide) (by decide)
  · rw [e]; exact pe_U_no b1 (by decide) (by decide)
  · rw [e]; exact hV _ (by omega) (by omega) s2
  · rw [e]; exact pe_U_no b3 (by decide) (by decide)
  · rw [e]; exact pe_U_no b4 (by decide) (by decide)
  · rw [e]; exact hV _ (by omega) (by omega) s5
  · rw [e]; exact hU _ (by omega) (by omega) s6
/-! the law's count of tokens -/
def pe_ex (f : Nat) : Nat := if f = 0 then 0 else if f = 1 then 3 else 5
/-- what is spent ahead of the i-th part -/
def pe_u (g : Nat → Nat) (sp : Nat) : Nat → Nat
  | 0 => 0
  | i + 1 => pe_u g sp i + (if sp < pe_u g sp i + pe_ex (g i) then 0 else pe_ex (g i))
def pe_f (g : Nat → Nat) (sp i : Nat) : Nat := if sp < pe_u g sp i + pe_ex (g i) then 0 else g i
theorem pe_u_s (g : Nat → Nat) (sp i : Nat) : pe_u g sp (i + 1) = pe_u g sp i + pe_ex (pe_f g sp i) := by
  show pe_u g sp i + (if sp < pe_u g sp i + pe_ex (g i) then 0 else pe_ex (g i)) = _
  unfold pe_f
  by_cases h : sp < pe_u g sp i + pe_ex (g i)
  · rw [if_pos h, if_pos h]; rfl
  · rw [if_neg h, if_neg h]
theorem pe_u_le (g : Nat → Nat) (sp : Nat) : ∀ i, pe_u g sp i ≤ sp := by
  intro i
  induction i with
  | zero => exact Nat.zero_le _
  | succ i ih =>
    show pe_u g sp i + (if sp < pe_u g sp i + pe_ex (g i) then 0 else pe_ex (g i)) ≤ sp
    by_cases h : sp < pe_u g sp i + pe_ex (g i)
    · rw [if_pos h]; omega
    · rw [if_neg h]; omega
theorem pe_W_len (f : Nat) (w : Int32) : (pe_W f w).length ≤ 1 + pe_ex f := by
  unfold pe_W pe_ex
  by_cases f0 : f = 0
  · rw [if_pos f0, if_pos f0]; exact Nat.le_refl _
  rw [if_neg f0, if_neg f0]
  by_cases f1 : f = 1
  · rw [if_pos f1, if_pos f1]; show 3 ≤ 1 + 3; decide
  · rw [if_neg f1, if_neg f1]; show 6 ≤ 1 + 5; decide
theorem pe_P_len {g w : Nat → Nat} {sp k : Nat} : ∀ i, i ≤ k → pe_P k (pe_f g sp) w i + (if i < k then 0 else 1) ≤ 3 + 4 * i + pe_u g sp i + (if k = 0 then 1 else 0) := by
  intro i
  induction i with
  | zero =>
    intro _
    have : pe_P k (pe_f g sp) w 0 = 3 := rfl
    by_cases h : k = 0
    · rw [if_neg (by omega), if_pos h]; omega
    · rw [if_pos (by omega), if_neg h]; omega
  | succ i ih =>
    intro hi
    have h1 := ih (by omega)
    rw [if_pos (by omega), if_neg (by omega)] at h1
    rw [pe_P_s, pe_u_s, if_neg (show ¬ k = 0 by omega)]
    have h2 := pe_W_len (pe_f g sp i) (nI (w i))
    by_cases l : i < k - 1
    · rw [pe_T_in l, List.length_cons, List.length_cons, List.length_cons, if_pos (by omega)]
      omega
    · rw [pe_T_last l, List.length_cons, List.length_cons, if_neg (by omega)]
      omega
theorem pe_n_le {g w : Nat → Nat} {k : Nat} (hk : 1 ≤ k) (hk5 : k ≤ 5) : pe_P k (pe_f g (32 - (9 + 4 * k))) w k + 7 ≤ 32 := by
  have h := pe_P_len (g := g) (w := w) (sp := 32 - (9 + 4 * k)) (k := k) k (Nat.le_refl k)
  have h2 := pe_u_le g (32 - (9 + 4 * k)) k
  rw [if_neg (by omega), if_neg (by omega)] at h
  omega
