/-! p18: the program that the law feeds, and what a path of it does -/
def pe_at (tk ta : Nat → Int32) : Nat → List (Int32 × Int32) → Prop
  | _, [] => True
  | p, (x, y) :: r => (tk p = x ∧ ta p = y) ∧ pe_at tk ta (p + 1) r
theorem pe_at_app {tk ta : Nat → Int32} {l2 : List (Int32 × Int32)} : ∀ (l1 : List (Int32 × Int32)) (p : Nat), pe_at tk ta p (l1 ++ l2) → pe_at tk ta p l1 ∧ pe_at tk ta (p + l1.length) l2 := by
  intro l1
  induction l1 with
  | nil => intro p h; exact ⟨True.intro, h⟩
  | cons z r ih =>
    obtain ⟨x, y⟩ := z
    intro p h
    have h2 : (tk p = x ∧ ta p = y) ∧ pe_at tk ta (p + 1) (r ++ l2) := h
    obtain ⟨i1, i2⟩ := ih (p + 1) h2.2
    refine ⟨⟨h2.1, i1⟩, ?_⟩
    have e : p + ((x, y) :: r).length = p + 1 + r.length := by rw [List.length_cons]; omega
    rw [e]
    exact i2
theorem pe_at_eq {tk ta tk' ta' : Nat → Int32} : ∀ (l : List (Int32 × Int32)) (p : Nat), (∀ i, i < p + l.length → tk' i = tk i ∧ ta' i = ta i) → pe_at tk ta p l → pe_at tk' ta' p l := by
  intro l
  induction l with
  | nil => intro p _ _; exact True.intro
  | cons z r ih =>
    obtain ⟨x, y⟩ := z
    intro p hi h
    have h2 : (tk p = x ∧ ta p = y) ∧ pe_at tk ta (p + 1) r := h
    have hp := hi p (by rw [List.length_cons]; omega)
    exact ⟨⟨by rw [hp.1]; exact h2.1.1, by rw [hp.2]; exact h2.1.2⟩, ih (p + 1) (fun i hl => hi i (by rw [List.length_cons]; omega)) h2.2⟩
theorem pe_at_snoc {tk ta : Nat → Int32} {x y : Int32} : ∀ (l : List (Int32 × Int32)) (p : Nat), pe_at tk ta p l → pe_at (upd tk (p + l.length) x) (upd ta (p + l.length) y) p (l ++ [(x, y)]) := by
  intro l
  induction l with
  | nil => intro p _; exact ⟨⟨am_up_s, am_up_s⟩, True.intro⟩
  | cons z r ih =>
    obtain ⟨x', y'⟩ := z
    intro p h
    have h2 : (tk p = x' ∧ ta p = y') ∧ pe_at tk ta (p + 1) r := h
    have e : p + ((x', y') :: r).length = p + 1 + r.length := by rw [List.length_cons]; omega
    have hne : p ≠ p + 1 + r.length := by omega
    rw [e]
    exact ⟨⟨by rw [am_up_n hne]; exact h2.1.1, by rw [am_up_n hne]; exact h2.1.2⟩, ih (p + 1) h2.2⟩
def pe_W (f : Nat) (w : Int32) : List (Int32 × Int32) := if f = 0 then [(0, w)] else if f = 1 then [(11, 2), (0, w), (1, 2)] else [(15, 0), (14, 1), (2, 0), (1, 1), (0, 1), (0, w)]
def pe_T (k : Nat) (f w : Nat → Nat) (i : Nat) : List (Int32 × Int32) := (if i < k - 1 then [(2, 0)] else []) ++ (8, 0) :: (0, 0) :: pe_W (f i) (nI (w i))
def pe_fl (k : Nat) (f w : Nat → Nat) : Nat → List (Int32 × Int32)
  | 0 => [(11, 1), (0, 0), (11, 0)]
  | i + 1 => pe_fl k f w i ++ pe_T k f w i
def pe_E (c : Nat) : List (Int32 × Int32) := [(10, 0), (5, 0), (1, 0), (0, nI c), (2, 0), (1, 0), (1, 1)]
/-- where the i-th part begins -/
def pe_P (k : Nat) (f w : Nat → Nat) (i : Nat) : Nat := (pe_fl k f w i).length
section
variable {n : Nat} {tk ta : Nat → Int32} {mC mA : Nat} {b : Nat → Bool} {F p : Nat} {e : Int32} {s : am_S}
theorem pe_v0 (hp : p < n) (hk : tk p = 0) : am_ev n tk ta mC mA b (F + 1) p e s = (true, 1, ta p, s) := by
  rw [am_ev_s]
  unfold am_stp
  rw [if_neg (Nat.not_le.mpr hp), if_pos hk]
theorem pe_v1 (hp : p < n) (hk : tk p = 1) : am_ev n tk ta mC mA b (F + 1) p e s = am_rd (am_lk s (ta p) 17 e) s := by
  rw [am_ev_s]
  unfold am_stp
  rw [if_neg (Nat.not_le.mpr hp), if_neg (show ¬ tk p = 0 by rw [hk]; decide), if_pos hk]
theorem pe_v2 (hp : p < n) (hk : tk p = 2) : am_ev n tk ta mC mA b (F + 1) p e s = am_e2 n tk (am_ev n tk ta mC mA b F) p e s := by
  rw [am_ev_s]
  unfold am_stp
  rw [if_neg (Nat.not_le.mpr hp), if_neg (show ¬ tk p = 0 by rw [hk]; decide), if_neg (show ¬ tk p = 1 by rw [hk]; decide), if_neg (show ¬ tk p = 7 by rw [hk]; decide), if_neg (show ¬ tk p = 8 by rw [hk]; decide), if_neg (show ¬ tk p = 9 by rw [hk]; decide), if_neg (show ¬ tk p = 10 by rw [hk]; decide), if_neg (show ¬ tk p = 11 by rw [hk]; decide), if_neg (show ¬ tk p = 12 by rw [hk]; decide), if_neg (show ¬ tk p = 13 by rw [hk]; decide), if_neg (show ¬ tk p = 14 by rw [hk]; decide), if_neg (show ¬ tk p = 15 by rw [hk]; decide)]
theorem pe_v5 (hp : p < n) (hk : tk p = 5) : am_ev n tk ta mC mA b (F + 1) p e s = am_e2 n tk (am_ev n tk ta mC mA b F) p e s := by
  rw [am_ev_s]
  unfold am_stp
  rw [if_neg (Nat.not_le.mpr hp), if_neg (show ¬ tk p = 0 by rw [hk]; decide), if_neg (show ¬ tk p = 1 by rw [hk]; decide), if_neg (show ¬ tk p = 7 by rw [hk]; decide), if_neg (show ¬ tk p = 8 by rw [hk]; decide), if_neg (show ¬ tk p = 9 by rw [hk]; decide), if_neg (show ¬ tk p = 10 by rw [hk]; decide), if_neg (show ¬ tk p = 11 by rw [hk]; decide), if_neg (show ¬ tk p = 12 by rw [hk]; decide), if_neg (show ¬ tk p = 13 by rw [hk]; decide), if_neg (show ¬ tk p = 14 by rw [hk]; decide), if_neg (show ¬ tk p = 15 by rw [hk]; decide)]
theorem pe_v8 (hp : p < n) (hk : tk p = 8) : am_ev n tk ta mC mA b (F + 1) p e s = am_e8 n tk mC b (am_ev n tk ta mC mA b F) p e s := by
  rw [am_ev_s]
  unfold am_stp
  rw [if_neg (Nat.not_le.mpr hp), if_neg (show ¬ tk p = 0 by rw [hk]; decide), if_neg (show ¬ tk p = 1 by rw [hk]; decide), if_neg (show ¬ tk p = 7 by rw [hk]; decide), if_pos hk]
theorem pe_v10 (hp : p < n) (hk : tk p = 10) : am_ev n tk ta mC mA b (F + 1) p e s = am_e10 n tk (am_ev n tk ta mC mA b F) p e s := by
  rw [am_ev_s]
  unfold am_stp
  rw [if_neg (Nat.not_le.mpr hp), if_neg (show ¬ tk p = 0 by rw [hk]; decide), if_neg (show ¬ tk p = 1 by rw [hk]; decide), if_neg (show ¬ tk p = 7 by rw [hk]; decide), if_neg (show ¬ tk p = 8 by rw [hk]; decide), if_neg (show ¬ tk p = 9 by rw [hk]; decide), if_pos hk]
theorem pe_v11 (hp : p < n) (hk : tk p = 11) : am_ev n tk ta mC mA b (F + 1) p e s = am_e11 n tk ta mA (am_ev n tk ta mC mA b F) p e s := by
  rw [am_ev_s]
  unfold am_stp
  rw [if_neg (Nat.not_le.mpr hp), if_neg (show ¬ tk p = 0 by rw [hk]; decide), if_neg (show ¬ tk p = 1 by rw [hk]; decide), if_neg (show ¬ tk p = 7 by rw [hk]; decide), if_neg (show ¬ tk p = 8 by rw [hk]; decide), if_neg (show ¬ tk p = 9 by rw [hk]; decide), if_neg (show ¬ tk p = 10 by rw [hk]; decide), if_pos hk]
theorem pe_v14 (hp : p < n) (hk : tk p = 14) : am_ev n tk ta mC mA b (F + 1) p e s = am_e14 ta (am_ev n tk ta mC mA b F) p e s := by
  rw [am_ev_s]
  unfold am_stp
  rw [if_neg (Nat.not_le.mpr hp), if_neg (show ¬ tk p = 0 by rw [hk]; decide), if_neg (show ¬ tk p = 1 by rw [hk]; decide), if_neg (show ¬ tk p = 7 by rw [hk]; decide), if_neg (show ¬ tk p = 8 by rw [hk]; decide), if_neg (show ¬ tk p = 9 by rw [hk]; decide), if_neg (show ¬ tk p = 10 by rw [hk]; decide), if_neg (show ¬ tk p = 11 by rw [hk]; decide), if_neg (show ¬ tk p = 12 by rw [hk]; decide), if_neg (show ¬ tk p = 13 by rw [hk]; decide), if_pos hk]
theorem pe_v15 (hp : p < n) (hk : tk p = 15) : am_ev n tk ta mC mA b (F + 1) p e s = am_e15 n tk (am_ev n tk ta mC mA b F) p e s := by
  rw [am_ev_s]
  unfold am_stp
  rw [if_neg (Nat.not_le.mpr hp), if_neg (show ¬ tk p = 0 by rw [hk]; decide), if_neg (show ¬ tk p = 1 by rw [hk]; decide), if_neg (show ¬ tk p = 7 by rw [hk]; decide), if_neg (show ¬ tk p = 8 by rw [hk]; decide), if_neg (show ¬ tk p = 9 by rw [hk]; decide), if_neg (show ¬ tk p = 10 by rw [hk]; decide), if_neg (show ¬ tk p = 11 by rw [hk]; decide), if_neg (show ¬ tk p = 12 by rw [hk]; decide), if_neg (show ¬ tk p = 13 by rw [hk]; decide), if_neg (show ¬ tk p = 14 by rw [hk]; decide), if_pos hk]
end
/-- a store with variable 1 at location 0 and no closures -/
def pe_G (s : am_S) (A c : Nat) : Prop := am_nc s = 0 ∧ am_nf s = A ∧ 1 ≤ A ∧ A ≤ 16 ∧ am_fVar s 0 = 1 ∧ am_fPar s 0 = -1 ∧ am_fK s 0 = 1 ∧ am_fV s 0 = nI c
theorem pe_G_al {s : am_S} {A c : Nat} (h : pe_G s A c) : am_al s = A := by
  unfold am_al
  rw [h.1, h.2.1]
  rfl
theorem pe_G_nl {s : am_S} {A c : Nat} {x e k v : Int32} (h : pe_G s A c) (hA : A < 16) : pe_G (am_nl x e k v s) (A + 1) c := by
  obtain ⟨h1, h2, h3, h4, h5, h6, h7, h8⟩ := h
  have hne : (0 : Nat) ≠ am_nf s := by omega
  refine ⟨h1, ?_, by omega, by omega, ?_, ?_, ?_, ?_⟩
  · show am_nf s + 1 = A + 1
    rw [h2]
  · show upd (am_fVar s) (am_nf s) x 0 = 1
    rw [am_up_n hne]; exact h5
  · show upd (am_fPar s) (am_nf s) e 0 = -1
    rw [am_up_n hne]; exact h6
  · show upd (am_fK s) (am_nf s) k 0 = 1
    rw [am_up_n hne]; exact h7
  · show upd (am_fV s) (am_nf s) v 0 = nI c
    rw [am_up_n hne]; exact h8
theorem pe_G_sl {s : am_S} {A c c' : Nat} (h : pe_G s A c) : pe_G (am_sl 0 1 (nI c') s) A c' := by
  obtain ⟨h1, h2, h3, h4, h5, h6, h7, h8⟩ := h
  exact ⟨h1, h2, h3, h4, h5, h6, show upd (am_fK s) 0 1 0 = 1 from am_up_s, show upd (am_fV s) 0 (nI c') 0 = nI c' from am_up_s⟩
/-- variable 1 is at location 0 -/
theorem pe_lk1 {s : am_S} {A c : Nat} (h : pe_G s A c) (k : Nat) : am_lk s 1 (k + 1) (nI 0) = nI 0 := by
  rw [am_lk_s, if_neg (nI_pos (by omega)), nI_clamp (by omega), if_pos h.2.2.2.2.1]
theorem pe_rd1 {s : am_S} {A c : Nat} (h : pe_G s A c) : am_rd (nI 0) s = (true, 1, nI c, s) := by
  unfold am_rd
  rw [if_neg (nI_pos (by omega)), nI_clamp (by omega), h.2.2.2.2.2.2.1, h.2.2.2.2.2.2.2]
/-- a location just made -/
theorem pe_lkn {x e k v : Int32} {s : am_S} {A c : Nat} (h : pe_G s A c) (j : Nat) : am_lk (am_nl x e k v s) x (j + 1) (nI (am_nf s)) = nI (am_nf s) := by
  have hb : am_nf s < 2 ^ 31 := by have := h.2.1; have := h.2.2.2.1; omega
  have e1 : am_fVar (am_nl x e k v s) (am_nf s) = x := am_up_s
  rw [am_lk_s, if_neg (nI_pos hb), nI_clamp hb, if_pos e1]
theorem pe_rdn {x e k v : Int32} {s : am_S} {A c : Nat} (h : pe_G s A c) : am_rd (nI (am_nf s)) (am_nl x e k v s) = (true, k, v, am_nl x e k v s) := by
  have hb : am_nf s < 2 ^ 31 := by have := h.2.1; have := h.2.2.2.1; omega
  have e1 : am_fK (am_nl x e k v s) (am_nf s) = k := am_up_s
  have e2 : am_fV (am_nl x e k v s) (am_nf s) = v := am_up_s
  unfold am_rd
  rw [if_neg (nI_pos hb), nI_clamp hb, e1, e2]
theorem pe_tf : ¬ (true = false) := by decide
theorem pe_ft : ¬ (false = true) := by decide
/-- one choice: goes on?, choices, locations, counter, weight -/
def pe_M1 (mC mA : Nat) (f w : Nat) (x : Bool) (i A c : Nat) : Bool × Nat × Nat × Nat × Nat :=
  if mC ≤ i then (false, i, A, c, 0) else if x = true then (if f = 0 then (true, i + 1, A, c, w) else if f = 1 then (if mA ≤ A then (false, i + 1, A, c, 0) else (true, i + 1, A + 1, c, w)) else (true, i + 1, A, c + 1, w)) else (true, i + 1, A, c, 0)
def pe_M (mC mA : Nat) (f w : Nat → Nat) (b : Nat → Bool) : Nat → Nat → Nat → Nat → Nat → Bool × Nat × Nat × Nat × Nat
  | 0, i, A, c, t => (true, i, A, c, t)
  | r + 1, i, A, c, t => if (pe_M1 mC mA (f i) (w i) (b i) i A c).1 = true then pe_M mC mA f w b r (i + 1) (pe_M1 mC mA (f i) (w i) (b i) i A c).2.2.1 (pe_M1 mC mA (f i) (w i) (b i) i A c).2.2.2.1 (t + (pe_M1 mC mA (f i) (w i) (b i) i A c).2.2.2.2) else (false, (pe_M1 mC mA (f i) (w i) (b i) i A c).2.1, A, c, t)
theorem pe_M_s (mC mA : Nat) (f w : Nat → Nat) (b : Nat → Bool) (r i A c t : Nat) : pe_M mC mA f w b (r + 1) i A c t = if (pe_M1 mC mA (f i) (w i) (b i) i A c).1 = true then pe_M mC mA f w b r (i + 1) (pe_M1 mC mA (f i) (w i) (b i) i A c).2.2.1 (pe_M1 mC mA (f i) (w i) (b i) i A c).2.2.2.1 (t + (pe_M1 mC mA (f i) (w i) (b i) i A c).2.2.2.2) else (false, (pe_M1 mC mA (f i) (w i) (b i) i A c).2.1, A, c, t) := rfl
section
variable {n : Nat} {tk ta : Nat → Int32} {mC mA : Nat} {b : Nat → Bool} {s : am_S} {A c : Nat}
theorem pe_eN0 {p : Nat} (hp : p < n) (hk : tk p = 0) : am_eN tk n p = p + 1 := am_eN_0 hp (by rw [hk]; decide)
theorem pe_eN1 {p : Nat} (hp : p < n) (hk : tk p = 1) : am_eN tk n p = p + 1 := am_eN_0 hp (by rw [hk]; decide)
theorem pe_eNW {f q : Nat} {w : Int32} (h : pe_at tk ta q (pe_W f w)) (hn : q + (pe_W f w).length ≤ n) : am_eN tk n q = q + (pe_W f w).length := by
  unfold pe_W at h hn ⊢
  by_cases f0 : f = 0
  · rw [if_pos f0] at h hn ⊢
    obtain ⟨⟨a1, _⟩, _⟩ := h
    exact pe_eN0 (by have : q + 1 ≤ n := hn; omega) a1
  rw [if_neg f0] at h hn ⊢
  by_cases f1 : f = 1
  · rw [if_pos f1] at h hn ⊢
    have hn3 : q + 3 ≤ n := hn
    obtain ⟨⟨a1, _⟩, ⟨a2, _⟩, ⟨a3, _⟩, _⟩ := h
    rw [am_eN_2 (by omega) (by rw [a1]; decide), pe_eN0 (by omega) a2, pe_eN1 (by omega) a3]
    rfl
  · rw [if_neg f1] at h hn ⊢
    have hn6 : q + 6 ≤ n := hn
    obtain ⟨⟨a1, _⟩, ⟨a2, _⟩, ⟨a3, _⟩, ⟨a4, _⟩, ⟨a5, _⟩, ⟨a6, _⟩, _⟩ := h
    rw [am_eN_2 (by omega) (by rw [a1]; decide), am_eN_1 (p := q + 1) (by omega) (by rw [a2]; decide), am_eN_2 (p := q + 1 + 1) (by omega) (by rw [a3]; decide), pe_eN1 (by omega) a4, pe_eN0 (by omega) a5, pe_eN0 (by omega) a6]
    rfl
/-- the second alternative -/
theorem pe_evW {f w q F : Nat} (h : pe_at tk ta q (pe_W f (nI w))) (hn : q + (pe_W f (nI w)).length ≤ n) (g : pe_G s A c) (h16 : mA ≤ 16) :
    (f = 1 → mA ≤ A → am_ev n tk ta mC mA b (F + 6) q (nI 0) s = am_fl s) ∧
    (¬ (f = 1 ∧ mA ≤ A) → ∃ s', am_ev n tk ta mC mA b (F + 6) q (nI 0) s = (true, 1, nI w, s') ∧ am_us s' = am_us s ∧ pe_G s' (if f = 1 then A + 1 else A) (if f = 0 then c else if f = 1 then c else c + 1)) := by
  unfold pe_W at h hn
  by_cases f0 : f = 0
  · rw [if_pos f0] at h hn
    have hn1 : q + 1 ≤ n := hn
    obtain ⟨⟨a1, t1⟩, _⟩ := h
    refine ⟨fun z => absurd (f0.symm.trans z) (by decide), fun _ => ⟨s, ?_, rfl, ?_⟩⟩
    · rw [pe_v0 (by omega) a1, t1]
    · rw [if_pos f0, if_neg (by omega)]
      exact g
  rw [if_neg f0] at h hn
  by_cases f1 : f = 1
  · rw [if_pos f1] at h hn
    have hn3 : q + 3 ≤ n := hn
    obtain ⟨⟨a1, t1⟩, ⟨a2, t2⟩, ⟨a3, t3⟩, _⟩ := h
    have ea : am_ev n tk ta mC mA b (F + 6) q (nI 0) s = am_c11 n tk ta mA (am_ev n tk ta mC mA b (F + 5)) q (nI 0) 1 (nI w) s := by
      rw [pe_v11 (by omega) a1]
      unfold am_e11
      rw [pe_v0 (F := F + 4) (by omega) a2, t2]
      rfl
    have e2 : am_eN tk n (q + 1) = q + 2 := pe_eN0 (by omega) a2
    refine ⟨fun _ hm => ?_, fun hm => ⟨am_nl 2 (nI 0) 1 (nI w) s, ?_, rfl, ?_⟩⟩
    · rw [ea]
      unfold am_c11
      rw [if_pos (by rw [pe_G_al g]; exact hm)]
    · have hm' : ¬ mA ≤ am_al s := by rw [pe_G_al g]; exact fun z => hm ⟨f1, z⟩
      rw [ea]
      unfold am_c11
      rw [if_neg hm', e2, t1, pe_v1 (F := F + 4) (by omega) a3, t3, pe_lkn g 16, pe_rdn g]
    · rw [if_pos f1, if_neg f0, if_pos f1]
      exact pe_G_nl g (by have : ¬ mA ≤ A := fun z => hm ⟨f1, z⟩; omega)
  · rw [if_neg f1] at h hn
    have hn6 : q + 6 ≤ n := hn
    obtain ⟨⟨a1, _⟩, ⟨a2, t2⟩, ⟨a3, _⟩, ⟨a4, t4⟩, ⟨a5, t5⟩, ⟨a6, t6⟩, _⟩ := h
    have e4 : am_eN tk n (q + 3) = q + 4 := pe_eN1 (by omega) a4
    have e5 : am_eN tk n (q + 4) = q + 5 := pe_eN0 (by omega) a5
    have e3 : am_eN tk n (q + 2) = q + 5 := by rw [am_eN_2 (by omega) (by rw [a3]; decide), e4, e5]
    have e2 : am_eN tk n (q + 1) = q + 5 := by rw [am_eN_1 (by omega) (by rw [a2]; decide), e3]
    have l1 : am_lk s 1 17 (nI 0) = nI 0 := pe_lk1 g 16
    have s3 : am_ev n tk ta mC mA b (F + 4) (q + 2) (nI 0) s = (true, 1, nI (c + 1), s) := by
      rw [pe_v2 (F := F + 3) (by omega) a3]
      unfold am_e2
      rw [pe_v1 (F := F + 2) (by omega) a4, t4, l1, pe_rd1 g, am_bd_t rfl]
      unfold am_c2
      rw [e4, pe_v0 (F := F + 2) (by omega) a5, t5, am_bd_t rfl]
      unfold am_ca
      rw [if_pos ⟨rfl, rfl⟩, a3]
      show (true, (1 : Int32), nI c + 1, s) = (true, 1, nI (c + 1), s)
      rw [nI_1]
    have s2 : am_ev n tk ta mC mA b (F + 5) (q + 1) (nI 0) s = (true, 1, nI (c + 1), am_sl 0 1 (nI (c + 1)) s) := by
      rw [pe_v14 (F := F + 4) (by omega) a2]
      unfold am_e14
      rw [s3, am_bd_t rfl]
      unfold am_c14 am_wr
      rw [t2, l1, if_neg (nI_pos (by omega)), nI_clamp (by omega)]
    refine ⟨fun z => absurd z f1, fun _ => ⟨am_sl 0 1 (nI (c + 1)) s, ?_, rfl, ?_⟩⟩
    · rw [pe_v15 (by omega) a1]
      unfold am_e15
      rw [s2, am_bd_t rfl]
      unfold am_c15
      rw [e2, pe_v0 (F := F + 4) (by omega) a6, t6]
    · rw [if_neg f1, if_neg f0, if_neg f1]
      exact pe_G_sl g
theorem pe_G_tick (g : pe_G s A c) : pe_G (am_tick s) A c := g
/-- a choice -/
theorem pe_amb {f w p F i : Nat} (h : pe_at tk ta p ((8, 0) :: (0, 0) :: pe_W f (nI w))) (hn : p + 2 + (pe_W f (nI w)).length ≤ n) (g : pe_G s A c) (h16 : mA ≤ 16) (hu : am_us s = i) :
    ((pe_M1 mC mA f w (b i) i A c).1 = false → (am_ev n tk ta mC mA b (F + 7) p (nI 0) s).1 = false ∧ am_us (am_ev n tk ta mC mA b (F + 7) p (nI 0) s).2.2.2 = (pe_M1 mC mA f w (b i) i A c).2.1) ∧
    ((pe_M1 mC mA f w (b i) i A c).1 = true → ∃ s', am_ev n tk ta mC mA b (F + 7) p (nI 0) s = (true, 1, nI (pe_M1 mC mA f w (b i) i A c).2.2.2.2, s') ∧ am_us s' = i + 1 ∧ pe_G s' (pe_M1 mC mA f w (b i) i A c).2.2.1 (pe_M1 mC mA f w (b i) i A c).2.2.2.1) := by
  obtain ⟨⟨a1, _⟩, ⟨a2, t2⟩, hW⟩ := h
  have ev : am_ev n tk ta mC mA b (F + 7) p (nI 0) s = am_e8 n tk mC b (am_ev n tk ta mC mA b (F + 6)) p (nI 0) s := pe_v8 (by omega) a1
  have e1 : am_eN tk n (p + 1) = p + 2 := pe_eN0 (by omega) a2
  unfold am_e8 at ev
  rw [hu] at ev
  unfold pe_M1
  by_cases m : mC ≤ i
  · rw [if_pos m] at ev ⊢
    rw [ev]
    exact ⟨fun _ => ⟨rfl, hu⟩, fun z => absurd z pe_ft⟩
  rw [if_neg m] at ev ⊢
  have hut : am_us (am_tick s) = i + 1 := by rw [← hu]; rfl
  cases hb : b i with
  | false =>
    have eq : am_q8 n tk p false = p + 1 := if_neg (by decide)
    rw [hb, eq, pe_v0 (F := F + 5) (by omega) a2, t2] at ev
    rw [if_neg (by decide)]
    exact ⟨fun z => absurd z pe_tf, fun _ => ⟨am_tick s, ev, hut, pe_G_tick g⟩⟩
  | true =>
    have eq : am_q8 n tk p true = p + 2 := by unfold am_q8; rw [if_pos rfl, e1]
    rw [hb, eq] at ev
    rw [if_pos rfl]
    obtain ⟨w1, w2⟩ := pe_evW (n := n) (mC := mC) (b := b) (F := F) hW hn (pe_G_tick g) h16
    by_cases f0 : f = 0
    · rw [if_pos f0]
      obtain ⟨s', z1, z2, z3⟩ := w2 (by omega)
      rw [if_neg (by omega), if_pos f0] at z3
      exact ⟨fun z => absurd z pe_tf, fun _ => ⟨s', ev.trans z1, z2.trans hut, z3⟩⟩
    rw [if_neg f0]
    by_cases f1 : f = 1
    · rw [if_pos f1]
      by_cases ma : mA ≤ A
      · rw [if_pos ma]
        have z1 := ev.trans (w1 f1 ma)
        rw [z1]
        exact ⟨fun _ => ⟨rfl, hut⟩, fun z => absurd z pe_ft⟩
      · rw [if_neg ma]
        obtain ⟨s', z1, z2, z3⟩ := w2 (fun z => ma z.2)
        rw [if_pos f1, if_neg f0, if_pos f1] at z3
        exact ⟨fun z => absurd z pe_tf, fun _ => ⟨s', ev.trans z1, z2.trans hut, z3⟩⟩
    · rw [if_neg f1]
      obtain ⟨s', z1, z2, z3⟩ := w2 (fun z => f1 z.1)
      rw [if_neg f1, if_neg f0, if_neg f1] at z3
      exact ⟨fun z => absurd z pe_tf, fun _ => ⟨s', ev.trans z1, z2.trans hut, z3⟩⟩
end
theorem pe_P_s (k : Nat) (f w : Nat → Nat) (i : Nat) : pe_P k f w (i + 1) = pe_P k f w i + (pe_T k f w i).length := by
  unfold pe_P
  show (pe_fl k f w i ++ pe_T k f w i).length = _
  rw [List.length_append]
theorem pe_T_in {k : Nat} {f w : Nat → Nat} {i : Nat} (h : i < k - 1) : pe_T k f w i = (2, 0) :: (8, 0) :: (0, 0) :: pe_W (f i) (nI (w i)) := by
  unfold pe_T
  rw [if_pos h]
  rfl
theorem pe_T_last {k : Nat} {f w : Nat → Nat} {i : Nat} (h : ¬ i < k - 1) : pe_T k f w i = (8, 0) :: (0, 0) :: pe_W (f i) (nI (w i)) := by
  unfold pe_T
  rw [if_neg h]
  rfl
section
variable {n : Nat} {tk ta : Nat → Int32} {mC mA : Nat} {b : Nat → Bool} {k : Nat} {f w : Nat → Nat}
theorem pe_eNA {p f w : Nat} (h : pe_at tk ta p ((8, 0) :: (0, 0) :: pe_W f (nI w))) (hn : p + 2 + (pe_W f (nI w)).length ≤ n) : am_eN tk n p = p + 2 + (pe_W f (nI w)).length := by
  obtain ⟨⟨a1, _⟩, ⟨a2, _⟩, hW⟩ := h
  rw [am_eN_2 (by omega) (by rw [a1]; decide), pe_eN0 (by omega) a2]
  exact pe_eNW hW hn
theorem pe_P_le : ∀ d i : Nat, pe_P k f w i ≤ pe_P k f w (i + d) := by
  intro d
  induction d with
  | zero => intro i; exact Nat.le_refl _
  | succ d ih =>
    intro i
    have h := ih i
    have e : i + (d + 1) = i + d + 1 := by omega
    rw [e, pe_P_s]
    omega
/-- the sum from its i-th part on -/
theorem pe_sum (h16 : mA ≤ 16) (hT : ∀ i, i < k → pe_at tk ta (pe_P k f w i) (pe_T k f w i)) (hn : pe_P k f w k ≤ n) : ∀ (r i : Nat), i + r + 1 = k →
    am_eN tk n (pe_P k f w i) = pe_P k f w k ∧ ∀ (F A c t0 : Nat) (s : am_S), pe_G s A c → am_us s = i →
    ((pe_M mC mA f w b (r + 1) i A c t0).1 = false → (am_ev n tk ta mC mA b (F + r + 8) (pe_P k f w i) (nI 0) s).1 = false ∧ am_us (am_ev n tk ta mC mA b (F + r + 8) (pe_P k f w i) (nI 0) s).2.2.2 = (pe_M mC mA f w b (r + 1) i A c t0).2.1) ∧
    ((pe_M mC mA f w b (r + 1) i A c t0).1 = true → ∃ (s' : am_S) (t : Nat), am_ev n tk ta mC mA b (F + r + 8) (pe_P k f w i) (nI 0) s = (true, 1, nI t, s') ∧ am_us s' = k ∧ pe_G s' (pe_M mC mA f w b (r + 1) i A c t0).2.2.1 (pe_M mC mA f w b (r + 1) i A c t0).2.2.2.1 ∧ (pe_M mC mA f w b (r + 1) i A c t0).2.2.2.2 = t0 + t) := by
  intro r
  induction r with
  | zero =>
    intro i hi
    have hl : ¬ i < k - 1 := by omega
    have h := hT i (by omega)
    have hP := pe_P_s k f w i
    have ek : i + 1 = k := by omega
    rw [ek, pe_T_last hl, List.length_cons, List.length_cons] at hP
    rw [pe_T_last hl] at h
    refine ⟨?_, fun F A c t0 s g hu => ?_⟩
    · rw [pe_eNA h (by omega)]
      omega
    · obtain ⟨q1, q2⟩ := pe_amb (n := n) (mC := mC) (b := b) (F := F + 1) h (by omega) g h16 hu
      rw [pe_M_s]
      have eF : F + 0 + 8 = F + 1 + 7 := by omega
      rw [eF]
      cases h1 : (pe_M1 mC mA (f i) (w i) (b i) i A c).1 with
      | false =>
        rw [if_neg (by decide)]
        exact ⟨fun _ => q1 h1, fun z => absurd z pe_ft⟩
      | true =>
        rw [if_pos rfl]
        obtain ⟨s', z1, z2, z3⟩ := q2 h1
        exact ⟨fun z => absurd z (by show ¬ (true = false); decide), fun _ => ⟨s', _, z1, z2.trans ek, z3, rfl⟩⟩
  | succ r ih =>
    intro i hi
    have hl : i < k - 1 := by omega
    have h := hT i (by omega)
    have hP := pe_P_s k f w i
    have hPk := pe_P_le (k := k) (f := f) (w := w) (k - (i + 1)) (i + 1)
    have ek : i + 1 + (k - (i + 1)) = k := by omega
    rw [ek] at hPk
    rw [pe_T_in hl, List.length_cons, List.length_cons, List.length_cons] at hP
    rw [pe_T_in hl] at h
    obtain ⟨⟨a0, _⟩, hA⟩ := h
    obtain ⟨i1, i2⟩ := ih (i + 1) (by omega)
    have e1 : am_eN tk n (pe_P k f w i + 1) = pe_P k f w (i + 1) := by
      rw [pe_eNA hA (by omega)]
      omega
    refine ⟨?_, fun F A c t0 s g hu => ?_⟩
    · rw [am_eN_2 (by omega) (by rw [a0]; decide), e1, i1]
    · obtain ⟨q1, q2⟩ := pe_amb (n := n) (mC := mC) (b := b) (F := F + r + 1) hA (by omega) g h16 hu
      have eF : F + (r + 1) + 8 = (F + r + 8) + 1 := by omega
      have eF2 : F + r + 1 + 7 = F + r + 8 := by omega
      rw [eF2] at q1 q2
      have ev : am_ev n tk ta mC mA b (F + (r + 1) + 8) (pe_P k f w i) (nI 0) s = am_bd (am_ev n tk ta mC mA b (F + r + 8) (pe_P k f w i + 1) (nI 0) s) (am_c2 n tk (am_ev n tk ta mC mA b (F + r + 8)) (pe_P k f w i) (nI 0)) := by
        rw [eF, pe_v2 (by omega) a0]
        rfl
      rw [ev, pe_M_s]
      cases h1 : (pe_M1 mC mA (f i) (w i) (b i) i A c).1 with
      | false =>
        obtain ⟨z1, z2⟩ := q1 h1
        rw [if_neg (by decide), am_bd_f z1]
        exact ⟨fun _ => ⟨rfl, z2⟩, fun z => absurd z pe_ft⟩
      | true =>
        obtain ⟨s1, z1, z2, z3⟩ := q2 h1
        rw [if_pos rfl, z1, am_bd_t rfl]
        unfold am_c2
        rw [e1]
        obtain ⟨j1, j2⟩ := i2 F _ _ (t0 + (pe_M1 mC mA (f i) (w i) (b i) i A c).2.2.2.2) s1 z3 z2
        refine ⟨fun hf => ?_, fun ht => ?_⟩
        · obtain ⟨y1, y2⟩ := j1 hf
          rw [am_bd_f y1]
          exact ⟨rfl, y2⟩
        · obtain ⟨s2, t, y1, y2, y3, y4⟩ := j2 ht
          refine ⟨s2, (pe_M1 mC mA (f i) (w i) (b i) i A c).2.2.2.2 + t, ?_, y2, y3, by rw [y4]; omega⟩
          rw [y1, am_bd_t rfl]
          unfold am_ca
          rw [if_pos ⟨rfl, rfl⟩, a0]
          show (true, (1 : Int32), nI (pe_M1 mC mA (f i) (w i) (b i) i A c).2.2.2.2 + nI t, s2) = _
          rw [nI_add]
end
