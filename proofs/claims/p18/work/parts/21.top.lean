/-! p18: a path of the law's program -/
theorem pe_at_fl {tk ta : Nat → Int32} {k : Nat} {f w : Nat → Nat} : ∀ j : Nat, pe_at tk ta 0 (pe_fl k f w j) → (∀ i, i < j → pe_at tk ta (pe_P k f w i) (pe_T k f w i)) ∧ pe_at tk ta 0 (pe_fl k f w 0) := by
  intro j
  induction j with
  | zero => intro h; exact ⟨fun i hi => absurd hi (Nat.not_lt_zero i), h⟩
  | succ j ih =>
    intro h
    have h2 : pe_at tk ta 0 (pe_fl k f w j ++ pe_T k f w j) := h
    obtain ⟨x, y⟩ := pe_at_app _ _ h2
    obtain ⟨i1, i2⟩ := ih x
    refine ⟨fun i hi => ?_, i2⟩
    by_cases q : i = j
    · subst q
      rw [Nat.zero_add] at y
      exact y
    · exact i1 i (by omega)
theorem pe_lk0 {s : am_S} {A c : Nat} {v : Int32} (g : pe_G s A c) (hA : A < 16) : am_lk (am_nl 0 (nI 0) 1 v s) 1 17 (nI (am_nf s)) = nI 0 := by
  have hb : am_nf s < 2 ^ 31 := by have := g.2.1; omega
  have e1 : am_fVar (am_nl 0 (nI 0) 1 v s) (am_nf s) = 0 := am_up_s
  have e2 : am_fPar (am_nl 0 (nI 0) 1 v s) (am_nf s) = nI 0 := am_up_s
  rw [am_lk_s, if_neg (nI_pos hb), nI_clamp hb, e1, if_neg (by decide), e2]
  exact pe_lk1 (pe_G_nl g hA) 15
section
variable {n : Nat} {tk ta : Nat → Int32} {mC mA : Nat} {b : Nat → Bool} {k c : Nat} {f w : Nat → Nat}
/-- behind the sum -/
theorem pe_tail {A cn t q F : Nat} {s : am_S} (h : pe_at tk ta q (pe_E c)) (hn : q + 7 ≤ n) (hc : c < 2 ^ 31) (ht : t < 2 ^ 31) (g : pe_G s A cn) (hA : A < 16) :
    (c ≤ t → am_ev n tk ta mC mA b (F + 4) q (nI (am_nf s)) (am_nl 0 (nI 0) 1 (nI t) s) = am_fl (am_nl 0 (nI 0) 1 (nI t) s)) ∧
    (t < c → am_ev n tk ta mC mA b (F + 4) q (nI (am_nf s)) (am_nl 0 (nI 0) 1 (nI t) s) = (true, 1, nI (t + cn), am_nl 0 (nI 0) 1 (nI t) s)) := by
  obtain ⟨⟨a0, _⟩, ⟨a1, _⟩, ⟨a2, t2⟩, ⟨a3, t3⟩, ⟨a4, _⟩, ⟨a5, t5⟩, ⟨a6, t6⟩, _⟩ := h
  have e2 : am_eN tk n (q + 2) = q + 3 := pe_eN1 (by omega) a2
  have e3 : am_eN tk n (q + 3) = q + 4 := pe_eN0 (by omega) a3
  have e1 : am_eN tk n (q + 1) = q + 4 := by rw [am_eN_2 (by omega) (by rw [a1]; decide), e2, e3]
  have e5 : am_eN tk n (q + 5) = q + 6 := pe_eN1 (by omega) a5
  have l0 : am_lk (am_nl 0 (nI 0) 1 (nI t) s) 0 17 (nI (am_nf s)) = nI (am_nf s) := pe_lkn g 16
  have l1 : am_lk (am_nl 0 (nI 0) 1 (nI t) s) 1 17 (nI (am_nf s)) = nI 0 := pe_lk0 g hA
  have r0 : am_rd (nI (am_nf s)) (am_nl 0 (nI 0) 1 (nI t) s) = (true, 1, nI t, am_nl 0 (nI 0) 1 (nI t) s) := pe_rdn g
  have r1 : am_rd (nI 0) (am_nl 0 (nI 0) 1 (nI t) s) = (true, 1, nI cn, am_nl 0 (nI 0) 1 (nI t) s) := pe_rd1 (pe_G_nl g hA)
  have lt : am_ev n tk ta mC mA b (F + 3) (q + 1) (nI (am_nf s)) (am_nl 0 (nI 0) 1 (nI t) s) = (true, 1, am_op 5 (nI t) (nI c), am_nl 0 (nI 0) 1 (nI t) s) := by
    rw [pe_v5 (F := F + 2) (by omega) a1]
    unfold am_e2
    rw [pe_v1 (F := F + 1) (by omega) a2, t2, l0, r0, am_bd_t rfl]
    unfold am_c2
    rw [e2, pe_v0 (F := F + 1) (by omega) a3, t3, am_bd_t rfl]
    unfold am_ca
    rw [if_pos ⟨rfl, rfl⟩, a1]
  have eo : am_op 5 (nI t) (nI c) = if nI t < nI c then 1 else 0 := rfl
  have ev : am_ev n tk ta mC mA b (F + 4) q (nI (am_nf s)) (am_nl 0 (nI 0) 1 (nI t) s) = am_c10 n tk (am_ev n tk ta mC mA b (F + 3)) q (nI (am_nf s)) 1 (am_op 5 (nI t) (nI c)) (am_nl 0 (nI 0) 1 (nI t) s) := by
    rw [pe_v10 (F := F + 3) (by omega) a0]
    unfold am_e10
    rw [lt, am_bd_t rfl]
  rw [ev, eo]
  refine ⟨fun z => ?_, fun z => ?_⟩
  · rw [if_neg (nI_nlt z ht)]
    unfold am_c10
    rw [if_neg (fun y => y.2 rfl)]
  · rw [if_pos (nI_lt z hc)]
    unfold am_c10
    rw [if_pos ⟨rfl, by decide⟩, e1, pe_v2 (F := F + 2) (by omega) a4]
    unfold am_e2
    rw [pe_v1 (F := F + 1) (by omega) a5, t5, l0, r0, am_bd_t rfl]
    unfold am_c2
    rw [e5, pe_v1 (F := F + 1) (by omega) a6, t6, l1, r1, am_bd_t rfl]
    unfold am_ca
    rw [if_pos ⟨rfl, rfl⟩, a4]
    show (true, (1 : Int32), nI t + nI cn, am_nl 0 (nI 0) 1 (nI t) s) = _
    rw [nI_add]
theorem pe_top (h : pe_at tk ta 0 (pe_fl k f w k ++ pe_E c)) (hn : n = pe_P k f w k + 7) (hk : 1 ≤ k) (hk5 : k ≤ 5) (h1 : 1 ≤ mA) (h16 : mA ≤ 16) (hc : c < 2 ^ 31) (ht : (pe_M mC mA f w b k 0 1 0 0).2.2.2.2 < 2 ^ 31) :
    ((pe_M mC mA f w b k 0 1 0 0).1 = false → (am_run n tk ta mC mA b).1 = false ∧ am_us (am_run n tk ta mC mA b).2.2.2 = (pe_M mC mA f w b k 0 1 0 0).2.1) ∧
    ((pe_M mC mA f w b k 0 1 0 0).1 = true → (mA ≤ (pe_M mC mA f w b k 0 1 0 0).2.2.1 ∨ c ≤ (pe_M mC mA f w b k 0 1 0 0).2.2.2.2) → (am_run n tk ta mC mA b).1 = false ∧ am_us (am_run n tk ta mC mA b).2.2.2 = k) ∧
    ((pe_M mC mA f w b k 0 1 0 0).1 = true → ¬ mA ≤ (pe_M mC mA f w b k 0 1 0 0).2.2.1 → (pe_M mC mA f w b k 0 1 0 0).2.2.2.2 < c → ∃ s' : am_S, am_run n tk ta mC mA b = (true, 1, nI ((pe_M mC mA f w b k 0 1 0 0).2.2.2.2 + (pe_M mC mA f w b k 0 1 0 0).2.2.2.1), s') ∧ am_us s' = k ∧ am_al s' = (pe_M mC mA f w b k 0 1 0 0).2.2.1 + 1) := by
  obtain ⟨hf, hE⟩ := pe_at_app _ _ h
  obtain ⟨hT, h3⟩ := pe_at_fl k hf
  rw [Nat.zero_add] at hE
  obtain ⟨⟨a0, t0⟩, ⟨a1, t1⟩, ⟨a2, t2⟩, _⟩ := h3
  have hP0 : pe_P k f w 0 = 3 := rfl
  have hPk := pe_P_le (k := k) (f := f) (w := w) k 0
  rw [Nat.zero_add, hP0] at hPk
  have g1 : pe_G (am_nl 1 (-1) 1 0 am_s0) 1 0 := ⟨rfl, rfl, by omega, by omega, rfl, rfl, rfl, rfl⟩
  have u1 : am_us (am_nl 1 (-1) 1 0 am_s0) = 0 := rfl
  obtain ⟨i1, i2⟩ := pe_sum (mC := mC) (b := b) (n := n) h16 hT (by omega) (k - 1) 0 (by omega)
  have ek : k - 1 + 1 = k := by omega
  rw [ek, hP0] at i2
  rw [hP0] at i1
  have i3 := i2 (543 - (k - 1) - 8) 1 0 0 _ g1 u1
  have eF : 543 - (k - 1) - 8 + (k - 1) + 8 = 543 := by omega
  rw [eF] at i3
  have e1 : am_eN tk n 1 = 2 := pe_eN0 (by omega) a1
  have ev1 : am_run n tk ta mC mA b = am_ev n tk ta mC mA b 544 2 (nI 0) (am_nl 1 (-1) 1 0 am_s0) := by
    unfold am_run
    rw [pe_v11 (F := 544) (by omega) a0]
    unfold am_e11
    rw [pe_v0 (F := 543) (by omega) a1, t1, am_bd_t rfl]
    unfold am_c11
    rw [if_neg (by show ¬ mA ≤ 0; omega), t0]
    show am_ev n tk ta mC mA b 544 (am_eN tk n 1) (nI 0) (am_nl 1 (-1) 1 0 am_s0) = _
    rw [e1]
  have ev2 : am_run n tk ta mC mA b = am_bd (am_ev n tk ta mC mA b 543 3 (nI 0) (am_nl 1 (-1) 1 0 am_s0)) (am_c11 n tk ta mA (am_ev n tk ta mC mA b 543) 2 (nI 0)) := by
    rw [ev1, pe_v11 (F := 543) (by omega) a2]
    rfl
  obtain ⟨q1, q2⟩ := i3
  refine ⟨fun z => ?_, fun z hz => ?_, fun z z1 z2 => ?_⟩
  · obtain ⟨y1, y2⟩ := q1 z
    rw [ev2, am_bd_f y1]
    exact ⟨rfl, y2⟩
  · obtain ⟨s', t, y1, y2, y3, y4⟩ := q2 z
    rw [Nat.zero_add] at y4
    rw [y4] at ht hz
    rw [ev2, y1, am_bd_t rfl]
    unfold am_c11
    by_cases m : mA ≤ am_al s'
    · rw [if_pos m]
      exact ⟨rfl, y2⟩
    · rw [if_neg m, i1, t2]
      have hA : (pe_M mC mA f w b k 0 1 0 0).2.2.1 < mA := by rw [← pe_G_al y3]; omega
      have hct : c ≤ t := by
        rcases hz with hz | hz
        · omega
        · exact hz
      have tl := (pe_tail (mC := mC) (mA := mA) (b := b) (n := n) (F := 539) hE (by unfold pe_P at hn; omega) hc ht y3 (by omega)).1 hct
      have tl2 : am_ev n tk ta mC mA b 543 (pe_P k f w k) (nI (am_nf s')) (am_nl 0 (nI 0) 1 (nI t) s') = am_fl (am_nl 0 (nI 0) 1 (nI t) s') := tl
      rw [tl2]
      exact ⟨rfl, y2⟩
  · obtain ⟨s', t, y1, y2, y3, y4⟩ := q2 z
    rw [Nat.zero_add] at y4
    rw [y4] at ht z2 ⊢
    have hA : (pe_M mC mA f w b k 0 1 0 0).2.2.1 < mA := by omega
    have m : ¬ mA ≤ am_al s' := by rw [pe_G_al y3]; exact z1
    have tl := (pe_tail (mC := mC) (mA := mA) (b := b) (n := n) (F := 539) hE (by unfold pe_P at hn; omega) hc ht y3 (by omega)).2 z2
    have tl2 : am_ev n tk ta mC mA b 543 (pe_P k f w k) (nI (am_nf s')) (am_nl 0 (nI 0) 1 (nI t) s') = (true, 1, nI (t + (pe_M mC mA f w b k 0 1 0 0).2.2.2.1), am_nl 0 (nI 0) 1 (nI t) s') := tl
    refine ⟨am_nl 0 (nI 0) 1 (nI t) s', ?_, y2, ?_⟩
    · rw [ev2, y1, am_bd_t rfl]
      unfold am_c11
      rw [if_neg m, i1, t2]
      exact tl2
    · rw [am_al_nl, pe_G_al y3]
end
