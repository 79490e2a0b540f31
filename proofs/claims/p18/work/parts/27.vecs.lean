/-! p18: the law's loop over the choice vectors -/
def pe_sk (k mC mA n : Nat) (tk ta : Nat → Int32) (v : Nat) : Prop := v % 2 ^ (k - am_us (am_run n tk ta mC mA (pe_b k v)).2.2.2) ≠ 0
theorem pe_vec {k mC mA n : Nat} {tk ta : Nat → Int32} {b : Nat → Bool} {L0 : Nat} (hV : am_V mC mA n tk ta b L0) (hu : am_us (am_run n tk ta mC mA b).2.2.2 ≤ k) :
    am_nm b k % 2 ^ (k - am_us (am_run n tk ta mC mA b).2.2.2) = 0 ∧ pe_b k (am_nm b k) = b ∧
    (am_la b (am_us (am_run n tk ta mC mA b).2.2.2) = 0 → ∀ v, am_nm b k < v → v < 2 ^ k → pe_sk k mC mA n tk ta v) ∧
    (∀ q, am_la b (am_us (am_run n tk ta mC mA b).2.2.2) = q + 1 → am_nm b k < am_nm (am_sb b q) k ∧ ∀ v, am_nm b k < v → v < am_nm (am_sb b q) k → pe_sk k mC mA n tk ta v) := by
  have hz : ∀ j, am_us (am_run n tk ta mC mA b).2.2.2 ≤ j → b j = false := fun j hj => hV.2.1 j (Nat.le_trans hV.2.2 hj)
  have ek : am_us (am_run n tk ta mC mA b).2.2.2 + (k - am_us (am_run n tk ta mC mA b).2.2.2) = k := by omega
  have e0 := pe_nm_z hz (k - am_us (am_run n tk ta mC mA b).2.2.2)
  rw [ek] at e0
  have hD : 0 < 2 ^ (k - am_us (am_run n tk ta mC mA b).2.2.2) := Nat.two_pow_pos _
  have key : ∀ v, am_nm b k < v → v < (am_nm b (am_us (am_run n tk ta mC mA b).2.2.2) + 1) * 2 ^ (k - am_us (am_run n tk ta mC mA b).2.2.2) → pe_sk k mC mA n tk ta v := by
    intro v h1 h2
    have hd := pe_div hD (by rw [← e0]; exact Nat.le_of_lt h1) h2
    have hs := pe_same (n := n) (tk := tk) (ta := ta) (mC := mC) (mA := mA) (b := b) (b2 := pe_b k v) (fun i hi => (pe_b_agree hu hd i hi).symm)
    unfold pe_sk
    rw [hs]
    exact pe_mod hd (by rw [← e0]; exact Nat.ne_of_gt h1)
  refine ⟨by rw [e0]; exact pe_mod0 _ _, pe_b_nm (fun j hj => hz j (by omega)), fun hl v h1 h2 => ?_, fun q hl => ?_⟩
  · have ht := pe_nm_top _ hl
    exact key v h1 (by rw [ht, ← Nat.pow_add, ek]; exact h2)
  · have hn2 := pe_nm_next _ hl
    have hq := (am_la_q _ hl).1
    have e1 := pe_nm_z (b := am_sb b q) (u := am_us (am_run n tk ta mC mA b).2.2.2) (fun j hj => am_sb_hi (by omega)) (k - am_us (am_run n tk ta mC mA b).2.2.2)
    rw [ek, hn2] at e1
    refine ⟨?_, fun v h1 h2 => key v h1 (by rw [← e1]; exact h2)⟩
    rw [e0, e1, Nat.add_mul]
    omega
/-- what stands throughout -/
def pe_H (L : Nat) (xs : Nat → Int32) (k mC mA c n : Nat) (tk ta : Nat → Int32) : Prop := L ≤ 260 ∧ 1 ≤ k ∧ k < 6 ∧ mC ≤ 6 ∧ 1 ≤ mA ∧ mA ≤ 16 ∧ c < 600 ∧ n ≤ 32 ∧ n = pe_P k (pe_f (pe_g L xs) (32 - (9 + 4 * k))) (pe_w L xs) k + 7 ∧ pe_at tk ta 0 (pe_fl k (pe_f (pe_g L xs) (32 - (9 + 4 * k))) (pe_w L xs) k ++ pe_E c) ∧ ∀ i, i < n → am_kd (tk i)
section
variable {L : Nat} {xs : Nat → Int32} {k mC mA c n : Nat} {tk ta : Nat → Int32}
theorem pe_res (H : pe_H L xs k mC mA c n tk ta) (b : Nat → Bool) :
    am_us (am_run n tk ta mC mA b).2.2.2 ≤ k ∧ ((am_run n tk ta mC mA b).1 = false → pe_enc mA k c (pe_M mC mA (pe_f (pe_g L xs) (32 - (9 + 4 * k))) (pe_w L xs) b k 0 1 0 0) = pe_ff (am_us (am_run n tk ta mC mA b).2.2.2)) ∧
    ((am_run n tk ta mC mA b).1 = true → ∃ (x : Nat) (s' : am_S), (am_run n tk ta mC mA b) = (true, 1, nI x, s') ∧ am_us s' = k ∧ am_al s' < 18 ∧ x < 600 ∧ pe_enc mA k c (pe_M mC mA (pe_f (pe_g L xs) (32 - (9 + 4 * k))) (pe_w L xs) b k 0 1 0 0) = pe_ok k (am_al s') x) := by
  obtain ⟨hL, hk1, hk, hC, h1, hA, hc, hn, en, hat, hK⟩ := H
  obtain ⟨b1, b2, b3, b4⟩ := pe_M_b (mC := mC) (mA := mA) (k := k) (f := pe_f (pe_g L xs) (32 - (9 + 4 * k))) (w := pe_w L xs) (b := b) (pe_w_lt L xs) k 0 1 0 0 (by omega) h1 (by omega) (by omega)
  obtain ⟨t1, t2, t3⟩ := pe_top (b := b) (mC := mC) hat en hk1 (by omega) h1 hA (by omega) (by omega)
  unfold pe_enc
  cases hR : (pe_M mC mA (pe_f (pe_g L xs) (32 - (9 + 4 * k))) (pe_w L xs) b k 0 1 0 0).1 with
  | false =>
    obtain ⟨r1, r2⟩ := t1 hR
    refine ⟨by omega, fun _ => ?_, fun z => absurd (r1.symm.trans z) (by decide)⟩
    rw [if_neg (by decide), r2]
  | true =>
    rw [if_pos rfl]
    by_cases q : mA ≤ (pe_M mC mA (pe_f (pe_g L xs) (32 - (9 + 4 * k))) (pe_w L xs) b k 0 1 0 0).2.2.1
    · obtain ⟨r1, r2⟩ := t2 hR (Or.inl q)
      refine ⟨by omega, fun _ => ?_, fun z => absurd (r1.symm.trans z) (by decide)⟩
      rw [if_pos q, r2]
    by_cases q2 : (pe_M mC mA (pe_f (pe_g L xs) (32 - (9 + 4 * k))) (pe_w L xs) b k 0 1 0 0).2.2.2.2 < c
    · obtain ⟨s', r1, r2, r3⟩ := t3 hR q q2
      rw [r1]
      refine ⟨by show am_us s' ≤ k; omega, fun z => absurd z (by show ¬ (true = false); decide), fun _ => ⟨_, s', rfl, r2, by omega, by omega, ?_⟩⟩
      rw [if_neg q, if_pos q2, r3]
    · obtain ⟨r1, r2⟩ := t2 hR (Or.inr (by omega))
      refine ⟨by omega, fun _ => ?_, fun z => absurd (r1.symm.trans z) (by decide)⟩
      rw [if_neg q, if_neg q2, r2]
def pe_Inv (k mC mA n : Nat) (tk ta : Nat → Int32) (v : Nat) (fails sols : Int32) (u : St2) : Prop :=
  ∃ (lK lV lA : Int32) (lc : Nat) (lb : Nat → Bool),
    (∃ (b : Nat → Bool) (L0 : Nat), am_V mC mA n tk ta b L0 ∧ v ≤ am_nm b k ∧ (∀ v', v ≤ v' → v' < am_nm b k → pe_sk k mC mA n tk ta v') ∧ pe_N0 mC mA n tk ta sols fails lK lV lA lc lb b L0 u) ∨
    ((∀ v', v ≤ v' → v' < 2 ^ k → pe_sk k mC mA n tk ta v') ∧ pe_N1 mC mA n tk ta sols fails lK lV lA lc lb u)
variable {v : Nat} {fails sols : Int32} {u : St2}
theorem pe_Inv_sk (h : pe_Inv k mC mA n tk ta v fails sols u) (H : pe_H L xs k mC mA c n tk ta) (hs : pe_sk k mC mA n tk ta v) : pe_Inv k mC mA n tk ta (v + 1) fails sols u := by
  obtain ⟨lK, lV, lA, lc, lb, h⟩ := h
  refine ⟨lK, lV, lA, lc, lb, ?_⟩
  rcases h with ⟨b, L0, hV, h1, h2, h3⟩ | ⟨h1, h2⟩
  · have hne : v ≠ am_nm b k := by
      intro z
      obtain ⟨p1, p2, _⟩ := pe_vec hV (pe_res H b).1
      unfold pe_sk at hs
      rw [z, p2] at hs
      exact hs p1
    exact Or.inl ⟨b, L0, hV, by omega, fun v' a1 a2 => h2 v' (by omega) a2, h3⟩
  · exact Or.inr ⟨fun v' a1 a2 => h1 v' (by omega) a2, h2⟩
/-- a vector that isn't skipped is the component's next one -/
theorem pe_Inv_at (h : pe_Inv k mC mA n tk ta v fails sols u) (hv : v < 2 ^ k) (hs : ¬ pe_sk k mC mA n tk ta v) : ∃ (lK lV lA : Int32) (lc : Nat) (lb : Nat → Bool) (b : Nat → Bool) (L0 : Nat), am_V mC mA n tk ta b L0 ∧ v = am_nm b k ∧ pe_N0 mC mA n tk ta sols fails lK lV lA lc lb b L0 u := by
  obtain ⟨lK, lV, lA, lc, lb, h⟩ := h
  rcases h with ⟨b, L0, hV, h1, h2, h3⟩ | ⟨h1, h2⟩
  · refine ⟨lK, lV, lA, lc, lb, b, L0, hV, ?_, h3⟩
    rcases Nat.lt_or_ge v (am_nm b k) with z | z
    · exact absurd (h2 v (Nat.le_refl v) z) hs
    · omega
  · exact absurd (h1 v (Nat.le_refl v) hv) hs
theorem pe_Inv_f {lK lV lA : Int32} {lc : Nat} {lb b : Nat → Bool} {L0 : Nat} (H : pe_H L xs k mC mA c n tk ta) (hV : am_V mC mA n tk ta b L0) (hr : (am_run n tk ta mC mA b).1 = false) (h : pe_N0 mC mA n tk ta sols fails lK lV lA lc lb b L0 u) : pe_Inv k mC mA n tk ta (am_nm b k + 1) (fails + 1) sols u := by
  obtain ⟨_, _, p3, p4⟩ := pe_vec hV (pe_res H b).1
  obtain ⟨hL, hk1, hk, hC, h1, hA, hc, hn, en, hat, hK⟩ := H
  refine ⟨lK, lV, lA, lc, lb, ?_⟩
  cases hq : am_la b (am_us (am_run n tk ta mC mA b).2.2.2) with
  | zero => exact Or.inr ⟨fun v' a1 a2 => p3 hq v' (by omega) a2, pe_N0_f0 hC hA hn hK hV hr hq h⟩
  | succ q =>
    obtain ⟨p5, p6⟩ := p4 q hq
    exact Or.inl ⟨am_sb b q, q + 1, am_V_nb hA hn hq, by omega, fun v' a1 a2 => p6 v' (by omega) a2, pe_N0_f1 hC hA hn hK hV hr hq h⟩
/-- behind a solution -/
theorem pe_Inv_s {lK lV lA : Int32} {lc : Nat} {lb b : Nat → Bool} {L0 : Nat} (H : pe_H L xs k mC mA c n tk ta) (hV : am_V mC mA n tk ta b L0) (hu : am_us (am_run n tk ta mC mA b).2.2.2 = k) (h : am_RX mC mA n tk ta 1 sols fails lK lV lA lc lb (am_ov b k) (am_nb b k) (am_la b k) u) : pe_Inv k mC mA n tk ta (am_nm b k + 1) fails sols u := by
  obtain ⟨_, _, p3, p4⟩ := pe_vec hV (pe_res H b).1
  obtain ⟨hL, hk1, hk, hC, h1, hA, hc, hn, en, hat, hK⟩ := H
  refine ⟨lK, lV, lA, lc, lb, ?_⟩
  cases hq : am_la b k with
  | zero =>
    rw [am_ov_t hq] at h
    exact Or.inr ⟨fun v' a1 a2 => p3 (by rw [hu]; exact hq) v' (by omega) a2, pe_N1_of (by decide) h⟩
  | succ q =>
    rw [am_ov_f hq, am_nb_q hq, hq] at h
    have hq2 : am_la b (am_us (am_run n tk ta mC mA b).2.2.2) = q + 1 := by rw [hu]; exact hq
    obtain ⟨p5, p6⟩ := p4 q hq2
    exact Or.inl ⟨am_sb b q, q + 1, am_V_nb hA hn hq2, by omega, fun v' a1 a2 => p6 v' (by omega) a2, pe_N0_of h⟩
theorem pe_nm00 : ∀ k, am_nm (fun _ => false) k = 0 := by
  intro k
  induction k with
  | zero => rfl
  | succ k ih => rw [am_nm_s, ih]; rfl
theorem pe_Inv_0 {lK lV lA : Int32} {lb : Nat → Bool} (h : am_RX mC mA n tk ta 1 sols fails lK lV lA 0 lb false (fun _ => false) 0 u) : pe_Inv k mC mA n tk ta 0 fails sols u :=
  ⟨_, _, _, _, _, Or.inl ⟨(fun _ => false), 0, am_V0 mC mA n tk ta, Nat.zero_le _, fun v' _ a2 => absurd a2 (by rw [pe_nm00]; omega), pe_N0_of h⟩⟩
end
