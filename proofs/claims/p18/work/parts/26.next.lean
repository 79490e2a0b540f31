/-! p18: next() from path to path, on the component's side alone -/
def pe_N0 (mC mA n : Nat) (tk ta : Nat → Int32) (sols fails lK lV lA : Int32) (lc : Nat) (lb : Nat → Bool) (b : Nat → Bool) (L0 : Nat) (u : St2) : Prop :=
  ∃ i f : Nat, i ≤ am_nm b 6 ∧ 65 ≤ f + i ∧ ∀ post : Int32 → St2 → Prop, (∀ (f_failed f_choicesMade f_allocsMade f_visiting f_position f_environment f_resultIsClosure f_resultValue f_depth : Int32) (en a_locationVariable a_locationOuter a_locationIsClosure a_locationValue a_closureToken a_closureEnvironment a_frameToken a_frameEnvironment a_frameHasFirst a_frameFirstIsClosure a_frameFirstValue : Nat → Int32), (∀ j, j < n → en j = nI (am_eN tk n j)) → wX_next_11 post f (nI i) (nI mC) (nI mA) (nI n) 1 sols fails lK lV (nI (am_nm lb lc)) (nI lc) lA (nI (am_nm b L0)) (nI L0) 1 f_failed f_choicesMade f_allocsMade f_visiting f_position f_environment f_resultIsClosure f_resultValue f_depth tk ta en a_locationVariable a_locationOuter a_locationIsClosure a_locationValue a_closureToken a_closureEnvironment a_frameToken a_frameEnvironment a_frameHasFirst a_frameFirstIsClosure a_frameFirstValue) → wpX_next post u
def pe_N1 (mC mA n : Nat) (tk ta : Nat → Int32) (sols fails lK lV lA : Int32) (lc : Nat) (lb : Nat → Bool) (u : St2) : Prop :=
  ∀ post : Int32 → St2 → Prop, (∀ u', am_RX mC mA n tk ta 2 sols fails lK lV lA lc lb true (fun _ => false) 0 u' → post 0 u') → wpX_next post u
section
variable {mC mA n : Nat} {tk ta : Nat → Int32} {ph sols fails lK lV lA : Int32} {lc : Nat} {lb b : Nat → Bool} {L0 : Nat} {u : St2}
theorem pe_N0_of (h : am_RX mC mA n tk ta 1 sols fails lK lV lA lc lb false b L0 u) : pe_N0 mC mA n tk ta sols fails lK lV lA lc lb b L0 u := by
  obtain ⟨f_steering, f_steeringLength, f_pathLeft, f_failed, f_choicesMade, f_allocsMade, f_visiting, f_position, f_environment, f_resultIsClosure, f_resultValue, f_depth, a_ends, a_locationVariable, a_locationOuter, a_locationIsClosure, a_locationValue, a_closureToken, a_closureEnvironment, a_frameToken, a_frameEnvironment, a_frameHasFirst, a_frameFirstIsClosure, a_frameFirstValue, rfl, hx⟩ := h
  obtain ⟨hen, x1, x2⟩ := hx (by decide)
  obtain ⟨x3, x4⟩ := x2 rfl
  subst x1
  subst x3
  subst x4
  exact ⟨0, 65, Nat.zero_le _, Nat.le_refl _, fun post h => br_f (by decide) ⟨65, h _ _ _ _ _ _ _ _ _ _ _ _ _ _ _ _ _ _ _ _ _ hen⟩⟩
theorem pe_N1_of (p0 : ¬ ph = 0) (h : am_RX mC mA n tk ta ph sols fails lK lV lA lc lb true b L0 u) : pe_N1 mC mA n tk ta sols fails lK lV lA lc lb u := by
  obtain ⟨f_steering, f_steeringLength, f_pathLeft, f_failed, f_choicesMade, f_allocsMade, f_visiting, f_position, f_environment, f_resultIsClosure, f_resultValue, f_depth, a_ends, a_locationVariable, a_locationOuter, a_locationIsClosure, a_locationValue, a_closureToken, a_closureEnvironment, a_frameToken, a_frameEnvironment, a_frameHasFirst, a_frameFirstIsClosure, a_frameFirstValue, rfl, hx⟩ := h
  obtain ⟨hen, x1, x2⟩ := hx p0
  intro post h
  have g := h (nI mC, nI mA, nI n, 2, sols, fails, lK, lV, nI (am_nm lb lc), nI lc, lA, f_steering, f_steeringLength, f_pathLeft, f_failed, f_choicesMade, f_allocsMade, f_visiting, f_position, f_environment, f_resultIsClosure, f_resultValue, f_depth, tk, ta, a_ends, a_locationVariable, a_locationOuter, a_locationIsClosure, a_locationValue, a_closureToken, a_closureEnvironment, a_frameToken, a_frameEnvironment, a_frameHasFirst, a_frameFirstIsClosure, a_frameFirstValue) ⟨f_steering, f_steeringLength, f_pathLeft, f_failed, f_choicesMade, f_allocsMade, f_visiting, f_position, f_environment, f_resultIsClosure, f_resultValue, f_depth, a_ends, a_locationVariable, a_locationOuter, a_locationIsClosure, a_locationValue, a_closureToken, a_closureEnvironment, a_frameToken, a_frameEnvironment, a_frameHasFirst, a_frameFirstIsClosure, a_frameFirstValue, rfl, fun _ => ⟨hen, x1, fun z => absurd z (by decide)⟩⟩
  refine br_f p0 ⟨1, ?_⟩
  rw [wX_next_11]
  exact br_f (by decide) (br_t x1 g)
theorem pe_N0_f0 (hC : mC ≤ 6) (hA : mA ≤ 16) (hn : n ≤ 32) (hK : ∀ i, i < n → am_kd (tk i)) (hV : am_V mC mA n tk ta b L0) (hr : (am_run n tk ta mC mA b).1 = false) (hq : am_la b (am_us (am_run n tk ta mC mA b).2.2.2) = 0) (h : pe_N0 mC mA n tk ta sols fails lK lV lA lc lb b L0 u) : pe_N1 mC mA n tk ta sols (fails + 1) lK lV lA lc lb u := by
  obtain ⟨i, f, hi, hf, hN⟩ := h
  have h64 := am_nm_le (b := b) (Nat.le_refl 6)
  obtain ⟨f, rfl⟩ : ∃ f', f = f' + 1 + 1 := ⟨f - 2, by omega⟩
  intro post h
  refine hN post ?_
  intro f_failed f_choicesMade f_allocsMade f_visiting f_position f_environment f_resultIsClosure f_resultValue f_depth en a_locationVariable a_locationOuter a_locationIsClosure a_locationValue a_closureToken a_closureEnvironment a_frameToken a_frameEnvironment a_frameHasFirst a_frameFirstIsClosure a_frameFirstValue hen
  refine am_xpF hC hA hn hK hV hen (by omega) hr ?_
  intro f_steering f_steeringLength f_pathLeft f_failed f_choicesMade f_allocsMade f_visiting f_position f_environment f_resultIsClosure f_resultValue f_depth a_locationVariable a_locationOuter a_locationIsClosure a_locationValue a_closureToken a_closureEnvironment a_frameToken a_frameEnvironment a_frameHasFirst a_frameFirstIsClosure a_frameFirstValue hh
  have e : f_pathLeft = am_pl true := by rw [hh.1, am_ov_t hq]
  have g := h (nI mC, nI mA, nI n, 2, sols, fails + 1, lK, lV, nI (am_nm lb lc), nI lc, lA, f_steering, f_steeringLength, f_pathLeft, f_failed, f_choicesMade, f_allocsMade, f_visiting, f_position, f_environment, f_resultIsClosure, f_resultValue, f_depth, tk, ta, en, a_locationVariable, a_locationOuter, a_locationIsClosure, a_locationValue, a_closureToken, a_closureEnvironment, a_frameToken, a_frameEnvironment, a_frameHasFirst, a_frameFirstIsClosure, a_frameFirstValue) ⟨f_steering, f_steeringLength, f_pathLeft, f_failed, f_choicesMade, f_allocsMade, f_visiting, f_position, f_environment, f_resultIsClosure, f_resultValue, f_depth, en, a_locationVariable, a_locationOuter, a_locationIsClosure, a_locationValue, a_closureToken, a_closureEnvironment, a_frameToken, a_frameEnvironment, a_frameHasFirst, a_frameFirstIsClosure, a_frameFirstValue, rfl, fun _ => ⟨hen, e, fun z => absurd z (by decide)⟩⟩
  rw [wX_next_11]
  exact br_c (fun _ => g) (fun _ => br_t e g)
theorem pe_N0_f1 {q : Nat} (hC : mC ≤ 6) (hA : mA ≤ 16) (hn : n ≤ 32) (hK : ∀ i, i < n → am_kd (tk i)) (hV : am_V mC mA n tk ta b L0) (hr : (am_run n tk ta mC mA b).1 = false) (hq : am_la b (am_us (am_run n tk ta mC mA b).2.2.2) = q + 1) (h : pe_N0 mC mA n tk ta sols fails lK lV lA lc lb b L0 u) : pe_N0 mC mA n tk ta sols (fails + 1) lK lV lA lc lb (am_sb b q) (q + 1) u := by
  obtain ⟨i, f, hi, hf, hN⟩ := h
  have h64 := am_nm_le (b := b) (Nat.le_refl 6)
  have hG := am_run_G (tk := tk) (ta := ta) (mC := mC) b hA hn
  have hg := am_V_grow (Nat.le_trans hG.1.1 hC) hq
  obtain ⟨f, rfl⟩ : ∃ f', f = f' + 1 := ⟨f - 1, by omega⟩
  refine ⟨i + 1, f, by omega, by omega, fun post h => hN post ?_⟩
  intro f_failed f_choicesMade f_allocsMade f_visiting f_position f_environment f_resultIsClosure f_resultValue f_depth en a_locationVariable a_locationOuter a_locationIsClosure a_locationValue a_closureToken a_closureEnvironment a_frameToken a_frameEnvironment a_frameHasFirst a_frameFirstIsClosure a_frameFirstValue hen
  refine am_xpF hC hA hn hK hV hen (by omega) hr ?_
  intro f_steering f_steeringLength f_pathLeft f_failed f_choicesMade f_allocsMade f_visiting f_position f_environment f_resultIsClosure f_resultValue f_depth a_locationVariable a_locationOuter a_locationIsClosure a_locationValue a_closureToken a_closureEnvironment a_frameToken a_frameEnvironment a_frameHasFirst a_frameFirstIsClosure a_frameFirstValue hh
  obtain ⟨e1, e2⟩ := hh
  obtain ⟨e3, e4⟩ := e2 (am_ov_f hq)
  rw [am_ov_f hq] at e1
  rw [am_nb_q hq, hq] at e3
  rw [hq] at e4
  subst e1
  subst e3
  subst e4
  exact h _ _ _ _ _ _ _ _ _ _ _ _ _ _ _ _ _ _ _ _ _ hen
theorem pe_N0_s {post : Int32 → St2 → Prop} {k : Nat} {x : Int32} {s' : am_S} (hC : mC ≤ 6) (hA : mA ≤ 16) (hn : n ≤ 32) (hK : ∀ i, i < n → am_kd (tk i)) (hV : am_V mC mA n tk ta b L0) (hr : (am_run n tk ta mC mA b) = (true, 1, x, s')) (hu : am_us s' = k) (hN : pe_N0 mC mA n tk ta sols fails lK lV lA lc lb b L0 u)
    (h : ∀ u', am_RX mC mA n tk ta 1 (sols + 1) fails 1 x (nI (am_al s')) k b (am_ov b k) (am_nb b k) (am_la b k) u' → post 1 u') : wpX_next post u := by
  obtain ⟨i, f, hi, hf, hN⟩ := hN
  have h64 := am_nm_le (b := b) (Nat.le_refl 6)
  obtain ⟨f, rfl⟩ : ∃ f', f = f' + 1 := ⟨f - 1, by omega⟩
  refine hN post ?_
  intro f_failed f_choicesMade f_allocsMade f_visiting f_position f_environment f_resultIsClosure f_resultValue f_depth en a_locationVariable a_locationOuter a_locationIsClosure a_locationValue a_closureToken a_closureEnvironment a_frameToken a_frameEnvironment a_frameHasFirst a_frameFirstIsClosure a_frameFirstValue hen
  refine am_xpS hC hA hn hK hV hen (by omega) (by rw [hr]) ?_
  intro u' hR
  rw [hr] at hR
  have el : am_lv s' 1 x = x := if_neg (by decide)
  refine h u' ?_
  have hR2 : am_RX mC mA n tk ta 1 (sols + 1) fails 1 (am_lv s' 1 x) (nI (am_al s')) (am_us s') b (am_ov b (am_us s')) (am_nb b (am_us s')) (am_la b (am_us s')) u' := hR
  rw [el, hu] at hR2
  exact hR2
end
