section
variable {f_maxChoices f_maxAlloc f_held f_stage f_solutions f_failures f_lastKind f_lastValue f_lastChoices f_lastChoiceCount f_lastAllocCount f_steering f_steeringLength f_pathLeft f_failed f_choicesMade f_allocsMade f_visiting f_position f_environment f_resultIsClosure f_resultValue f_depth : Int32} {a_kinds a_args a_ends a_locationVariable a_locationOuter a_locationIsClosure a_locationValue a_closureToken a_closureEnvironment a_frameToken a_frameEnvironment a_frameHasFirst a_frameFirstIsClosure a_frameFirstValue : Nat → Int32}
variable {post : St2 → Prop} {n : Nat} {tk ta en : Nat → Int32} {mC mA : Nat} {ph sols fails lK lV lH lL lA pl : Int32} {b : Nat → Bool} {L0 : Nat}
def am_PX (post : St2 → Prop) (n : Nat) (tk ta en : Nat → Int32) (mC mA : Nat) (ph sols fails lK lV lH lL lA pl : Int32) (b : Nat → Bool) (L0 : Nat) (rk rv : Int32) (s : am_S) : Prop :=
  ∀ (f_position f_environment f_depth : Int32) (jV jO jC jW kT kE fT fE fH fC fW : Nat → Int32), am_sx s jV jO jC jW kT kE → post (nI mC, nI mA, nI n, ph, sols, fails, lK, lV, lH, lL, lA, nI (am_nm b (am_mx L0 (am_us s))), nI (am_mx L0 (am_us s)), pl, 0, nI (am_us s), nI (am_al s), 0, f_position, f_environment, am_xk rk, am_xv s rk rv, f_depth, tk, ta, en, jV, jO, jC, jW, kT, kE, fT, fE, fH, fC, fW)
theorem am_xr_end {a : Nat} {rk rv : Int32} {s : am_S} (h : am_PX post n tk ta en mC mA ph sols fails lK lV lH lL lA pl b L0 rk rv s) : am_LX post n tk ta en mC mA ph sols fails lK lV lH lL lA pl b L0 a [] rk rv s := by
  intro m po ev jV jO jC jW kT kE fT fE fH fC fW h1 h2 h3 h4
  have hh := h po ev (nI ([] : List am_F).length) jV jO jC jW kT kE fT fE fH fC fW h3
  rw [wX_runPath_34]
  exact br_c (fun _ => hh) (fun _ => br_f (by decide) hh)
theorem am_xrun (hn : n ≤ 32) (hA : mA ≤ 16) (hC : mC ≤ 6) (hL : L0 ≤ 6) (hz : ∀ j, L0 ≤ j → b j = false) (hK : ∀ i, i < n → am_kd (tk i)) (hen : ∀ i, i < n → en i = nI (am_eN tk n i))
    (hS : (am_run n tk ta mC mA b).1 = true → am_PX post n tk ta en mC mA ph sols fails lK lV lH lL lA pl b L0 (am_run n tk ta mC mA b).2.1 (am_run n tk ta mC mA b).2.2.1 (am_run n tk ta mC mA b).2.2.2) (hF : (am_run n tk ta mC mA b).1 = false → am_QX post n tk ta en mC mA ph sols fails lK lV lH lL lA pl b L0 (am_run n tk ta mC mA b).2.2.2) : wpX_runPath post (nI mC, nI mA, nI n, ph, sols, fails, lK, lV, lH, lL, lA, nI (am_nm b L0), nI L0, pl, f_failed, f_choicesMade, f_allocsMade, f_visiting, f_position, f_environment, f_resultIsClosure, f_resultValue, f_depth, tk, ta, en, a_locationVariable, a_locationOuter, a_locationIsClosure, a_locationValue, a_closureToken, a_closureEnvironment, a_frameToken, a_frameEnvironment, a_frameHasFirst, a_frameFirstIsClosure, a_frameFirstValue) := by
  have hk : am_K (am_LX post n tk ta en mC mA ph sols fails lK lV lH lL lA pl b L0) (am_QX post n tk ta en mC mA ph sols fails lK lV lH lL lA pl b L0) [] 1 (am_run n tk ta mC mA b) := by
    cases hr : (am_run n tk ta mC mA b).1 with
    | true => exact am_K_T hr (am_xr_end (hS hr))
    | false => exact am_K_F hr (hF hr)
  have e0 : am_al am_s0 = 0 := rfl
  have en0 : am_eN tk n 0 ≤ n := am_eN_le (Nat.zero_le n)
  have hs := am_sim (am_xI hn hA hC hL hz hen) hA hn hK 545 0 (-1) am_s0 [] 0 0 1 (Nat.zero_le n) (am_WF_0 n mC mA) (Or.inl rfl) True.intro (by rw [e0, List.length_nil]; omega) (by rw [e0]; omega) hk
  have e1 : am_mx L0 (am_us am_s0) = L0 := by
    show L0 + (0 - L0) = L0
    omega
  have sx0 : am_sx am_s0 a_locationVariable a_locationOuter a_locationIsClosure a_locationValue a_closureToken a_closureEnvironment := ⟨fun f hf => absurd hf (Nat.not_lt_zero f), fun c hc => absurd hc (Nat.not_lt_zero c)⟩
  have hh := (am_LX_v' hs) 1000000 f_resultIsClosure f_resultValue a_locationVariable a_locationOuter a_locationIsClosure a_locationValue a_closureToken a_closureEnvironment a_frameToken a_frameEnvironment a_frameHasFirst a_frameFirstIsClosure a_frameFirstValue (by rw [e0]; omega) (Nat.le_refl _) sx0 True.intro
  rw [e1, am_xe_m] at hh
  unfold wpX_runPath
  exact am_xvn (x' := nI 0) rfl ⟨1000000 + 1, hh⟩
end
