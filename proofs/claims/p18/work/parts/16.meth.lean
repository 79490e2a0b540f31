/-! the component's methods that the law calls -/
theorem am_V0 (mC mA n : Nat) (tk ta : Nat → Int32) : am_V mC mA n tk ta (fun _ => false) 0 := ⟨Nat.zero_le _, fun _ _ => rfl, Nat.zero_le _⟩
theorem am_V_ov {mC mA n : Nat} {tk ta : Nat → Int32} {b : Nat → Bool} (hA : mA ≤ 16) (hn : n ≤ 32) (h : am_ov b (am_us (am_run n tk ta mC mA b).2.2.2) = false) : am_V mC mA n tk ta (am_nb b (am_us (am_run n tk ta mC mA b).2.2.2)) (am_la b (am_us (am_run n tk ta mC mA b).2.2.2)) := by
  cases hl : am_la b (am_us (am_run n tk ta mC mA b).2.2.2) with
  | zero =>
    rw [am_ov_t hl] at h
    exact absurd h (by decide)
  | succ q =>
    rw [am_nb_q hl]
    exact am_V_nb hA hn hl
theorem am_V_grow {b : Nat → Bool} {k q : Nat} (hk : k ≤ 6) (h : am_la b k = q + 1) : am_nm b 6 < am_nm (am_sb b q) 6 := by
  obtain ⟨h1, h2⟩ := am_la_q _ h
  have g := am_nm_grow (b := b) (c := am_sb b q) (q := q) (fun i hi => (am_sb_lo hi).symm) h2 (am_sb_at b q) (5 - q)
  have e : q + 1 + (5 - q) = 6 := by omega
  rw [e] at g
  exact g
theorem am_clampX {post : Int32 → Prop} {x : Int32} {g : Nat} (hg : 1 ≤ g) (hb : g < 1000) (h : ∀ m : Nat, m ≤ g → (x < 1 → m = 1) → (nI g ≤ x → m = g) → (1 ≤ x → x ≤ nI g → x = nI m) → post (nI m)) : wpX_clamp post () x (nI g) := by
  refine br_c (fun h1 => br_c (fun h2 => ?_) (fun h2 => ?_)) (fun h1 => ?_)
  · have hp : ¬ x < 0 := Int32.not_lt.mpr (Int32.le_trans (by decide) h1)
    obtain ⟨j, hj, rfl⟩ := nI_of hp
    rw [nI_leI hj (by omega)] at h2
    refine h j h2 (fun z => absurd h1 (Int32.not_le.mpr z)) (fun z => ?_) (fun _ _ => rfl)
    rw [nI_leI (by omega) hj] at z
    omega
  · exact h g (Nat.le_refl g) (fun z => absurd h1 (Int32.not_le.mpr z)) (fun _ => rfl) (fun _ z => absurd z h2)
  · have h3 : x < 1 := Int32.not_le.mp h1
    refine h 1 hg (fun _ => rfl) (fun z => ?_) (fun z => absurd z h1)
    have h4 : (1 : Int32) ≤ nI g := nI_le (a := 1) hg (by omega)
    exact absurd (Int32.le_trans h4 z) h1
theorem am_kdOf {x : Int32} (h0 : ¬ x < 0) (h1 : x ≤ 15) : am_kd x := by
  obtain ⟨j, hj, rfl⟩ := nI_of2 (n := 15) (by decide) h0 h1
  have : ∀ j, j < 16 → am_kd (nI j) := by unfold am_kd; decide +kernel
  exact this j (by omega)
section
variable {f_maxChoices f_maxAlloc f_held f_stage f_solutions f_failures f_lastKind f_lastValue f_lastChoices f_lastChoiceCount f_lastAllocCount f_steering f_steeringLength f_pathLeft f_failed f_choicesMade f_allocsMade f_visiting f_position f_environment f_resultIsClosure f_resultValue f_depth : Int32} {a_kinds a_args a_ends a_locationVariable a_locationOuter a_locationIsClosure a_locationValue a_closureToken a_closureEnvironment a_frameToken a_frameEnvironment a_frameHasFirst a_frameFirstIsClosure a_frameFirstValue : Nat → Int32}
theorem am_tok51 {post : Int32 → St2 → Prop} {n : Nat} {x y z r : Int32} (hn : n < 32) (h0 : r = 0 → x = 0 → z = y) (h1 : r = 0 → ¬ x = 0 → z = 0) (h2 : ¬ r = 0 → z = y) (h : post 1 (f_maxChoices, f_maxAlloc, nI (n + 1), f_stage, f_solutions, f_failures, f_lastKind, f_lastValue, f_lastChoices, f_lastChoiceCount, f_lastAllocCount, f_steering, f_steeringLength, f_pathLeft, f_failed, f_choicesMade, f_allocsMade, f_visiting, f_position, f_environment, f_resultIsClosure, f_resultValue, f_depth, upd a_kinds n x, upd a_args n z, a_ends, a_locationVariable, a_locationOuter, a_locationIsClosure, a_locationValue, a_closureToken, a_closureEnvironment, a_frameToken, a_frameEnvironment, a_frameHasFirst, a_frameFirstIsClosure, a_frameFirstValue)) : wX_token_51 post x y r f_maxChoices f_maxAlloc (nI n) f_stage f_solutions f_failures f_lastKind f_lastValue f_lastChoices f_lastChoiceCount f_lastAllocCount f_steering f_steeringLength f_pathLeft f_failed f_choicesMade f_allocsMade f_visiting f_position f_environment f_resultIsClosure f_resultValue f_depth a_kinds a_args a_ends a_locationVariable a_locationOuter a_locationIsClosure a_locationValue a_closureToken a_closureEnvironment a_frameToken a_frameEnvironment a_frameHasFirst a_frameFirstIsClosure a_frameFirstValue := by
  have hc : (nI n).toNatClampNeg = n := nI_clamp (by omega)
  have v : vp_in (nI n) 32 := vp_in_nI hn (by decide)
  refine ⟨v, nm_r (by rw [hc]) (br_c (fun a => br_c (fun c => ?_) (fun c => ?_)) (fun a => ?_))⟩
  · rw [h0 a c] at h
    exact ⟨v, nm_r (by rw [hc]) (nm_r (nI_1 n) h)⟩
  · rw [h1 a c] at h
    exact ⟨v, nm_r (by rw [hc]) (nm_r (nI_1 n) h)⟩
  · rw [h2 a] at h
    exact ⟨v, nm_r (by rw [hc]) (nm_r (nI_1 n) h)⟩
theorem am_xcs {post : Int32 → Prop} {n : Nat} {tk : Nat → Int32} (hn : n ≤ 32) (hK : ∀ i, i < n → am_kd (tk i)) (h0 : n = 0 → post 1) (h1 : ¬ n = 0 → post (nI (am_sh tk n 1 0))) : wpX_checkShape post (f_maxChoices, f_maxAlloc, nI n, f_stage, f_solutions, f_failures, f_lastKind, f_lastValue, f_lastChoices, f_lastChoiceCount, f_lastAllocCount, f_steering, f_steeringLength, f_pathLeft, f_failed, f_choicesMade, f_allocsMade, f_visiting, f_position, f_environment, f_resultIsClosure, f_resultValue, f_depth, tk, a_args, a_ends, a_locationVariable, a_locationOuter, a_locationIsClosure, a_locationValue, a_closureToken, a_closureEnvironment, a_frameToken, a_frameEnvironment, a_frameHasFirst, a_frameFirstIsClosure, a_frameFirstValue) := by
  by_cases q : n = 0
  · exact br_t (by rw [q]; rfl) (h0 q)
  · exact br_f (nI_ne0 (by omega) (by omega)) ⟨n + 1, am_xsh hn hK n 1 0 (Nat.zero_add n) (by omega) (h1 q)⟩
theorem am_xfinds {post : St2 → Prop} {n : Nat} {tk : Nat → Int32} (hn : n ≤ 32) (hK : ∀ i, i < n → am_kd (tk i)) (h : ∀ en' : Nat → Int32, (∀ j, j < n → en' j = nI (am_eN tk n j)) → post (f_maxChoices, f_maxAlloc, nI n, f_stage, f_solutions, f_failures, f_lastKind, f_lastValue, f_lastChoices, f_lastChoiceCount, f_lastAllocCount, f_steering, f_steeringLength, f_pathLeft, f_failed, f_choicesMade, f_allocsMade, f_visiting, f_position, f_environment, f_resultIsClosure, f_resultValue, f_depth, tk, a_args, en', a_locationVariable, a_locationOuter, a_locationIsClosure, a_locationValue, a_closureToken, a_closureEnvironment, a_frameToken, a_frameEnvironment, a_frameHasFirst, a_frameFirstIsClosure, a_frameFirstValue)) : wpX_findEnds post (f_maxChoices, f_maxAlloc, nI n, f_stage, f_solutions, f_failures, f_lastKind, f_lastValue, f_lastChoices, f_lastChoiceCount, f_lastAllocCount, f_steering, f_steeringLength, f_pathLeft, f_failed, f_choicesMade, f_allocsMade, f_visiting, f_position, f_environment, f_resultIsClosure, f_resultValue, f_depth, tk, a_args, a_ends, a_locationVariable, a_locationOuter, a_locationIsClosure, a_locationValue, a_closureToken, a_closureEnvironment, a_frameToken, a_frameEnvironment, a_frameHasFirst, a_frameFirstIsClosure, a_frameFirstValue) := nm_r (am_pI_s n) ⟨n + 1, am_xfe hn hK n a_ends (Nat.le_refl n) (fun j h1 h2 => absurd h2 (Nat.not_lt.mpr h1)) h⟩
end
