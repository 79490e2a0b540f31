/-! the owed statements -/
theorem am_V0 (mC mA n : Nat) (tk ta : Nat → Int32) : am_V mC mA n tk ta (fun _ => false) 0 := ⟨Nat.zero_le _, fun _ _ => rfl, Nat.zero_le _⟩
theorem am_clampX {post : Int32 → Prop} {x : Int32} {g : Nat} (hg : 1 ≤ g) (hb : g < 1000) (h : ∀ m : Nat, m ≤ g → (x < 1 → m = 1) → (nI g ≤ x → m = g) → (1 ≤ x → x ≤ nI g → x = nI m) → post (nI m)) : wpX_clamp post x (nI g) := by
  refine br_c (fun h1 => br_c (fun h2 => ?_) (fun h2 => ?_)) (fun h1 => ?_)
  · have hp : ¬ x < 0 := Int32.not_lt.mpr (Int32.le_trans (by decide) h1)
    obtain ⟨j, hj, rfl⟩ := nI_of hp
    rw [nI_leI hj (by omega)] at h2
    refine h j h2 (fun z => absurd h1 (Int32.not_le.mpr z)) (fun z => ?_) (fun _ _ => rfl)
    rw [nI_leI (by omega) hj] at z
    omega
  · exact h g (Nat.le_refl g) (fun z => absurd h1 (Int32.not_le.mpr z)) (fun _ => rfl) (fun _ z => absurd z h2)
  · have h3 : x < 1 := Int32.not_le.mp h1
    refine h 1 hg (fun _ => rfl) (fun z => ?_) (fun z => absurd z h1)
    have h4 : (1 : Int32) ≤ nI g := nI_le (a := 1) hg (by omega)
    exact absurd (Int32.le_trans h4 z) h1
theorem i_vc0 (k0 : Int32) (k1 : Int32) : wpX_init (fun u => wpY_init (fun v => i_Rel 2 u v) k0 k1) k0 k1 := by
  unfold wpX_init
  refine am_clampX (g := 6) (by decide) (by decide) (fun mC hC c1 c2 c3 => ?_)
  refine am_clampX (g := 16) (by decide) (by decide) (fun mA hA a1 a2 a3 => ?_)
  have R : ∀ v, am_RY mC mA 0 (fun _ => 0) (fun _ => 0) 0 0 0 0 0 0 0 (fun _ => false) false (fun _ => false) 0 v → i_Rel 2 (nI mC, nI mA, 0, 0, 0, 0, 0, 0, 0, 0, 0, 0, 0, 0, 0, 0, 0, 0, 0, (-1), 0, 0, 0, (fun _ ↦ 0), (fun _ ↦ 0), (fun _ ↦ 0), (fun _ ↦ 0), (fun _ ↦ 0), (fun _ ↦ 0), (fun _ ↦ 0), (fun _ ↦ 0), (fun _ ↦ 0), (fun _ ↦ 0), (fun _ ↦ 0), (fun _ ↦ 0), (fun _ ↦ 0), (fun _ ↦ 0)) v := fun v hv => ⟨mC, mA, 0, fun _ => 0, fun _ => 0, 0, 0, 0, 0, 0, 0, 0, fun _ => false, false, fun _ => false, 0, ⟨hC, hA, by decide, fun i hi => absurd hi (Nat.not_lt_zero i), by decide, fun z => absurd z (by decide), fun z => absurd rfl z⟩, ⟨_, _, _, _, _, _, _, _, _, _, _, _, _, _, _, _, _, _, _, _, _, _, _, _, rfl, fun z => absurd rfl z⟩, hv⟩
  have Q : i_Rel 2 (nI mC, nI mA, 0, 0, 0, 0, 0, 0, 0, 0, 0, 0, 0, 0, 0, 0, 0, 0, 0, (-1), 0, 0, 0, (fun _ ↦ 0), (fun _ ↦ 0), (fun _ ↦ 0), (fun _ ↦ 0), (fun _ ↦ 0), (fun _ ↦ 0), (fun _ ↦ 0), (fun _ ↦ 0), (fun _ ↦ 0), (fun _ ↦ 0), (fun _ ↦ 0), (fun _ ↦ 0), (fun _ ↦ 0), (fun _ ↦ 0)) (nI mC, nI mA, 0, 0, 0, 0, 0, 0, 0, 0, 0, 0, 0, 0, 0, 0, 0, 0, 0, (fun _ ↦ 0), (fun _ ↦ 0), (fun _ ↦ 0), (fun _ ↦ 0), (fun _ ↦ 0), (fun _ ↦ 0), (fun _ ↦ 0), (fun _ ↦ 0), (fun _ ↦ 0), (fun _ ↦ 0), (fun _ ↦ 0), (fun _ ↦ 0), (fun _ ↦ 0), (fun _ ↦ 0), (fun _ ↦ 0)) := R _ ⟨_, _, _, _, _, _, _, _, _, _, _, _, _, _, _, _, _, _, _, _, _, _, rfl, fun j hj => absurd hj (Nat.not_lt_zero j), fun z => absurd rfl z⟩
  have Q2 : ∀ x y : Int32, x = nI mC → y = nI mA → i_Rel 2 (nI mC, nI mA, 0, 0, 0, 0, 0, 0, 0, 0, 0, 0, 0, 0, 0, 0, 0, 0, 0, (-1), 0, 0, 0, (fun _ ↦ 0), (fun _ ↦ 0), (fun _ ↦ 0), (fun _ ↦ 0), (fun _ ↦ 0), (fun _ ↦ 0), (fun _ ↦ 0), (fun _ ↦ 0), (fun _ ↦ 0), (fun _ ↦ 0), (fun _ ↦ 0), (fun _ ↦ 0), (fun _ ↦ 0), (fun _ ↦ 0)) (x, y, 0, 0, 0, 0, 0, 0, 0, 0, 0, 0, 0, 0, 0, 0, 0, 0, 0, (fun _ ↦ 0), (fun _ ↦ 0), (fun _ ↦ 0), (fun _ ↦ 0), (fun _ ↦ 0), (fun _ ↦ 0), (fun _ ↦ 0), (fun _ ↦ 0), (fun _ ↦ 0), (fun _ ↦ 0), (fun _ ↦ 0), (fun _ ↦ 0), (fun _ ↦ 0), (fun _ ↦ 0), (fun _ ↦ 0)) := by
    intro x y ex ey
    rw [ex, ey]
    exact Q
  have A : ∀ x : Int32, x = nI mC → wY_init_162 (fun v => i_Rel 2 (nI mC, nI mA, 0, 0, 0, 0, 0, 0, 0, 0, 0, 0, 0, 0, 0, 0, 0, 0, 0, (-1), 0, 0, 0, (fun _ ↦ 0), (fun _ ↦ 0), (fun _ ↦ 0), (fun _ ↦ 0), (fun _ ↦ 0), (fun _ ↦ 0), (fun _ ↦ 0), (fun _ ↦ 0), (fun _ ↦ 0), (fun _ ↦ 0), (fun _ ↦ 0), (fun _ ↦ 0), (fun _ ↦ 0), (fun _ ↦ 0)) v) k1 x 0 0 0 0 0 0 0 0 0 0 0 0 0 0 0 0 0 0 (fun _ ↦ 0) (fun _ ↦ 0) (fun _ ↦ 0) (fun _ ↦ 0) (fun _ ↦ 0) (fun _ ↦ 0) (fun _ ↦ 0) (fun _ ↦ 0) (fun _ ↦ 0) (fun _ ↦ 0) (fun _ ↦ 0) (fun _ ↦ 0) (fun _ ↦ 0) (fun _ ↦ 0) (fun _ ↦ 0) := by
    intro x ex
    refine br_c (fun h1 => br_c (fun h2 => ?_) (fun h2 => ?_)) (fun h1 => br_t (by decide) ?_)
    · exact Q2 x k1 ex (a3 h1 h2)
    · exact Q2 x 16 ex (by rw [a2 (Int32.le_of_lt (Int32.not_le.mp h2))]; rfl)
    · exact Q2 x 1 ex (by rw [a1 (Int32.not_le.mp h1)]; rfl)
  refine br_c (fun h1 => br_c (fun h2 => ?_) (fun h2 => ?_)) (fun h1 => br_t (by decide) ?_)
  · exact A k0 (c3 h1 h2)
  · exact A 6 (by rw [c2 (Int32.le_of_lt (Int32.not_le.mp h2))]; rfl)
  · exact A 1 (by rw [c1 (Int32.not_le.mp h1)]; rfl)
theorem i_vc_reset {k : Nat} {u : SX} {v : SY} (I : i_Rel k u v) (hk : k + 3 ≤ 1538) : wpX_reset (fun u' => wpY_reset (fun v' => i_Rel (k + 3) u' v') v) u := by
  have I0 := I
  obtain ⟨mC, mA, n, tk, ta, ph, sols, fails, lK, lV, lA, lc, lb, ov, b, L, hP, hX, hY⟩ := I
  obtain ⟨hC, hA, hn, hK, hlc, h2, hVV⟩ := hP
  obtain ⟨f_steering, f_steeringLength, f_pathLeft, f_failed, f_choicesMade, f_allocsMade, f_visiting, f_position, f_environment, f_resultIsClosure, f_resultValue, f_depth, a_ends, a_locationVariable, a_locationOuter, a_locationIsClosure, a_locationValue, a_closureToken, a_closureEnvironment, a_frameToken, a_frameEnvironment, a_frameHasFirst, a_frameFirstIsClosure, a_frameFirstValue, rfl, hx⟩ := hX
  obtain ⟨f_curLen, f_over, f_used, f_allocs, f_nf, f_nc, f_sp, f_rk, f_rv, a_lastBits, a_cur, a_fVar, a_fPar, a_fK, a_fV, a_cPos, a_cEnv, a_sPos, a_sEnv, a_sSt, a_sK, a_sV, rfl, hl, hy⟩ := hY
  exact ⟨mC, mA, 0, tk, ta, 0, 0, 0, 0, 0, 0, 0, lb, false, b, L, ⟨hC, hA, by decide, fun i hi => absurd hi (Nat.not_lt_zero i), by decide, fun z => absurd z (by decide), fun z => absurd rfl z⟩, ⟨_, _, _, _, _, _, _, _, _, _, _, _, _, _, _, _, _, _, _, _, _, _, _, _, rfl, fun z => absurd rfl z⟩, ⟨_, _, _, _, _, _, _, _, _, _, _, _, _, _, _, _, _, _, _, _, _, _, rfl, fun j hj => absurd hj (Nat.not_lt_zero j), fun z => absurd rfl z⟩⟩
section
variable {f_maxChoices f_maxAlloc f_held f_stage f_solutions f_failures f_lastKind f_lastValue f_lastChoices f_lastChoiceCount f_lastAllocCount f_steering f_steeringLength f_pathLeft f_failed f_choicesMade f_allocsMade f_visiting f_position f_environment f_resultIsClosure f_resultValue f_depth : Int32} {a_kinds a_args a_ends a_locationVariable a_locationOuter a_locationIsClosure a_locationValue a_closureToken a_closureEnvironment a_frameToken a_frameEnvironment a_frameHasFirst a_frameFirstIsClosure a_frameFirstValue : Nat → Int32}
theorem am_tok51 {post : Int32 → SX → Prop} {n : Nat} {x y z r : Int32} (hn : n < 32) (h0 : r = 0 → x = 0 → z = y) (h1 : r = 0 → ¬ x = 0 → z = 0) (h2 : ¬ r = 0 → z = y) (h : post 1 (f_maxChoices, f_maxAlloc, nI (n + 1), f_stage, f_solutions, f_failures, f_lastKind, f_lastValue, f_lastChoices, f_lastChoiceCount, f_lastAllocCount, f_steering, f_steeringLength, f_pathLeft, f_failed, f_choicesMade, f_allocsMade, f_visiting, f_position, f_environment, f_resultIsClosure, f_resultValue, f_depth, upd a_kinds n x, upd a_args n z, a_ends, a_locationVariable, a_locationOuter, a_locationIsClosure, a_locationValue, a_closureToken, a_closureEnvironment, a_frameToken, a_frameEnvironment, a_frameHasFirst, a_frameFirstIsClosure, a_frameFirstValue)) : wX_token_51 post x y r f_maxChoices f_maxAlloc (nI n) f_stage f_solutions f_failures f_lastKind f_lastValue f_lastChoices f_lastChoiceCount f_lastAllocCount f_steering f_steeringLength f_pathLeft f_failed f_choicesMade f_allocsMade f_visiting f_position f_environment f_resultIsClosure f_resultValue f_depth a_kinds a_args a_ends a_locationVariable a_locationOuter a_locationIsClosure a_locationValue a_closureToken a_closureEnvironment a_frameToken a_frameEnvironment a_frameHasFirst a_frameFirstIsClosure a_frameFirstValue := by
  have hc : (nI n).toNatClampNeg = n := nI_clamp (by omega)
  have v : vp_in (nI n) 32 := vp_in_nI hn (by decide)
  refine ⟨v, nm_r (by rw [hc]) (br_c (fun a => br_c (fun c => ?_) (fun c => ?_)) (fun a => ?_))⟩
  · rw [h0 a c] at h
    exact ⟨v, nm_r (by rw [hc]) (nm_r (nI_1 n) h)⟩
  · rw [h1 a c] at h
    exact ⟨v, nm_r (by rw [hc]) (nm_r (nI_1 n) h)⟩
  · rw [h2 a] at h
    exact ⟨v, nm_r (by rw [hc]) (nm_r (nI_1 n) h)⟩
end
section
variable {f_maxC f_maxA f_n f_ph f_sols f_fails f_lastKind f_lastVal f_lastLen f_lastAlloc f_curLen f_over f_used f_allocs f_nf f_nc f_sp f_rk f_rv : Int32} {a_tk a_ta a_lastBits a_cur a_fVar a_fPar a_fK a_fV a_cPos a_cEnv a_sPos a_sEnv a_sSt a_sK a_sV : Nat → Int32}
theorem am_tok81 {post : Int32 → SY → Prop} {n : Nat} {x y z r : Int32} (hn : n < 32) (h1 : r = 0 → z = 0) (h2 : ¬ r = 0 → z = y) (h : post 1 (f_maxC, f_maxA, nI (n + 1), f_ph, f_sols, f_fails, f_lastKind, f_lastVal, f_lastLen, f_lastAlloc, f_curLen, f_over, f_used, f_allocs, f_nf, f_nc, f_sp, f_rk, f_rv, upd a_tk n x, upd a_ta n z, a_lastBits, a_cur, a_fVar, a_fPar, a_fK, a_fV, a_cPos, a_cEnv, a_sPos, a_sEnv, a_sSt, a_sK, a_sV)) : wY_token_81 post x y r f_maxC f_maxA (nI n) f_ph f_sols f_fails f_lastKind f_lastVal f_lastLen f_lastAlloc f_curLen f_over f_used f_allocs f_nf f_nc f_sp f_rk f_rv a_tk a_ta a_lastBits a_cur a_fVar a_fPar a_fK a_fV a_cPos a_cEnv a_sPos a_sEnv a_sSt a_sK a_sV := by
  have hc : (nI n).toNatClampNeg = n := nI_clamp (by omega)
  have v : vp_in (nI n) 32 := vp_in_nI hn (by decide)
  refine ⟨v, nm_r (by rw [hc]) (br_c (fun a => ?_) (fun a => ?_))⟩
  · rw [h1 a] at h
    exact ⟨v, nm_r (by rw [hc]) (nm_r (nI_1 n) h)⟩
  · rw [h2 a] at h
    exact ⟨v, nm_r (by rw [hc]) (nm_r (nI_1 n) h)⟩
end
theorem am_kdOf {x : Int32} (h0 : ¬ x < 0) (h1 : x ≤ 15) : am_kd x := by
  obtain ⟨j, hj, rfl⟩ := nI_of2 (n := 15) (by decide) h0 h1
  have : ∀ j, j < 16 → am_kd (nI j) := by unfold am_kd; decide +kernel
  exact this j (by omega)
theorem i_vc_token {k : Nat} {u : SX} {v : SY} (I : i_Rel k u v) (hk : k + 3 ≤ 1538) (v1 : Int32) (v2 : Int32) : wpX_token (fun r u' => wpY_token (fun r' v' => r' = r ∧ i_Rel (k + 3) u' v') v v1 v2) u v1 v2 := by
  have I0 := I
  obtain ⟨mC, mA, n, tk, ta, ph, sols, fails, lK, lV, lA, lc, lb, ov, b, L, hP, hX, hY⟩ := I
  obtain ⟨hC, hA, hn, hK, hlc, h2, hVV⟩ := hP
  obtain ⟨f_steering, f_steeringLength, f_pathLeft, f_failed, f_choicesMade, f_allocsMade, f_visiting, f_position, f_environment, f_resultIsClosure, f_resultValue, f_depth, a_ends, a_locationVariable, a_locationOuter, a_locationIsClosure, a_locationValue, a_closureToken, a_closureEnvironment, a_frameToken, a_frameEnvironment, a_frameHasFirst, a_frameFirstIsClosure, a_frameFirstValue, rfl, hx⟩ := hX
  obtain ⟨f_curLen, f_over, f_used, f_allocs, f_nf, f_nc, f_sp, f_rk, f_rv, a_lastBits, a_cur, a_fVar, a_fPar, a_fK, a_fV, a_cPos, a_cEnv, a_sPos, a_sEnv, a_sSt, a_sK, a_sV, rfl, hl, hy⟩ := hY
  have J : i_Rel (k + 3) (nI mC, nI mA, nI n, ph, sols, fails, lK, lV, nI (am_nm lb lc), nI lc, lA, f_steering, f_steeringLength, f_pathLeft, f_failed, f_choicesMade, f_allocsMade, f_visiting, f_position, f_environment, f_resultIsClosure, f_resultValue, f_depth, tk, ta, a_ends, a_locationVariable, a_locationOuter, a_locationIsClosure, a_locationValue, a_closureToken, a_closureEnvironment, a_frameToken, a_frameEnvironment, a_frameHasFirst, a_frameFirstIsClosure, a_frameFirstValue) (nI mC, nI mA, nI n, ph, sols, fails, lK, lV, nI lc, lA, f_curLen, f_over, f_used, f_allocs, f_nf, f_nc, f_sp, f_rk, f_rv, tk, ta, a_lastBits, a_cur, a_fVar, a_fPar, a_fK, a_fV, a_cPos, a_cEnv, a_sPos, a_sEnv, a_sSt, a_sK, a_sV) := I0
  by_cases p0 : ph = 0
  · by_cases hf : n < 32
    · have f1 : nI n < 32 := nI_lt (b := 32) hf (by decide)
      by_cases n0 : v1 < 0
      · exact br_t p0 (br_t f1 (br_t n0 (br_t p0 (br_t n0 ⟨rfl, J⟩))))
      · by_cases n15 : v1 ≤ 15
        · have m15 : ¬ 15 < v1 := Int32.not_lt.mpr n15
          have R : ∀ z : Int32, i_Rel (k + 3) (nI mC, nI mA, nI (n + 1), ph, sols, fails, lK, lV, nI (am_nm lb lc), nI lc, lA, f_steering, f_steeringLength, f_pathLeft, f_failed, f_choicesMade, f_allocsMade, f_visiting, f_position, f_environment, f_resultIsClosure, f_resultValue, f_depth, upd tk n v1, upd ta n z, a_ends, a_locationVariable, a_locationOuter, a_locationIsClosure, a_locationValue, a_closureToken, a_closureEnvironment, a_frameToken, a_frameEnvironment, a_frameHasFirst, a_frameFirstIsClosure, a_frameFirstValue) (nI mC, nI mA, nI (n + 1), ph, sols, fails, lK, lV, nI lc, lA, f_curLen, f_over, f_used, f_allocs, f_nf, f_nc, f_sp, f_rk, f_rv, upd tk n v1, upd ta n z, a_lastBits, a_cur, a_fVar, a_fPar, a_fK, a_fV, a_cPos, a_cEnv, a_sPos, a_sEnv, a_sSt, a_sK, a_sV) := by
            intro z
            refine ⟨mC, mA, n + 1, upd tk n v1, upd ta n z, ph, sols, fails, lK, lV, lA, lc, lb, ov, b, L, ⟨hC, hA, hf, fun i hi => ?_, hlc, h2, fun y => absurd p0 y⟩, ⟨_, _, _, _, _, _, _, _, _, _, _, _, _, _, _, _, _, _, _, _, _, _, _, _, rfl, fun y => absurd p0 y⟩, ⟨_, _, _, _, _, _, _, _, _, _, _, _, _, _, _, _, _, _, _, _, _, _, rfl, hl, fun y => absurd p0 y⟩⟩
            by_cases q : i = n
            · rw [q, am_up_s]
              exact am_kdOf n0 n15
            · rw [am_up_n q]
              exact hK i (by omega)
          have YN : ∀ z : Int32, (v1 = 1 ∨ v1 = 11 ∨ v1 = 12 ∨ v1 = 14) → ¬ v2 < 0 → v2 < 8 → z = v2 → wpY_token (fun r' v' => r' = 1 ∧ i_Rel (k + 3) (nI mC, nI mA, nI (n + 1), ph, sols, fails, lK, lV, nI (am_nm lb lc), nI lc, lA, f_steering, f_steeringLength, f_pathLeft, f_failed, f_choicesMade, f_allocsMade, f_visiting, f_position, f_environment, f_resultIsClosure, f_resultValue, f_depth, upd tk n v1, upd ta n z, a_ends, a_locationVariable, a_locationOuter, a_locationIsClosure, a_locationValue, a_closureToken, a_closureEnvironment, a_frameToken, a_frameEnvironment, a_frameHasFirst, a_frameFirstIsClosure, a_frameFirstValue) v') (nI mC, nI mA, nI n, ph, sols, fails, lK, lV, nI lc, lA, f_curLen, f_over, f_used, f_allocs, f_nf, f_nc, f_sp, f_rk, f_rv, tk, ta, a_lastBits, a_cur, a_fVar, a_fPar, a_fK, a_fV, a_cPos, a_cEnv, a_sPos, a_sEnv, a_sSt, a_sK, a_sV) v1 v2 := by
            intro z hv g0 g8 hz
            have g7 : v2 ≤ 7 := by
              obtain ⟨j, hj, rfl⟩ := nI_of g0
              have g9 := (nI_ltI hj (b := 8) (by decide)).mp g8
              exact nI_le (b := 7) (by omega) (by decide)
            have H60 : ¬ v1 = 0 → wY_token_60 (fun r' v' => r' = 1 ∧ i_Rel (k + 3) (nI mC, nI mA, nI (n + 1), ph, sols, fails, lK, lV, nI (am_nm lb lc), nI lc, lA, f_steering, f_steeringLength, f_pathLeft, f_failed, f_choicesMade, f_allocsMade, f_visiting, f_position, f_environment, f_resultIsClosure, f_resultValue, f_depth, upd tk n v1, upd ta n z, a_ends, a_locationVariable, a_locationOuter, a_locationIsClosure, a_locationValue, a_closureToken, a_closureEnvironment, a_frameToken, a_frameEnvironment, a_frameHasFirst, a_frameFirstIsClosure, a_frameFirstValue) v') v1 v2 1 (nI mC) (nI mA) (nI n) ph sols fails lK lV (nI lc) lA f_curLen f_over f_used f_allocs f_nf f_nc f_sp f_rk f_rv tk ta a_lastBits a_cur a_fVar a_fPar a_fK a_fV a_cPos a_cEnv a_sPos a_sEnv a_sSt a_sK a_sV := fun a => br_f (by decide) (br_f a (br_f g0 (br_t g7 (am_tok81 hf (fun y => absurd y (by decide)) (fun _ => hz) ⟨rfl, R z⟩))))
            rcases hv with q | q | q | q
            · exact br_t p0 (br_f n0 (br_f m15 (br_t f1 (br_f (by rw [q]; decide) (br_t q (H60 (by rw [q]; decide)))))))
            · exact br_t p0 (br_f n0 (br_f m15 (br_t f1 (br_f (by rw [q]; decide) (br_f (by rw [q]; decide) (br_t q (H60 (by rw [q]; decide))))))))
            · exact br_t p0 (br_f n0 (br_f m15 (br_t f1 (br_f (by rw [q]; decide) (br_f (by rw [q]; decide) (br_f (by rw [q]; decide) (br_t q (H60 (by rw [q]; decide)))))))))
            · exact br_t p0 (br_f n0 (br_f m15 (br_t f1 (br_f (by rw [q]; decide) (br_f (by rw [q]; decide) (br_f (by rw [q]; decide) (br_f (by rw [q]; decide) (br_t q (H60 (by rw [q]; decide))))))))))
          have YF : (v1 = 1 ∨ v1 = 11 ∨ v1 = 12 ∨ v1 = 14) → (v2 < 0 ∨ ¬ v2 < 8) → wpY_token (fun r' v' => r' = 0 ∧ i_Rel (k + 3) (nI mC, nI mA, nI n, ph, sols, fails, lK, lV, nI (am_nm lb lc), nI lc, lA, f_steering, f_steeringLength, f_pathLeft, f_failed, f_choicesMade, f_allocsMade, f_visiting, f_position, f_environment, f_resultIsClosure, f_resultValue, f_depth, tk, ta, a_ends, a_locationVariable, a_locationOuter, a_locationIsClosure, a_locationValue, a_closureToken, a_closureEnvironment, a_frameToken, a_frameEnvironment, a_frameHasFirst, a_frameFirstIsClosure, a_frameFirstValue) v') (nI mC, nI mA, nI n, ph, sols, fails, lK, lV, nI lc, lA, f_curLen, f_over, f_used, f_allocs, f_nf, f_nc, f_sp, f_rk, f_rv, tk, ta, a_lastBits, a_cur, a_fVar, a_fPar, a_fK, a_fV, a_cPos, a_cEnv, a_sPos, a_sEnv, a_sSt, a_sK, a_sV) v1 v2 := by
            intro hv hg
            have H60 : ¬ v1 = 0 → wY_token_60 (fun r' v' => r' = 0 ∧ i_Rel (k + 3) (nI mC, nI mA, nI n, ph, sols, fails, lK, lV, nI (am_nm lb lc), nI lc, lA, f_steering, f_steeringLength, f_pathLeft, f_failed, f_choicesMade, f_allocsMade, f_visiting, f_position, f_environment, f_resultIsClosure, f_resultValue, f_depth, tk, ta, a_ends, a_locationVariable, a_locationOuter, a_locationIsClosure, a_locationValue, a_closureToken, a_closureEnvironment, a_frameToken, a_frameEnvironment, a_frameHasFirst, a_frameFirstIsClosure, a_frameFirstValue) v') v1 v2 1 (nI mC) (nI mA) (nI n) ph sols fails lK lV (nI lc) lA f_curLen f_over f_used f_allocs f_nf f_nc f_sp f_rk f_rv tk ta a_lastBits a_cur a_fVar a_fPar a_fK a_fV a_cPos a_cEnv a_sPos a_sEnv a_sSt a_sK a_sV := fun a => br_f (by decide) (br_f a (br_c (fun _ => ⟨rfl, J⟩) (fun g0 => br_f (fun g7 => by
              rcases hg with g | g
              · exact g0 g
              · exact g (Int32.lt_of_le_of_lt g7 (by decide))) ⟨rfl, J⟩)))
            rcases hv with q | q | q | q
            · exact br_t p0 (br_f n0 (br_f m15 (br_t f1 (br_f (by rw [q]; decide) (br_t q (H60 (by rw [q]; decide)))))))
            · exact br_t p0 (br_f n0 (br_f m15 (br_t f1 (br_f (by rw [q]; decide) (br_f (by rw [q]; decide) (br_t q (H60 (by rw [q]; decide))))))))
            · exact br_t p0 (br_f n0 (br_f m15 (br_t f1 (br_f (by rw [q]; decide) (br_f (by rw [q]; decide) (br_f (by rw [q]; decide) (br_t q (H60 (by rw [q]; decide)))))))))
            · exact br_t p0 (br_f n0 (br_f m15 (br_t f1 (br_f (by rw [q]; decide) (br_f (by rw [q]; decide) (br_f (by rw [q]; decide) (br_f (by rw [q]; decide) (br_t q (H60 (by rw [q]; decide))))))))))
          refine br_t p0 (br_t f1 (br_f n0 (br_t n15 ?_)))
          have XN : (v1 = 1 ∨ v1 = 11 ∨ v1 = 12 ∨ v1 = 14) → (((1 : Int32) = 0 → wX_token_51 (fun r u' => wpY_token (fun r' v' => r' = r ∧ i_Rel (k + 3) u' v') (nI mC, nI mA, nI n, ph, sols, fails, lK, lV, nI lc, lA, f_curLen, f_over, f_used, f_allocs, f_nf, f_nc, f_sp, f_rk, f_rv, tk, ta, a_lastBits, a_cur, a_fVar, a_fPar, a_fK, a_fV, a_cPos, a_cEnv, a_sPos, a_sEnv, a_sSt, a_sK, a_sV) v1 v2) v1 v2 1 (nI mC) (nI mA) (nI n) ph sols fails lK lV (nI (am_nm lb lc)) (nI lc) lA f_steering f_steeringLength f_pathLeft f_failed f_choicesMade f_allocsMade f_visiting f_position f_environment f_resultIsClosure f_resultValue f_depth tk ta a_ends a_locationVariable a_locationOuter a_locationIsClosure a_locationValue a_closureToken a_closureEnvironment a_frameToken a_frameEnvironment a_frameHasFirst a_frameFirstIsClosure a_frameFirstValue) ∧ (¬ (1 : Int32) = 0 → ((v2 < 0 → wpY_token (fun r' v' => r' = 0 ∧ i_Rel (k + 3) (nI mC, nI mA, nI n, ph, sols, fails, lK, lV, nI (am_nm lb lc), nI lc, lA, f_steering, f_steeringLength, f_pathLeft, f_failed, f_choicesMade, f_allocsMade, f_visiting, f_position, f_environment, f_resultIsClosure, f_resultValue, f_depth, tk, ta, a_ends, a_locationVariable, a_locationOuter, a_locationIsClosure, a_locationValue, a_closureToken, a_closureEnvironment, a_frameToken, a_frameEnvironment, a_frameHasFirst, a_frameFirstIsClosure, a_frameFirstValue) v') (nI mC, nI mA, nI n, ph, sols, fails, lK, lV, nI lc, lA, f_curLen, f_over, f_used, f_allocs, f_nf, f_nc, f_sp, f_rk, f_rv, tk, ta, a_lastBits, a_cur, a_fVar, a_fPar, a_fK, a_fV, a_cPos, a_cEnv, a_sPos, a_sEnv, a_sSt, a_sK, a_sV) v1 v2) ∧ (¬ v2 < 0 → ((v2 < 8 → wX_token_51 (fun r u' => wpY_token (fun r' v' => r' = r ∧ i_Rel (k + 3) u' v') (nI mC, nI mA, nI n, ph, sols, fails, lK, lV, nI lc, lA, f_curLen, f_over, f_used, f_allocs, f_nf, f_nc, f_sp, f_rk, f_rv, tk, ta, a_lastBits, a_cur, a_fVar, a_fPar, a_fK, a_fV, a_cPos, a_cEnv, a_sPos, a_sEnv, a_sSt, a_sK, a_sV) v1 v2) v1 v2 1 (nI mC) (nI mA) (nI n) ph sols fails lK lV (nI (am_nm lb lc)) (nI lc) lA f_steering f_steeringLength f_pathLeft f_failed f_choicesMade f_allocsMade f_visiting f_position f_environment f_resultIsClosure f_resultValue f_depth tk ta a_ends a_locationVariable a_locationOuter a_locationIsClosure a_locationValue a_closureToken a_closureEnvironment a_frameToken a_frameEnvironment a_frameHasFirst a_frameFirstIsClosure a_frameFirstValue) ∧ (¬ v2 < 8 → wpY_token (fun r' v' => r' = 0 ∧ i_Rel (k + 3) (nI mC, nI mA, nI n, ph, sols, fails, lK, lV, nI (am_nm lb lc), nI lc, lA, f_steering, f_steeringLength, f_pathLeft, f_failed, f_choicesMade, f_allocsMade, f_visiting, f_position, f_environment, f_resultIsClosure, f_resultValue, f_depth, tk, ta, a_ends, a_locationVariable, a_locationOuter, a_locationIsClosure, a_locationValue, a_closureToken, a_closureEnvironment, a_frameToken, a_frameEnvironment, a_frameHasFirst, a_frameFirstIsClosure, a_frameFirstValue) v') (nI mC, nI mA, nI n, ph, sols, fails, lK, lV, nI lc, lA, f_curLen, f_over, f_used, f_allocs, f_nf, f_nc, f_sp, f_rk, f_rv, tk, ta, a_lastBits, a_cur, a_fVar, a_fPar, a_fK, a_fV, a_cPos, a_cEnv, a_sPos, a_sEnv, a_sSt, a_sK, a_sV) v1 v2)))))) := fun hv => br_f (by decide) (br_c (fun g => YF hv (Or.inl g)) (fun g0 => br_c (fun g8 => am_tok51 hf (fun y => absurd y (by decide)) (fun y => absurd y (by decide)) (fun _ => rfl) (YN v2 hv g0 g8 rfl)) (fun g8 => YF hv (Or.inr g8))))
          by_cases q1 : v1 = 1
          · exact br_t q1 (XN (Or.inl q1))
          by_cases q11 : v1 = 11
          · exact br_f q1 (br_t q11 (XN (Or.inr (Or.inl q11))))
          by_cases q12 : v1 = 12
          · exact br_f q1 (br_f q11 (br_t q12 (XN (Or.inr (Or.inr (Or.inl q12))))))
          by_cases q14 : v1 = 14
          · exact br_f q1 (br_f q11 (br_f q12 (br_t q14 (XN (Or.inr (Or.inr (Or.inr q14)))))))
          refine br_f q1 (br_f q11 (br_f q12 (br_f q14 (br_t rfl ?_))))
          by_cases q0 : v1 = 0
          · refine am_tok51 hf (z := v2) (fun _ _ => rfl) (fun _ y => absurd q0 y) (fun y => absurd rfl y) ?_
            exact br_t p0 (br_f n0 (br_f m15 (br_t f1 (br_t q0 (br_f (by decide) (br_t q0 (am_tok81 hf (fun y => absurd y (by decide)) (fun _ => rfl) ⟨rfl, R v2⟩)))))))
          · refine am_tok51 hf (z := 0) (fun _ y => absurd y q0) (fun _ _ => rfl) (fun y => absurd rfl y) ?_
            exact br_t p0 (br_f n0 (br_f m15 (br_t f1 (br_f q0 (br_f q1 (br_f q11 (br_f q12 (br_f q14 (br_t rfl (am_tok81 hf (fun _ => rfl) (fun y => absurd rfl y) ⟨rfl, R 0⟩))))))))))
        · exact br_t p0 (br_t f1 (br_f n0 (br_f n15 (br_t p0 (br_f n0 (br_t (Int32.not_le.mp n15) ⟨rfl, J⟩))))))
    · have f1 : ¬ nI n < 32 := nI_nlt (b := 32) (by omega) (by omega)
      exact br_t p0 (br_f f1 (br_t p0 (br_c (fun _ => ⟨rfl, J⟩) (fun _ => br_c (fun _ => ⟨rfl, J⟩) (fun _ => br_f f1 ⟨rfl, J⟩)))))
  · exact br_f p0 (br_f p0 ⟨rfl, J⟩)
section
variable {f_maxChoices f_maxAlloc f_held f_stage f_solutions f_failures f_lastKind f_lastValue f_lastChoices f_lastChoiceCount f_lastAllocCount f_steering f_steeringLength f_pathLeft f_failed f_choicesMade f_allocsMade f_visiting f_position f_environment f_resultIsClosure f_resultValue f_depth : Int32} {a_kinds a_args a_ends a_locationVariable a_locationOuter a_locationIsClosure a_locationValue a_closureToken a_closureEnvironment a_frameToken a_frameEnvironment a_frameHasFirst a_frameFirstIsClosure a_frameFirstValue : Nat → Int32}
theorem am_xcs {post : Int32 → Prop} {n : Nat} {tk : Nat → Int32} (hn : n ≤ 32) (hK : ∀ i, i < n → am_kd (tk i)) (h0 : n = 0 → post 1) (h1 : ¬ n = 0 → post (nI (am_sh tk n 1 0))) : wpX_checkShape post (f_maxChoices, f_maxAlloc, nI n, f_stage, f_solutions, f_failures, f_lastKind, f_lastValue, f_lastChoices, f_lastChoiceCount, f_lastAllocCount, f_steering, f_steeringLength, f_pathLeft, f_failed, f_choicesMade, f_allocsMade, f_visiting, f_position, f_environment, f_resultIsClosure, f_resultValue, f_depth, tk, a_args, a_ends, a_locationVariable, a_locationOuter, a_locationIsClosure, a_locationValue, a_closureToken, a_closureEnvironment, a_frameToken, a_frameEnvironment, a_frameHasFirst, a_frameFirstIsClosure, a_frameFirstValue) := by
  by_cases q : n = 0
  · exact br_t (by rw [q]; rfl) (h0 q)
  · exact br_f (nI_ne0 (by omega) (by omega)) ⟨n + 1, am_xsh hn hK n 1 0 (Nat.zero_add n) (by omega) (h1 q)⟩
theorem am_xfinds {post : SX → Prop} {n : Nat} {tk : Nat → Int32} (hn : n ≤ 32) (hK : ∀ i, i < n → am_kd (tk i)) (h : ∀ en' : Nat → Int32, (∀ j, j < n → en' j = nI (am_eN tk n j)) → post (f_maxChoices, f_maxAlloc, nI n, f_stage, f_solutions, f_failures, f_lastKind, f_lastValue, f_lastChoices, f_lastChoiceCount, f_lastAllocCount, f_steering, f_steeringLength, f_pathLeft, f_failed, f_choicesMade, f_allocsMade, f_visiting, f_position, f_environment, f_resultIsClosure, f_resultValue, f_depth, tk, a_args, en', a_locationVariable, a_locationOuter, a_locationIsClosure, a_locationValue, a_closureToken, a_closureEnvironment, a_frameToken, a_frameEnvironment, a_frameHasFirst, a_frameFirstIsClosure, a_frameFirstValue)) : wpX_findEnds post (f_maxChoices, f_maxAlloc, nI n, f_stage, f_solutions, f_failures, f_lastKind, f_lastValue, f_lastChoices, f_lastChoiceCount, f_lastAllocCount, f_steering, f_steeringLength, f_pathLeft, f_failed, f_choicesMade, f_allocsMade, f_visiting, f_position, f_environment, f_resultIsClosure, f_resultValue, f_depth, tk, a_args, a_ends, a_locationVariable, a_locationOuter, a_locationIsClosure, a_locationValue, a_closureToken, a_closureEnvironment, a_frameToken, a_frameEnvironment, a_frameHasFirst, a_frameFirstIsClosure, a_frameFirstValue) := nm_r (am_pI_s n) ⟨n + 1, am_xfe hn hK n a_ends (Nat.le_refl n) (fun j h1 h2 => absurd h2 (Nat.not_lt.mpr h1)) h⟩
end
theorem i_vc_compile {k : Nat} {u : SX} {v : SY} (I : i_Rel k u v) (hk : k + 3 ≤ 1538) : wpX_compile (fun r u' => wpY_compile (fun r' v' => r' = r ∧ i_Rel (k + 3) u' v') v) u := by
  have I0 := I
  obtain ⟨mC, mA, n, tk, ta, ph, sols, fails, lK, lV, lA, lc, lb, ov, b, L, hP, hX, hY⟩ := I
  obtain ⟨hC, hA, hn, hK, hlc, h2, hVV⟩ := hP
  obtain ⟨f_steering, f_steeringLength, f_pathLeft, f_failed, f_choicesMade, f_allocsMade, f_visiting, f_position, f_environment, f_resultIsClosure, f_resultValue, f_depth, a_ends, a_locationVariable, a_locationOuter, a_locationIsClosure, a_locationValue, a_closureToken, a_closureEnvironment, a_frameToken, a_frameEnvironment, a_frameHasFirst, a_frameFirstIsClosure, a_frameFirstValue, rfl, hx⟩ := hX
  obtain ⟨f_curLen, f_over, f_used, f_allocs, f_nf, f_nc, f_sp, f_rk, f_rv, a_lastBits, a_cur, a_fVar, a_fPar, a_fK, a_fV, a_cPos, a_cEnv, a_sPos, a_sEnv, a_sSt, a_sK, a_sV, rfl, hl, hy⟩ := hY
  have J : i_Rel (k + 3) (nI mC, nI mA, nI n, ph, sols, fails, lK, lV, nI (am_nm lb lc), nI lc, lA, f_steering, f_steeringLength, f_pathLeft, f_failed, f_choicesMade, f_allocsMade, f_visiting, f_position, f_environment, f_resultIsClosure, f_resultValue, f_depth, tk, ta, a_ends, a_locationVariable, a_locationOuter, a_locationIsClosure, a_locationValue, a_closureToken, a_closureEnvironment, a_frameToken, a_frameEnvironment, a_frameHasFirst, a_frameFirstIsClosure, a_frameFirstValue) (nI mC, nI mA, nI n, ph, sols, fails, lK, lV, nI lc, lA, f_curLen, f_over, f_used, f_allocs, f_nf, f_nc, f_sp, f_rk, f_rv, tk, ta, a_lastBits, a_cur, a_fVar, a_fPar, a_fK, a_fV, a_cPos, a_cEnv, a_sPos, a_sEnv, a_sSt, a_sK, a_sV) := I0
  by_cases p0 : ph = 0
  · refine br_t p0 (am_xcs hn hK (fun z => ?_) (fun z => ?_))
    · exact br_f (by decide) (br_t p0 (br_t (by rw [z]; rfl) ⟨rfl, J⟩))
    · have nz : ¬ nI n = 0 := nI_ne0 (by omega) (by omega)
      rcases am_sh_v tk n 1 0 with e | e | e
      · rw [e]
        refine br_t rfl (am_xfinds hn hK (fun en' hen => ⟨n + 1, am_xab hn hen n 0 (Nat.zero_add n) ?_⟩))
        have J4 : i_Rel (k + 3) (nI mC, nI mA, nI n, ph, sols, fails, lK, lV, nI (am_nm lb lc), nI lc, lA, f_steering, f_steeringLength, f_pathLeft, f_failed, f_choicesMade, f_allocsMade, f_visiting, f_position, f_environment, f_resultIsClosure, f_resultValue, f_depth, tk, ta, en', a_locationVariable, a_locationOuter, a_locationIsClosure, a_locationValue, a_closureToken, a_closureEnvironment, a_frameToken, a_frameEnvironment, a_frameHasFirst, a_frameFirstIsClosure, a_frameFirstValue) (nI mC, nI mA, nI n, ph, sols, fails, lK, lV, nI lc, lA, f_curLen, f_over, f_used, f_allocs, f_nf, f_nc, f_sp, f_rk, f_rv, tk, ta, a_lastBits, a_cur, a_fVar, a_fPar, a_fK, a_fV, a_cPos, a_cEnv, a_sPos, a_sEnv, a_sSt, a_sK, a_sV) := ⟨mC, mA, n, tk, ta, ph, sols, fails, lK, lV, lA, lc, lb, ov, b, L, ⟨hC, hA, hn, hK, hlc, h2, hVV⟩, ⟨_, _, _, _, _, _, _, _, _, _, _, _, _, _, _, _, _, _, _, _, _, _, _, _, rfl, fun y => absurd p0 y⟩, ⟨_, _, _, _, _, _, _, _, _, _, _, _, _, _, _, _, _, _, _, _, _, _, rfl, hl, hy⟩⟩
        cases ha : am_ab tk ta n n 0 with
        | true =>
          refine br_f (by decide) (br_t p0 (br_f nz ⟨n + 1, am_ysh hn n 1 0 (Nat.zero_add n) (by omega) (fun _ => ⟨n + 1, am_yab hn n 0 (Nat.zero_add n) (fun _ => ⟨rfl, ?_⟩) (fun y => absurd (ha.symm.trans y) (by decide))⟩) (fun y => absurd (e.symm.trans y) (by decide)) (fun y => absurd (e.symm.trans y) (by decide))⟩))
          exact ⟨mC, mA, n, tk, ta, 1, 0, 0, 0, 0, 0, 0, fun _ => false, false, fun _ => false, 0, ⟨hC, hA, hn, hK, by decide, fun z => absurd z (by decide), fun _ _ => am_V0 mC mA n tk ta⟩, ⟨_, _, _, _, _, _, _, _, _, _, _, _, _, _, _, _, _, _, _, _, _, _, _, _, rfl, fun _ => ⟨hen, rfl, fun _ => ⟨rfl, rfl⟩⟩⟩, ⟨_, _, _, _, _, _, _, _, _, _, _, _, _, _, _, _, _, _, _, _, _, _, rfl, fun j hj => absurd hj (Nat.not_lt_zero j), fun _ => ⟨rfl, fun _ => ⟨rfl, fun j hj => absurd hj (Nat.not_lt_zero j)⟩⟩⟩⟩
        | false =>
          exact br_t rfl (br_t p0 (br_f nz ⟨n + 1, am_ysh hn n 1 0 (Nat.zero_add n) (by omega) (fun _ => ⟨n + 1, am_yab hn n 0 (Nat.zero_add n) (fun y => absurd (ha.symm.trans y) (by decide)) (fun _ => ⟨rfl, J4⟩)⟩) (fun y => absurd (e.symm.trans y) (by decide)) (fun y => absurd (e.symm.trans y) (by decide))⟩))
      · rw [e]
        exact br_f (by decide) (br_t p0 (br_f nz ⟨n + 1, am_ysh hn n 1 0 (Nat.zero_add n) (by omega) (fun y => absurd (e.symm.trans y) (by decide)) (fun _ => ⟨rfl, J⟩) (fun y => absurd (e.symm.trans y) (by decide))⟩))
      · rw [e]
        exact br_f (by decide) (br_t p0 (br_f nz ⟨n + 1, am_ysh hn n 1 0 (Nat.zero_add n) (by omega) (fun y => absurd (e.symm.trans y) (by decide)) (fun y => absurd (e.symm.trans y) (by decide)) (fun _ => ⟨rfl, J⟩)⟩))
  · exact br_f p0 (br_f p0 ⟨rfl, J⟩)
theorem i_vc_restart {k : Nat} {u : SX} {v : SY} (I : i_Rel k u v) (hk : k + 3 ≤ 1538) : wpX_restart (fun r u' => wpY_restart (fun r' v' => r' = r ∧ i_Rel (k + 3) u' v') v) u := by
  have I0 := I
  obtain ⟨mC, mA, n, tk, ta, ph, sols, fails, lK, lV, lA, lc, lb, ov, b, L, hP, hX, hY⟩ := I
  obtain ⟨hC, hA, hn, hK, hlc, h2, hVV⟩ := hP
  obtain ⟨f_steering, f_steeringLength, f_pathLeft, f_failed, f_choicesMade, f_allocsMade, f_visiting, f_position, f_environment, f_resultIsClosure, f_resultValue, f_depth, a_ends, a_locationVariable, a_locationOuter, a_locationIsClosure, a_locationValue, a_closureToken, a_closureEnvironment, a_frameToken, a_frameEnvironment, a_frameHasFirst, a_frameFirstIsClosure, a_frameFirstValue, rfl, hx⟩ := hX
  obtain ⟨f_curLen, f_over, f_used, f_allocs, f_nf, f_nc, f_sp, f_rk, f_rv, a_lastBits, a_cur, a_fVar, a_fPar, a_fK, a_fV, a_cPos, a_cEnv, a_sPos, a_sEnv, a_sSt, a_sK, a_sV, rfl, hl, hy⟩ := hY
  by_cases p0 : ph = 0
  · exact br_t p0 (br_t p0 ⟨rfl, I0⟩)
  · exact br_f p0 (br_f p0 ⟨rfl, ⟨mC, mA, n, tk, ta, 1, 0, 0, 0, 0, 0, 0, fun _ => false, false, fun _ => false, 0, ⟨hC, hA, hn, hK, by decide, fun z => absurd z (by decide), fun _ _ => am_V0 mC mA n tk ta⟩, ⟨_, _, _, _, _, _, _, _, _, _, _, _, _, _, _, _, _, _, _, _, _, _, _, _, rfl, fun _ => ⟨(hx p0).1, rfl, fun _ => ⟨rfl, rfl⟩⟩⟩, ⟨_, _, _, _, _, _, _, _, _, _, _, _, _, _, _, _, _, _, _, _, _, _, rfl, fun j hj => absurd hj (Nat.not_lt_zero j), fun _ => ⟨rfl, fun _ => ⟨rfl, fun j hj => absurd hj (Nat.not_lt_zero j)⟩⟩⟩⟩⟩)
theorem i_vc_phase {k : Nat} {u : SX} {v : SY} (I : i_Rel k u v) (hk : k + 3 ≤ 1538) : wpX_phase (fun r => wpY_phase (fun r' => r' = r ∧ i_Rel (k + 3) u v) v) u := by
  have I0 := I
  obtain ⟨mC, mA, n, tk, ta, ph, sols, fails, lK, lV, lA, lc, lb, ov, b, L, hP, hX, hY⟩ := I
  obtain ⟨hC, hA, hn, hK, hlc, h2, hVV⟩ := hP
  obtain ⟨f_steering, f_steeringLength, f_pathLeft, f_failed, f_choicesMade, f_allocsMade, f_visiting, f_position, f_environment, f_resultIsClosure, f_resultValue, f_depth, a_ends, a_locationVariable, a_locationOuter, a_locationIsClosure, a_locationValue, a_closureToken, a_closureEnvironment, a_frameToken, a_frameEnvironment, a_frameHasFirst, a_frameFirstIsClosure, a_frameFirstValue, rfl, hx⟩ := hX
  obtain ⟨f_curLen, f_over, f_used, f_allocs, f_nf, f_nc, f_sp, f_rk, f_rv, a_lastBits, a_cur, a_fVar, a_fPar, a_fK, a_fV, a_cPos, a_cEnv, a_sPos, a_sEnv, a_sSt, a_sK, a_sV, rfl, hl, hy⟩ := hY
  exact ⟨rfl, I0⟩
theorem i_vc_kind {k : Nat} {u : SX} {v : SY} (I : i_Rel k u v) (hk : k + 3 ≤ 1538) : wpX_kind (fun r => wpY_kind (fun r' => r' = r ∧ i_Rel (k + 3) u v) v) u := by
  have I0 := I
  obtain ⟨mC, mA, n, tk, ta, ph, sols, fails, lK, lV, lA, lc, lb, ov, b, L, hP, hX, hY⟩ := I
  obtain ⟨hC, hA, hn, hK, hlc, h2, hVV⟩ := hP
  obtain ⟨f_steering, f_steeringLength, f_pathLeft, f_failed, f_choicesMade, f_allocsMade, f_visiting, f_position, f_environment, f_resultIsClosure, f_resultValue, f_depth, a_ends, a_locationVariable, a_locationOuter, a_locationIsClosure, a_locationValue, a_closureToken, a_closureEnvironment, a_frameToken, a_frameEnvironment, a_frameHasFirst, a_frameFirstIsClosure, a_frameFirstValue, rfl, hx⟩ := hX
  obtain ⟨f_curLen, f_over, f_used, f_allocs, f_nf, f_nc, f_sp, f_rk, f_rv, a_lastBits, a_cur, a_fVar, a_fPar, a_fK, a_fV, a_cPos, a_cEnv, a_sPos, a_sEnv, a_sSt, a_sK, a_sV, rfl, hl, hy⟩ := hY
  exact ⟨rfl, I0⟩
theorem i_vc_value {k : Nat} {u : SX} {v : SY} (I : i_Rel k u v) (hk : k + 3 ≤ 1538) : wpX_value (fun r => wpY_value (fun r' => r' = r ∧ i_Rel (k + 3) u v) v) u := by
  have I0 := I
  obtain ⟨mC, mA, n, tk, ta, ph, sols, fails, lK, lV, lA, lc, lb, ov, b, L, hP, hX, hY⟩ := I
  obtain ⟨hC, hA, hn, hK, hlc, h2, hVV⟩ := hP
  obtain ⟨f_steering, f_steeringLength, f_pathLeft, f_failed, f_choicesMade, f_allocsMade, f_visiting, f_position, f_environment, f_resultIsClosure, f_resultValue, f_depth, a_ends, a_locationVariable, a_locationOuter, a_locationIsClosure, a_locationValue, a_closureToken, a_closureEnvironment, a_frameToken, a_frameEnvironment, a_frameHasFirst, a_frameFirstIsClosure, a_frameFirstValue, rfl, hx⟩ := hX
  obtain ⟨f_curLen, f_over, f_used, f_allocs, f_nf, f_nc, f_sp, f_rk, f_rv, a_lastBits, a_cur, a_fVar, a_fPar, a_fK, a_fV, a_cPos, a_cEnv, a_sPos, a_sEnv, a_sSt, a_sK, a_sV, rfl, hl, hy⟩ := hY
  exact ⟨rfl, I0⟩
theorem i_vc_solutionCount {k : Nat} {u : SX} {v : SY} (I : i_Rel k u v) (hk : k + 3 ≤ 1538) : wpX_solutionCount (fun r => wpY_solutionCount (fun r' => r' = r ∧ i_Rel (k + 3) u v) v) u := by
  have I0 := I
  obtain ⟨mC, mA, n, tk, ta, ph, sols, fails, lK, lV, lA, lc, lb, ov, b, L, hP, hX, hY⟩ := I
  obtain ⟨hC, hA, hn, hK, hlc, h2, hVV⟩ := hP
  obtain ⟨f_steering, f_steeringLength, f_pathLeft, f_failed, f_choicesMade, f_allocsMade, f_visiting, f_position, f_environment, f_resultIsClosure, f_resultValue, f_depth, a_ends, a_locationVariable, a_locationOuter, a_locationIsClosure, a_locationValue, a_closureToken, a_closureEnvironment, a_frameToken, a_frameEnvironment, a_frameHasFirst, a_frameFirstIsClosure, a_frameFirstValue, rfl, hx⟩ := hX
  obtain ⟨f_curLen, f_over, f_used, f_allocs, f_nf, f_nc, f_sp, f_rk, f_rv, a_lastBits, a_cur, a_fVar, a_fPar, a_fK, a_fV, a_cPos, a_cEnv, a_sPos, a_sEnv, a_sSt, a_sK, a_sV, rfl, hl, hy⟩ := hY
  exact ⟨rfl, I0⟩
theorem i_vc_failureCount {k : Nat} {u : SX} {v : SY} (I : i_Rel k u v) (hk : k + 3 ≤ 1538) : wpX_failureCount (fun r => wpY_failureCount (fun r' => r' = r ∧ i_Rel (k + 3) u v) v) u := by
  have I0 := I
  obtain ⟨mC, mA, n, tk, ta, ph, sols, fails, lK, lV, lA, lc, lb, ov, b, L, hP, hX, hY⟩ := I
  obtain ⟨hC, hA, hn, hK, hlc, h2, hVV⟩ := hP
  obtain ⟨f_steering, f_steeringLength, f_pathLeft, f_failed, f_choicesMade, f_allocsMade, f_visiting, f_position, f_environment, f_resultIsClosure, f_resultValue, f_depth, a_ends, a_locationVariable, a_locationOuter, a_locationIsClosure, a_locationValue, a_closureToken, a_closureEnvironment, a_frameToken, a_frameEnvironment, a_frameHasFirst, a_frameFirstIsClosure, a_frameFirstValue, rfl, hx⟩ := hX
  obtain ⟨f_curLen, f_over, f_used, f_allocs, f_nf, f_nc, f_sp, f_rk, f_rv, a_lastBits, a_cur, a_fVar, a_fPar, a_fK, a_fV, a_cPos, a_cEnv, a_sPos, a_sEnv, a_sSt, a_sK, a_sV, rfl, hl, hy⟩ := hY
  exact ⟨rfl, I0⟩
theorem i_vc_choiceCount {k : Nat} {u : SX} {v : SY} (I : i_Rel k u v) (hk : k + 3 ≤ 1538) : wpX_choiceCount (fun r => wpY_choiceCount (fun r' => r' = r ∧ i_Rel (k + 3) u v) v) u := by
  have I0 := I
  obtain ⟨mC, mA, n, tk, ta, ph, sols, fails, lK, lV, lA, lc, lb, ov, b, L, hP, hX, hY⟩ := I
  obtain ⟨hC, hA, hn, hK, hlc, h2, hVV⟩ := hP
  obtain ⟨f_steering, f_steeringLength, f_pathLeft, f_failed, f_choicesMade, f_allocsMade, f_visiting, f_position, f_environment, f_resultIsClosure, f_resultValue, f_depth, a_ends, a_locationVariable, a_locationOuter, a_locationIsClosure, a_locationValue, a_closureToken, a_closureEnvironment, a_frameToken, a_frameEnvironment, a_frameHasFirst, a_frameFirstIsClosure, a_frameFirstValue, rfl, hx⟩ := hX
  obtain ⟨f_curLen, f_over, f_used, f_allocs, f_nf, f_nc, f_sp, f_rk, f_rv, a_lastBits, a_cur, a_fVar, a_fPar, a_fK, a_fV, a_cPos, a_cEnv, a_sPos, a_sEnv, a_sSt, a_sK, a_sV, rfl, hl, hy⟩ := hY
  exact ⟨rfl, I0⟩
theorem i_vc_allocCount {k : Nat} {u : SX} {v : SY} (I : i_Rel k u v) (hk : k + 3 ≤ 1538) : wpX_allocCount (fun r => wpY_allocCount (fun r' => r' = r ∧ i_Rel (k + 3) u v) v) u := by
  have I0 := I
  obtain ⟨mC, mA, n, tk, ta, ph, sols, fails, lK, lV, lA, lc, lb, ov, b, L, hP, hX, hY⟩ := I
  obtain ⟨hC, hA, hn, hK, hlc, h2, hVV⟩ := hP
  obtain ⟨f_steering, f_steeringLength, f_pathLeft, f_failed, f_choicesMade, f_allocsMade, f_visiting, f_position, f_environment, f_resultIsClosure, f_resultValue, f_depth, a_ends, a_locationVariable, a_locationOuter, a_locationIsClosure, a_locationValue, a_closureToken, a_closureEnvironment, a_frameToken, a_frameEnvironment, a_frameHasFirst, a_frameFirstIsClosure, a_frameFirstValue, rfl, hx⟩ := hX
  obtain ⟨f_curLen, f_over, f_used, f_allocs, f_nf, f_nc, f_sp, f_rk, f_rv, a_lastBits, a_cur, a_fVar, a_fPar, a_fK, a_fV, a_cPos, a_cEnv, a_sPos, a_sEnv, a_sSt, a_sK, a_sV, rfl, hl, hy⟩ := hY
  exact ⟨rfl, I0⟩
theorem i_vc_tokenCount {k : Nat} {u : SX} {v : SY} (I : i_Rel k u v) (hk : k + 3 ≤ 1538) : wpX_tokenCount (fun r => wpY_tokenCount (fun r' => r' = r ∧ i_Rel (k + 3) u v) v) u := by
  have I0 := I
  obtain ⟨mC, mA, n, tk, ta, ph, sols, fails, lK, lV, lA, lc, lb, ov, b, L, hP, hX, hY⟩ := I
  obtain ⟨hC, hA, hn, hK, hlc, h2, hVV⟩ := hP
  obtain ⟨f_steering, f_steeringLength, f_pathLeft, f_failed, f_choicesMade, f_allocsMade, f_visiting, f_position, f_environment, f_resultIsClosure, f_resultValue, f_depth, a_ends, a_locationVariable, a_locationOuter, a_locationIsClosure, a_locationValue, a_closureToken, a_closureEnvironment, a_frameToken, a_frameEnvironment, a_frameHasFirst, a_frameFirstIsClosure, a_frameFirstValue, rfl, hx⟩ := hX
  obtain ⟨f_curLen, f_over, f_used, f_allocs, f_nf, f_nc, f_sp, f_rk, f_rv, a_lastBits, a_cur, a_fVar, a_fPar, a_fK, a_fV, a_cPos, a_cEnv, a_sPos, a_sEnv, a_sSt, a_sK, a_sV, rfl, hl, hy⟩ := hY
  exact ⟨rfl, I0⟩
theorem i_vc_choiceBit {k : Nat} {u : SX} {v : SY} (I : i_Rel k u v) (hk : k + 3 ≤ 1538) (v1 : Int32) : wpX_choiceBit (fun r => wpY_choiceBit (fun r' => r' = r ∧ i_Rel (k + 3) u v) v v1) u v1 := by
  have I0 := I
  obtain ⟨mC, mA, n, tk, ta, ph, sols, fails, lK, lV, lA, lc, lb, ov, b, L, hP, hX, hY⟩ := I
  obtain ⟨hC, hA, hn, hK, hlc, h2, hVV⟩ := hP
  obtain ⟨f_steering, f_steeringLength, f_pathLeft, f_failed, f_choicesMade, f_allocsMade, f_visiting, f_position, f_environment, f_resultIsClosure, f_resultValue, f_depth, a_ends, a_locationVariable, a_locationOuter, a_locationIsClosure, a_locationValue, a_closureToken, a_closureEnvironment, a_frameToken, a_frameEnvironment, a_frameHasFirst, a_frameFirstIsClosure, a_frameFirstValue, rfl, hx⟩ := hX
  obtain ⟨f_curLen, f_over, f_used, f_allocs, f_nf, f_nc, f_sp, f_rk, f_rv, a_lastBits, a_cur, a_fVar, a_fPar, a_fK, a_fV, a_cPos, a_cEnv, a_sPos, a_sEnv, a_sSt, a_sK, a_sV, rfl, hl, hy⟩ := hY
  have J : i_Rel (k + 3) (nI mC, nI mA, nI n, ph, sols, fails, lK, lV, nI (am_nm lb lc), nI lc, lA, f_steering, f_steeringLength, f_pathLeft, f_failed, f_choicesMade, f_allocsMade, f_visiting, f_position, f_environment, f_resultIsClosure, f_resultValue, f_depth, tk, ta, a_ends, a_locationVariable, a_locationOuter, a_locationIsClosure, a_locationValue, a_closureToken, a_closureEnvironment, a_frameToken, a_frameEnvironment, a_frameHasFirst, a_frameFirstIsClosure, a_frameFirstValue) (nI mC, nI mA, nI n, ph, sols, fails, lK, lV, nI lc, lA, f_curLen, f_over, f_used, f_allocs, f_nf, f_nc, f_sp, f_rk, f_rv, tk, ta, a_lastBits, a_cur, a_fVar, a_fPar, a_fK, a_fV, a_cPos, a_cEnv, a_sPos, a_sEnv, a_sSt, a_sK, a_sV) := I0
  by_cases n0 : v1 < 0
  · exact br_t n0 (br_t n0 ⟨rfl, J⟩)
  · obtain ⟨j, hj, rfl⟩ := nI_of n0
    by_cases q : j < lc
    · have hc : (nI j).toNatClampNeg = j := nI_clamp hj
      have e1 : (nI lc - 1) - nI j = nI lc - nI (j + 1) := by
        rw [am_sub (by omega), show nI lc - 1 = nI lc - nI 1 from rfl, am_sub (by omega), am_sub (by omega)]
        exact congrArg nI (by omega)
      have eb : (nI (am_nm lb lc) >>> (((nI lc - 1) - nI j) &&& 31)) &&& 1 = am_bI (lb j) := by rw [e1, am_bit q hlc, am_bI_n]
      refine br_f n0 (br_t (nI_lt q (by omega)) (br_f n0 (br_f (nI_ge q (by omega)) (br_t (nI_lt (b := 6) (by omega) (by decide)) ⟨vp_in_nI (by omega) (by decide), ?_, J⟩))))
      rw [hc, hl j q, eb]
    · have q2 : lc ≤ j := by omega
      exact br_f n0 (br_f (nI_nlt q2 hj) (br_f n0 (br_t (nI_le q2 hj) ⟨rfl, J⟩)))
theorem i_vc_tokenKind {k : Nat} {u : SX} {v : SY} (I : i_Rel k u v) (hk : k + 3 ≤ 1538) (v1 : Int32) : wpX_tokenKind (fun r => wpY_tokenKind (fun r' => r' = r ∧ i_Rel (k + 3) u v) v v1) u v1 := by
  have I0 := I
  obtain ⟨mC, mA, n, tk, ta, ph, sols, fails, lK, lV, lA, lc, lb, ov, b, L, hP, hX, hY⟩ := I
  obtain ⟨hC, hA, hn, hK, hlc, h2, hVV⟩ := hP
  obtain ⟨f_steering, f_steeringLength, f_pathLeft, f_failed, f_choicesMade, f_allocsMade, f_visiting, f_position, f_environment, f_resultIsClosure, f_resultValue, f_depth, a_ends, a_locationVariable, a_locationOuter, a_locationIsClosure, a_locationValue, a_closureToken, a_closureEnvironment, a_frameToken, a_frameEnvironment, a_frameHasFirst, a_frameFirstIsClosure, a_frameFirstValue, rfl, hx⟩ := hX
  obtain ⟨f_curLen, f_over, f_used, f_allocs, f_nf, f_nc, f_sp, f_rk, f_rv, a_lastBits, a_cur, a_fVar, a_fPar, a_fK, a_fV, a_cPos, a_cEnv, a_sPos, a_sEnv, a_sSt, a_sK, a_sV, rfl, hl, hy⟩ := hY
  have J : i_Rel (k + 3) (nI mC, nI mA, nI n, ph, sols, fails, lK, lV, nI (am_nm lb lc), nI lc, lA, f_steering, f_steeringLength, f_pathLeft, f_failed, f_choicesMade, f_allocsMade, f_visiting, f_position, f_environment, f_resultIsClosure, f_resultValue, f_depth, tk, ta, a_ends, a_locationVariable, a_locationOuter, a_locationIsClosure, a_locationValue, a_closureToken, a_closureEnvironment, a_frameToken, a_frameEnvironment, a_frameHasFirst, a_frameFirstIsClosure, a_frameFirstValue) (nI mC, nI mA, nI n, ph, sols, fails, lK, lV, nI lc, lA, f_curLen, f_over, f_used, f_allocs, f_nf, f_nc, f_sp, f_rk, f_rv, tk, ta, a_lastBits, a_cur, a_fVar, a_fPar, a_fK, a_fV, a_cPos, a_cEnv, a_sPos, a_sEnv, a_sSt, a_sK, a_sV) := I0
  unfold wpX_tokenKind
  by_cases n0 : v1 < 0
  · exact br_t n0 (br_t rfl (br_t n0 ⟨rfl, J⟩))
  · obtain ⟨j, hj, rfl⟩ := nI_of n0
    by_cases q : j < n
    · have vv : vp_in (nI j) 32 := vp_in_nI (by omega) (by decide)
      exact br_f n0 (br_f (nI_ge q (by omega)) (br_f (by decide) ⟨vv, br_f n0 (br_t (nI_lt q (by omega)) ⟨vv, rfl, J⟩)⟩))
    · exact br_f n0 (br_t (nI_le (by omega) hj) (br_t rfl (br_f n0 (br_f (nI_nlt (by omega) hj) ⟨rfl, J⟩))))
theorem i_vc_tokenArg {k : Nat} {u : SX} {v : SY} (I : i_Rel k u v) (hk : k + 3 ≤ 1538) (v1 : Int32) : wpX_tokenArg (fun r => wpY_tokenArg (fun r' => r' = r ∧ i_Rel (k + 3) u v) v v1) u v1 := by
  have I0 := I
  obtain ⟨mC, mA, n, tk, ta, ph, sols, fails, lK, lV, lA, lc, lb, ov, b, L, hP, hX, hY⟩ := I
  obtain ⟨hC, hA, hn, hK, hlc, h2, hVV⟩ := hP
  obtain ⟨f_steering, f_steeringLength, f_pathLeft, f_failed, f_choicesMade, f_allocsMade, f_visiting, f_position, f_environment, f_resultIsClosure, f_resultValue, f_depth, a_ends, a_locationVariable, a_locationOuter, a_locationIsClosure, a_locationValue, a_closureToken, a_closureEnvironment, a_frameToken, a_frameEnvironment, a_frameHasFirst, a_frameFirstIsClosure, a_frameFirstValue, rfl, hx⟩ := hX
  obtain ⟨f_curLen, f_over, f_used, f_allocs, f_nf, f_nc, f_sp, f_rk, f_rv, a_lastBits, a_cur, a_fVar, a_fPar, a_fK, a_fV, a_cPos, a_cEnv, a_sPos, a_sEnv, a_sSt, a_sK, a_sV, rfl, hl, hy⟩ := hY
  have J : i_Rel (k + 3) (nI mC, nI mA, nI n, ph, sols, fails, lK, lV, nI (am_nm lb lc), nI lc, lA, f_steering, f_steeringLength, f_pathLeft, f_failed, f_choicesMade, f_allocsMade, f_visiting, f_position, f_environment, f_resultIsClosure, f_resultValue, f_depth, tk, ta, a_ends, a_locationVariable, a_locationOuter, a_locationIsClosure, a_locationValue, a_closureToken, a_closureEnvironment, a_frameToken, a_frameEnvironment, a_frameHasFirst, a_frameFirstIsClosure, a_frameFirstValue) (nI mC, nI mA, nI n, ph, sols, fails, lK, lV, nI lc, lA, f_curLen, f_over, f_used, f_allocs, f_nf, f_nc, f_sp, f_rk, f_rv, tk, ta, a_lastBits, a_cur, a_fVar, a_fPar, a_fK, a_fV, a_cPos, a_cEnv, a_sPos, a_sEnv, a_sSt, a_sK, a_sV) := I0
  unfold wpX_tokenArg
  by_cases n0 : v1 < 0
  · exact br_t n0 (br_t rfl (br_t n0 ⟨rfl, J⟩))
  · obtain ⟨j, hj, rfl⟩ := nI_of n0
    by_cases q : j < n
    · have vv : vp_in (nI j) 32 := vp_in_nI (by omega) (by decide)
      exact br_f n0 (br_f (nI_ge q (by omega)) (br_f (by decide) ⟨vv, br_f n0 (br_t (nI_lt q (by omega)) ⟨vv, rfl, J⟩)⟩))
    · exact br_f n0 (br_t (nI_le (by omega) hj) (br_t rfl (br_f n0 (br_f (nI_nlt (by omega) hj) ⟨rfl, J⟩))))
