/-! the relation -/
def i_Rel (_ : Nat) (u : SX) (v : SY) : Prop :=
  ∃ (mC mA n : Nat) (tk ta : Nat → Int32) (ph sols fails lK lV lA : Int32) (lc : Nat) (lb : Nat → Bool) (ov : Bool) (b : Nat → Bool) (L : Nat), am_PD mC mA n tk ta ph lc ov b L ∧ am_RX mC mA n tk ta ph sols fails lK lV lA lc lb ov b L u ∧ am_RY mC mA n tk ta ph sols fails lK lV lA lc lb ov b L v
theorem am_V_ov {mC mA n : Nat} {tk ta : Nat → Int32} {b : Nat → Bool} (hA : mA ≤ 16) (hn : n ≤ 32) (h : am_ov b (am_us (am_run n tk ta mC mA b).2.2.2) = false) : am_V mC mA n tk ta (am_nb b (am_us (am_run n tk ta mC mA b).2.2.2)) (am_la b (am_us (am_run n tk ta mC mA b).2.2.2)) := by
  cases hl : am_la b (am_us (am_run n tk ta mC mA b).2.2.2) with
  | zero =>
    rw [am_ov_t hl] at h
    exact absurd h (by decide)
  | succ q =>
    rw [am_nb_q hl]
    exact am_V_nb hA hn hl
theorem am_V_grow {b : Nat → Bool} {k q : Nat} (hk : k ≤ 6) (h : am_la b k = q + 1) : am_nm b 6 < am_nm (am_sb b q) 6 := by
  obtain ⟨h1, h2⟩ := am_la_q _ h
  have g := am_nm_grow (b := b) (c := am_sb b q) (q := q) (fun i hi => (am_sb_lo hi).symm) h2 (am_sb_at b q) (5 - q)
  have e : q + 1 + (5 - q) = 6 := by omega
  rw [e] at g
  exact g
theorem am_next {mC mA n : Nat} {tk ta : Nat → Int32} (hC : mC ≤ 6) (hA : mA ≤ 16) (hn : n ≤ 32) (hK : ∀ i, i < n → am_kd (tk i)) : ∀ (d : Nat) (b : Nat → Bool) (L i : Nat) (ph sols fails lK lV lA : Int32) (lc : Nat) (lb : Nat → Bool), am_V mC mA n tk ta b L → 64 ≤ am_nm b 6 + d → i ≤ am_nm b 6 → ¬ ph = 0 → ¬ ph = 2 → lc ≤ 6 →
    ∃ (r ph' sols' fails' lK' lV' lA' : Int32) (lc' : Nat) (lb' : Nat → Bool) (ov' : Bool) (b' : Nat → Bool) (L' : Nat), am_PD mC mA n tk ta ph' lc' ov' b' L' ∧
    (∀ (post : Int32 → SX → Prop) (f : Nat) (f_failed f_choicesMade f_allocsMade f_visiting f_position f_environment f_resultIsClosure f_resultValue f_depth : Int32) (en a_locationVariable a_locationOuter a_locationIsClosure a_locationValue a_closureToken a_closureEnvironment a_frameToken a_frameEnvironment a_frameHasFirst a_frameFirstIsClosure a_frameFirstValue : Nat → Int32), 65 ≤ f + i → (∀ u', am_RX mC mA n tk ta ph' sols' fails' lK' lV' lA' lc' lb' ov' b' L' u' → post r u') → (∀ i, i < n → en i = nI (am_eN tk n i)) → wX_next_11 post f (nI i) (nI mC) (nI mA) (nI n) ph sols fails lK lV (nI (am_nm lb lc)) (nI lc) lA (nI (am_nm b L)) (nI L) 1 f_failed f_choicesMade f_allocsMade f_visiting f_position f_environment f_resultIsClosure f_resultValue f_depth tk ta en a_locationVariable a_locationOuter a_locationIsClosure a_locationValue a_closureToken a_closureEnvironment a_frameToken a_frameEnvironment a_frameHasFirst a_frameFirstIsClosure a_frameFirstValue) ∧
    (∀ (post : Int32 → SY → Prop) (f : Nat) (f_used f_allocs f_nf f_nc f_sp f_rk f_rv : Int32) (a_lastBits a_cur a_fVar a_fPar a_fK a_fV a_cPos a_cEnv a_sPos a_sEnv a_sSt a_sK a_sV : Nat → Int32), 201 ≤ f + i → (∀ v', am_RY mC mA n tk ta ph' sols' fails' lK' lV' lA' lc' lb' ov' b' L' v' → post r v') → (∀ j, j < lc → a_lastBits j = am_bI (lb j)) → (∀ j, j < L → a_cur j = am_bI (b j)) → wY_next_21 post f (nI i) (nI mC) (nI mA) (nI n) ph sols fails lK lV (nI lc) lA (nI L) 0 f_used f_allocs f_nf f_nc f_sp f_rk f_rv tk ta a_lastBits a_cur a_fVar a_fPar a_fK a_fV a_cPos a_cEnv a_sPos a_sEnv a_sSt a_sK a_sV) := by
  intro d
  induction d with
  | zero =>
    intro b L i ph sols fails lK lV lA lc lb hV hd
    have := am_nm_le (b := b) (Nat.le_refl 6)
    omega
  | succ d ih =>
    intro b L i ph sols fails lK lV lA lc lb hV hd hi p0 p2 hlc
    have h64 := am_nm_le (b := b) (Nat.le_refl 6)
    have hi64 : i < 64 := by omega
    have hG := am_run_G (tk := tk) (ta := ta) (mC := mC) b hA hn
    have hu : am_us (am_run n tk ta mC mA b).2.2.2 ≤ 6 := Nat.le_trans hG.1.1 hC
    cases hr : (am_run n tk ta mC mA b).1 with
    | true =>
      refine ⟨1, ph, sols + 1, fails, (am_run n tk ta mC mA b).2.1, am_lv (am_run n tk ta mC mA b).2.2.2 (am_run n tk ta mC mA b).2.1 (am_run n tk ta mC mA b).2.2.1, nI (am_al (am_run n tk ta mC mA b).2.2.2), am_us (am_run n tk ta mC mA b).2.2.2, b, am_ov b (am_us (am_run n tk ta mC mA b).2.2.2), am_nb b (am_us (am_run n tk ta mC mA b).2.2.2), am_la b (am_us (am_run n tk ta mC mA b).2.2.2), ⟨hC, hA, hn, hK, hu, fun z => absurd z p2, fun _ z => am_V_ov hA hn z⟩, ?_, ?_⟩
      · intro post f f_failed f_choicesMade f_allocsMade f_visiting f_position f_environment f_resultIsClosure f_resultValue f_depth en a_locationVariable a_locationOuter a_locationIsClosure a_locationValue a_closureToken a_closureEnvironment a_frameToken a_frameEnvironment a_frameHasFirst a_frameFirstIsClosure a_frameFirstValue hf h hen
        obtain ⟨f, rfl⟩ : ∃ f', f = f' + 1 := ⟨f - 1, by omega⟩
        exact am_xpS hC hA hn hK hV hen hi64 hr h
      · intro post f f_used f_allocs f_nf f_nc f_sp f_rk f_rv a_lastBits a_cur a_fVar a_fPar a_fK a_fV a_cPos a_cEnv a_sPos a_sEnv a_sSt a_sK a_sV hf h hl hc
        obtain ⟨f, rfl⟩ : ∃ f', f = f' + 1 := ⟨f - 1, by omega⟩
        exact am_ypS hC hA hn hK hV hc hi64 hr h
    | false =>
      cases hq : am_la b (am_us (am_run n tk ta mC mA b).2.2.2) with
      | zero =>
        refine ⟨0, 2, sols, fails + 1, lK, lV, lA, lc, lb, true, b, L, ⟨hC, hA, hn, hK, hlc, fun _ => rfl, fun _ z => absurd z (by decide)⟩, ?_, ?_⟩
        · intro post f f_failed f_choicesMade f_allocsMade f_visiting f_position f_environment f_resultIsClosure f_resultValue f_depth en a_locationVariable a_locationOuter a_locationIsClosure a_locationValue a_closureToken a_closureEnvironment a_frameToken a_frameEnvironment a_frameHasFirst a_frameFirstIsClosure a_frameFirstValue hf h hen
          obtain ⟨f, rfl⟩ : ∃ f', f = f' + 1 + 1 := ⟨f - 2, by omega⟩
          refine am_xpF hC hA hn hK hV hen hi64 hr ?_
          intro f_steering f_steeringLength f_pathLeft f_failed f_choicesMade f_allocsMade f_visiting f_position f_environment f_resultIsClosure f_resultValue f_depth a_locationVariable a_locationOuter a_locationIsClosure a_locationValue a_closureToken a_closureEnvironment a_frameToken a_frameEnvironment a_frameHasFirst a_frameFirstIsClosure a_frameFirstValue hh
          have e : f_pathLeft = am_pl true := by rw [hh.1, am_ov_t hq]
          have g := h (nI mC, nI mA, nI n, 2, sols, fails + 1, lK, lV, nI (am_nm lb lc), nI lc, lA, f_steering, f_steeringLength, f_pathLeft, f_failed, f_choicesMade, f_allocsMade, f_visiting, f_position, f_environment, f_resultIsClosure, f_resultValue, f_depth, tk, ta, en, a_locationVariable, a_locationOuter, a_locationIsClosure, a_locationValue, a_closureToken, a_closureEnvironment, a_frameToken, a_frameEnvironment, a_frameHasFirst, a_frameFirstIsClosure, a_frameFirstValue) ⟨f_steering, f_steeringLength, f_pathLeft, f_failed, f_choicesMade, f_allocsMade, f_visiting, f_position, f_environment, f_resultIsClosure, f_resultValue, f_depth, en, a_locationVariable, a_locationOuter, a_locationIsClosure, a_locationValue, a_closureToken, a_closureEnvironment, a_frameToken, a_frameEnvironment, a_frameHasFirst, a_frameFirstIsClosure, a_frameFirstValue, rfl, fun _ => ⟨hen, e, fun z => absurd z (by decide)⟩⟩
          rw [wX_next_11]
          exact br_c (fun _ => g) (fun _ => br_t e g)
        · intro post f f_used f_allocs f_nf f_nc f_sp f_rk f_rv a_lastBits a_cur a_fVar a_fPar a_fK a_fV a_cPos a_cEnv a_sPos a_sEnv a_sSt a_sK a_sV hf h hl hc
          obtain ⟨f, rfl⟩ : ∃ f', f = f' + 1 + 1 := ⟨f - 2, by omega⟩
          refine am_ypF hC hA hn hK hV hc hi64 hr ?_
          intro f_curLen f_over f_used f_allocs f_nf f_nc f_sp f_rk f_rv a_cur a_fVar a_fPar a_fK a_fV a_cPos a_cEnv a_sPos a_sEnv a_sSt a_sK a_sV hh
          have e : f_over = am_oI true := by rw [hh.1, am_ov_t hq]
          have e0 : ¬ f_over = 0 := by rw [e]; decide
          have g := h (nI mC, nI mA, nI n, 2, sols, fails + 1, lK, lV, nI lc, lA, f_curLen, f_over, f_used, f_allocs, f_nf, f_nc, f_sp, f_rk, f_rv, tk, ta, a_lastBits, a_cur, a_fVar, a_fPar, a_fK, a_fV, a_cPos, a_cEnv, a_sPos, a_sEnv, a_sSt, a_sK, a_sV) ⟨f_curLen, f_over, f_used, f_allocs, f_nf, f_nc, f_sp, f_rk, f_rv, a_lastBits, a_cur, a_fVar, a_fPar, a_fK, a_fV, a_cPos, a_cEnv, a_sPos, a_sEnv, a_sSt, a_sK, a_sV, rfl, hl, fun _ => ⟨e, fun z => absurd z (by decide)⟩⟩
          rw [wY_next_21]
          exact br_f (nI_ge (b := 200) (by omega) (by decide)) (br_f e0 g)
      | succ q =>
        have hg := am_V_grow hu hq
        obtain ⟨r, ph', sols', fails', lK', lV', lA', lc', lb', ov', b', L', hP, hX, hY⟩ := ih (am_sb b q) (q + 1) (i + 1) ph sols (fails + 1) lK lV lA lc lb (am_V_nb hA hn hq) (by omega) (by omega) p0 p2 hlc
        refine ⟨r, ph', sols', fails', lK', lV', lA', lc', lb', ov', b', L', hP, ?_, ?_⟩
        · intro post f f_failed f_choicesMade f_allocsMade f_visiting f_position f_environment f_resultIsClosure f_resultValue f_depth en a_locationVariable a_locationOuter a_locationIsClosure a_locationValue a_closureToken a_closureEnvironment a_frameToken a_frameEnvironment a_frameHasFirst a_frameFirstIsClosure a_frameFirstValue hf h hen
          obtain ⟨f, rfl⟩ : ∃ f', f = f' + 1 := ⟨f - 1, by omega⟩
          refine am_xpF hC hA hn hK hV hen hi64 hr ?_
          intro f_steering f_steeringLength f_pathLeft f_failed f_choicesMade f_allocsMade f_visiting f_position f_environment f_resultIsClosure f_resultValue f_depth a_locationVariable a_locationOuter a_locationIsClosure a_locationValue a_closureToken a_closureEnvironment a_frameToken a_frameEnvironment a_frameHasFirst a_frameFirstIsClosure a_frameFirstValue hh
          obtain ⟨e1, e2⟩ := hh
          obtain ⟨e3, e4⟩ := e2 (am_ov_f hq)
          rw [am_ov_f hq] at e1
          rw [am_nb_q hq, hq] at e3
          rw [hq] at e4
          subst e1
          subst e3
          subst e4
          exact hX post f _ _ _ _ _ _ _ _ _ _ _ _ _ _ _ _ _ _ _ _ _ (by omega) h hen
        · intro post f f_used f_allocs f_nf f_nc f_sp f_rk f_rv a_lastBits a_cur a_fVar a_fPar a_fK a_fV a_cPos a_cEnv a_sPos a_sEnv a_sSt a_sK a_sV hf h hl hc
          obtain ⟨f, rfl⟩ : ∃ f', f = f' + 1 := ⟨f - 1, by omega⟩
          refine am_ypF hC hA hn hK hV hc hi64 hr ?_
          intro f_curLen f_over f_used f_allocs f_nf f_nc f_sp f_rk f_rv a_cur a_fVar a_fPar a_fK a_fV a_cPos a_cEnv a_sPos a_sEnv a_sSt a_sK a_sV hh
          obtain ⟨e1, e2⟩ := hh
          obtain ⟨e3, e4⟩ := e2 (am_ov_f hq)
          rw [am_ov_f hq] at e1
          rw [hq] at e3
          rw [am_nb_q hq, hq] at e4
          subst e1
          subst e3
          exact hY post f _ _ _ _ _ _ _ _ _ _ _ _ _ _ _ _ _ _ _ _ (by omega) h hl e4
theorem i_up {k : Nat} {u : SX} {v : SY} (h : i_Rel k u v) : i_Rel (k + 3) u v := h
theorem i_vc_next {k : Nat} {u : SX} {v : SY} (I : i_Rel k u v) (hk : k + 3 ≤ 1538) : wpX_next (fun r u' => wpY_next (fun r' v' => r' = r ∧ i_Rel (k + 3) u' v') v) u := by
  have I0 := I
  obtain ⟨mC, mA, n, tk, ta, ph, sols, fails, lK, lV, lA, lc, lb, ov, b, L, hP, hX, hY⟩ := I
  obtain ⟨hC, hA, hn, hK, hlc, h2, hVV⟩ := hP
  obtain ⟨f_steering, f_steeringLength, f_pathLeft, f_failed, f_choicesMade, f_allocsMade, f_visiting, f_position, f_environment, f_resultIsClosure, f_resultValue, f_depth, a_ends, a_locationVariable, a_locationOuter, a_locationIsClosure, a_locationValue, a_closureToken, a_closureEnvironment, a_frameToken, a_frameEnvironment, a_frameHasFirst, a_frameFirstIsClosure, a_frameFirstValue, rfl, hx⟩ := hX
  obtain ⟨f_curLen, f_over, f_used, f_allocs, f_nf, f_nc, f_sp, f_rk, f_rv, a_lastBits, a_cur, a_fVar, a_fPar, a_fK, a_fV, a_cPos, a_cEnv, a_sPos, a_sEnv, a_sSt, a_sK, a_sV, rfl, hl, hy⟩ := hY
  by_cases p0 : ph = 0
  · exact br_t p0 (br_t p0 ⟨rfl, I0⟩)
  · obtain ⟨hen, x1, x2⟩ := hx p0
    obtain ⟨y1, y2⟩ := hy p0
    cases ov with
    | true =>
      have R : ∀ (u' : SX) (v' : SY), am_RX mC mA n tk ta 2 sols fails lK lV lA lc lb true b L u' → am_RY mC mA n tk ta 2 sols fails lK lV lA lc lb true b L v' → i_Rel (k + 3) u' v' := fun u' v' a c => ⟨mC, mA, n, tk, ta, 2, sols, fails, lK, lV, lA, lc, lb, true, b, L, ⟨hC, hA, hn, hK, hlc, fun _ => rfl, fun _ z => absurd z (by decide)⟩, a, c⟩
      have y0 : ¬ f_over = 0 := by rw [y1]; decide
      refine br_f p0 ⟨1, ?_⟩
      rw [wX_next_11]
      refine br_f (by decide) (br_t x1 ?_)
      refine br_f p0 (br_c (fun z => by subst z; exact ⟨rfl, R _ _ ⟨_, _, _, _, _, _, _, _, _, _, _, _, _, _, _, _, _, _, _, _, _, _, _, _, rfl, fun _ => ⟨hen, x1, x2⟩⟩ ⟨_, _, _, _, _, _, _, _, _, _, _, _, _, _, _, _, _, _, _, _, _, _, rfl, hl, fun _ => ⟨y1, y2⟩⟩⟩) (fun _ => ⟨1, ?_⟩))
      rw [wY_next_21]
      exact br_f (by decide) (br_f y0 ⟨rfl, R _ _ ⟨_, _, _, _, _, _, _, _, _, _, _, _, _, _, _, _, _, _, _, _, _, _, _, _, rfl, fun _ => ⟨hen, x1, x2⟩⟩ ⟨_, _, _, _, _, _, _, _, _, _, _, _, _, _, _, _, _, _, _, _, _, _, rfl, hl, fun _ => ⟨y1, y2⟩⟩⟩)
    | false =>
      have p2 : ¬ ph = 2 := fun z => absurd (h2 z) (by decide)
      obtain ⟨x3, x4⟩ := x2 rfl
      obtain ⟨y3, y4⟩ := y2 rfl
      subst x1
      subst x3
      subst x4
      subst y1
      subst y3
      obtain ⟨r, ph', sols', fails', lK', lV', lA', lc', lb', ov', b', L', hP, HX, HY⟩ := am_next hC hA hn hK 64 b L 0 ph sols fails lK lV lA lc lb (hVV p0 rfl) (by omega) (Nat.zero_le _) p0 p2 hlc
      refine br_f p0 ⟨65, HX _ 65 _ _ _ _ _ _ _ _ _ _ _ _ _ _ _ _ _ _ _ _ _ (by omega) (fun u' hu' => ?_) hen⟩
      exact br_f p0 (br_f p2 ⟨201, HY _ 201 _ _ _ _ _ _ _ _ _ _ _ _ _ _ _ _ _ _ _ _ (by omega) (fun v' hv' => ⟨rfl, mC, mA, n, tk, ta, ph', sols', fails', lK', lV', lA', lc', lb', ov', b', L', hP, hu', hv'⟩) hl y4⟩)
