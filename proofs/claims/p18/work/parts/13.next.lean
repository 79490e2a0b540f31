/-! from path to path -/
def am_lv (s : am_S) (k v : Int32) : Int32 := if k = 2 then am_cPos s v.toNatClampNeg else v
def am_pl : Bool → Int32
  | true => 0
  | false => 1
def am_oI : Bool → Int32
  | true => 1
  | false => 0
/-- the search's place, as the component and as the reference keep it -/
def am_HX (ov : Bool) (b : Nat → Bool) (L : Nat) (f_pathLeft f_steering f_steeringLength : Int32) : Prop := f_pathLeft = am_pl ov ∧ (ov = false → f_steering = nI (am_nm b L) ∧ f_steeringLength = nI L)
def am_RX (mC mA n : Nat) (tk ta : Nat → Int32) (ph sols fails lK lV lA : Int32) (lc : Nat) (lb : Nat → Bool) (ov : Bool) (b : Nat → Bool) (L : Nat) (u : St2) : Prop :=
  ∃ (f_steering f_steeringLength f_pathLeft f_failed f_choicesMade f_allocsMade f_visiting f_position f_environment f_resultIsClosure f_resultValue f_depth : Int32) (a_ends a_locationVariable a_locationOuter a_locationIsClosure a_locationValue a_closureToken a_closureEnvironment a_frameToken a_frameEnvironment a_frameHasFirst a_frameFirstIsClosure a_frameFirstValue : Nat → Int32), u = (nI mC, nI mA, nI n, ph, sols, fails, lK, lV, nI (am_nm lb lc), nI lc, lA, f_steering, f_steeringLength, f_pathLeft, f_failed, f_choicesMade, f_allocsMade, f_visiting, f_position, f_environment, f_resultIsClosure, f_resultValue, f_depth, tk, ta, a_ends, a_locationVariable, a_locationOuter, a_locationIsClosure, a_locationValue, a_closureToken, a_closureEnvironment, a_frameToken, a_frameEnvironment, a_frameHasFirst, a_frameFirstIsClosure, a_frameFirstValue) ∧ (¬ ph = 0 → (∀ i, i < n → a_ends i = nI (am_eN tk n i)) ∧ am_HX ov b L f_pathLeft f_steering f_steeringLength)
/-- the vector that stands is one that the search comes to -/
def am_V (mC mA n : Nat) (tk ta : Nat → Int32) (b : Nat → Bool) (L : Nat) : Prop := L ≤ mC ∧ (∀ j, L ≤ j → b j = false) ∧ L ≤ am_us (am_run n tk ta mC mA b).2.2.2
def am_PD (mC mA n : Nat) (tk ta : Nat → Int32) (ph : Int32) (lc : Nat) (ov : Bool) (b : Nat → Bool) (L : Nat) : Prop := mC ≤ 6 ∧ mA ≤ 16 ∧ n ≤ 32 ∧ (∀ i, i < n → am_kd (tk i)) ∧ lc ≤ 6 ∧ (ph = 2 → ov = true) ∧ (¬ ph = 0 → ov = false → am_V mC mA n tk ta b L)
def am_ov (b : Nat → Bool) (k : Nat) : Bool := decide (am_la b k = 0)
def am_nb (b : Nat → Bool) (k : Nat) : Nat → Bool := am_sb b (am_la b k - 1)
theorem am_ov_t {b : Nat → Bool} {k : Nat} (h : am_la b k = 0) : am_ov b k = true := decide_eq_true h
theorem am_ov_f {b : Nat → Bool} {k q : Nat} (h : am_la b k = q + 1) : am_ov b k = false := decide_eq_false (by omega)
theorem am_nb_q {b : Nat → Bool} {k q : Nat} (h : am_la b k = q + 1) : am_nb b k = am_sb b q := by
  unfold am_nb
  rw [h, Nat.add_sub_cancel]
theorem am_V_nb {mC mA n : Nat} {tk ta : Nat → Int32} {b : Nat → Bool} {q : Nat} (hA : mA ≤ 16) (hn : n ≤ 32) (h : am_la b (am_us (am_run n tk ta mC mA b).2.2.2) = q + 1) : am_V mC mA n tk ta (am_sb b q) (q + 1) := by
  obtain ⟨h1, h2⟩ := am_la_q _ h
  have hw := (am_run_G (tk := tk) (ta := ta) (mC := mC) b hA hn).1.1
  exact ⟨by omega, fun j hj => am_sb_hi hj, am_reach (fun i hi => (am_sb_lo hi).symm) h1⟩
section
variable {f_maxChoices f_maxAlloc f_held f_stage f_solutions f_failures f_lastKind f_lastValue f_lastChoices f_lastChoiceCount f_lastAllocCount f_steering f_steeringLength f_pathLeft f_failed f_choicesMade f_allocsMade f_visiting f_position f_environment f_resultIsClosure f_resultValue f_depth : Int32} {a_kinds a_args a_ends a_locationVariable a_locationOuter a_locationIsClosure a_locationValue a_closureToken a_closureEnvironment a_frameToken a_frameEnvironment a_frameHasFirst a_frameFirstIsClosure a_frameFirstValue : Nat → Int32}
theorem am_xkeep {post : St2 → Prop} {n mC mA : Nat} {s : am_S} {rk rv : Int32} (w : am_WF n mC mA s) (hA : mA ≤ 16) (hv : am_okV s rk rv) (hs : am_sx s a_locationVariable a_locationOuter a_locationIsClosure a_locationValue a_closureToken a_closureEnvironment) (h : post (f_maxChoices, f_maxAlloc, f_held, f_stage, f_solutions + 1, f_failures, rk, am_lv s rk rv, f_steering, f_choicesMade, f_allocsMade, f_steering, f_steeringLength, f_pathLeft, f_failed, f_choicesMade, f_allocsMade, f_visiting, f_position, f_environment, am_xk rk, am_xv s rk rv, f_depth, a_kinds, a_args, a_ends, a_locationVariable, a_locationOuter, a_locationIsClosure, a_locationValue, a_closureToken, a_closureEnvironment, a_frameToken, a_frameEnvironment, a_frameHasFirst, a_frameFirstIsClosure, a_frameFirstValue)) : wpX_keepSolution post (f_maxChoices, f_maxAlloc, f_held, f_stage, f_solutions, f_failures, f_lastKind, f_lastValue, f_lastChoices, f_lastChoiceCount, f_lastAllocCount, f_steering, f_steeringLength, f_pathLeft, f_failed, f_choicesMade, f_allocsMade, f_visiting, f_position, f_environment, am_xk rk, am_xv s rk rv, f_depth, a_kinds, a_args, a_ends, a_locationVariable, a_locationOuter, a_locationIsClosure, a_locationValue, a_closureToken, a_closureEnvironment, a_frameToken, a_frameEnvironment, a_frameHasFirst, a_frameFirstIsClosure, a_frameFirstValue) := by
  rcases hv with y | ⟨y, c, hc, z⟩
  · subst y
    have el : am_lv s 1 rv = rv := if_neg (by decide)
    rw [el, am_xk_1, am_xv_1] at h
    rw [am_xk_1, am_xv_1]
    exact nm_e (br_t rfl (br_t rfl h))
  · subst y
    subst z
    have hcb := am_WF_c w hA hc
    have hx : am_xc s c < 16 := by
      have h5 := (w.2.2.2 c hc).2.2
      have h6 := w.2.1
      omega
    have el : am_lv s 2 (nI c) = am_cPos s c := by
      unfold am_lv
      rw [if_pos rfl, nI_clamp (by omega)]
    have hd : (nI (am_xc s c)).toNatClampNeg = am_xc s c := nI_clamp (by omega)
    rw [el, am_xk_2, am_xv_2 s (by omega)] at h
    rw [am_xk_2, am_xv_2 s (by omega)]
    exact nm_e (br_f (by decide) (br_f (by decide) (br_f (nI_pos (by omega)) (br_f (nI_ge (b := 16) hx (by decide)) ⟨vp_in_nI hx (by decide), by rw [hd, (hs.2 c hc).1]; exact h⟩))))
theorem am_xadv0 {post : St2 → Prop} {b : Nat → Bool} : ∀ k i : Nat, i + k ≤ 6 → (∀ f_pathLeft f_steering f_steeringLength : Int32, am_HX (am_ov b k) (am_nb b k) (am_la b k) f_pathLeft f_steering f_steeringLength → post (f_maxChoices, f_maxAlloc, f_held, f_stage, f_solutions, f_failures, f_lastKind, f_lastValue, f_lastChoices, f_lastChoiceCount, f_lastAllocCount, f_steering, f_steeringLength, f_pathLeft, f_failed, f_choicesMade, f_allocsMade, f_visiting, f_position, f_environment, f_resultIsClosure, f_resultValue, f_depth, a_kinds, a_args, a_ends, a_locationVariable, a_locationOuter, a_locationIsClosure, a_locationValue, a_closureToken, a_closureEnvironment, a_frameToken, a_frameEnvironment, a_frameHasFirst, a_frameFirstIsClosure, a_frameFirstValue)) → wX_moveToNextPath_2 post f_maxChoices f_maxAlloc f_held f_stage f_solutions f_failures f_lastKind f_lastValue f_lastChoices f_lastChoiceCount f_lastAllocCount f_pathLeft f_failed f_choicesMade f_allocsMade f_visiting f_position f_environment f_resultIsClosure f_resultValue f_depth a_kinds a_args a_ends a_locationVariable a_locationOuter a_locationIsClosure a_locationValue a_closureToken a_closureEnvironment a_frameToken a_frameEnvironment a_frameHasFirst a_frameFirstIsClosure a_frameFirstValue (k + 1) (nI i) (nI (am_nm b k)) (nI k) := by
  intro k
  induction k with
  | zero =>
    intro i hi h
    have hh := h 0 (nI 0 ||| 1) (nI 0) ⟨rfl, fun z => absurd z (by show ¬ (am_ov b 0 = false); rw [am_ov_t (b := b) (k := 0) rfl]; decide)⟩
    have h44 : wX_moveToNextPath_44 post f_maxChoices f_maxAlloc f_held f_stage f_solutions f_failures f_lastKind f_lastValue f_lastChoices f_lastChoiceCount f_lastAllocCount (nI 0) (nI 0) f_pathLeft f_failed f_choicesMade f_allocsMade f_visiting f_position f_environment f_resultIsClosure f_resultValue f_depth a_kinds a_args a_ends a_locationVariable a_locationOuter a_locationIsClosure a_locationValue a_closureToken a_closureEnvironment a_frameToken a_frameEnvironment a_frameHasFirst a_frameFirstIsClosure a_frameFirstValue := br_t (Int32.le_refl _) ⟨rfl, rfl, nm_e hh⟩
    rw [wX_moveToNextPath_2]
    have n0 : ¬ nI (am_nm b 0) &&& 1 = 1 := by
      show ¬ nI 0 &&& 1 = 1
      decide
    exact br_c (fun _ => h44) (fun _ => br_f n0 h44)
  | succ k ih =>
    intro i hi h
    have i6 : ¬ (6 : Int32) ≤ nI i := nI_ge (b := 6) (by omega) (by decide)
    have hx := am_nm_le (b := b) (L := k + 1) (by omega)
    have eb : nI (am_nm b (k + 1)) &&& 1 = nI (am_b1 (b k)) := by rw [am_and1 _ hx, am_nm_odd]
    rw [wX_moveToNextPath_2]
    cases hb : b k with
    | true =>
      rw [hb] at eb
      have e1 : nI (am_nm b (k + 1)) >>> ((1 : Int32) &&& 31) = nI (am_nm b k) := by rw [am_shr1 _ hx, am_nm_half]
      have el := am_la_t hb
      have eo : am_ov b (k + 1) = am_ov b k := by unfold am_ov; rw [el]
      have en : am_nb b (k + 1) = am_nb b k := by unfold am_nb; rw [el]
      rw [eo, en, el] at h
      exact br_f i6 (br_t eb (nm_r e1 (nm_r (nI_pred k) (nm_r (nI_1 i) (ih (i + 1) (by omega) h)))))
    | false =>
      rw [hb] at eb
      have el := am_la_f hb
      have ex : am_nm b (k + 1) = 2 * am_nm b k := by
        rw [am_nm_s, hb]
        rfl
      have e1 : nI (am_nm b (k + 1)) ||| 1 = nI (am_nm (am_sb b k) (k + 1)) := by rw [ex, am_or1 _ (by omega), am_nm_sb]
      have hh := h 1 (nI (am_nm (am_sb b k) (k + 1))) (nI (k + 1)) ⟨by rw [am_ov_f el]; rfl, fun _ => by rw [am_nb_q el, el]; exact ⟨rfl, rfl⟩⟩
      exact br_f i6 (br_f (by rw [eb]; decide) (br_f (nI_nle (by omega) (by omega)) ⟨rfl, rfl, nm_r e1 hh⟩))
theorem am_xadv {post : St2 → Prop} {b : Nat → Bool} {k : Nat} (hk : k ≤ 6) (h : ∀ f_pathLeft f_steering f_steeringLength : Int32, am_HX (am_ov b k) (am_nb b k) (am_la b k) f_pathLeft f_steering f_steeringLength → post (f_maxChoices, f_maxAlloc, f_held, f_stage, f_solutions, f_failures, f_lastKind, f_lastValue, f_lastChoices, f_lastChoiceCount, f_lastAllocCount, f_steering, f_steeringLength, f_pathLeft, f_failed, f_choicesMade, f_allocsMade, f_visiting, f_position, f_environment, f_resultIsClosure, f_resultValue, f_depth, a_kinds, a_args, a_ends, a_locationVariable, a_locationOuter, a_locationIsClosure, a_locationValue, a_closureToken, a_closureEnvironment, a_frameToken, a_frameEnvironment, a_frameHasFirst, a_frameFirstIsClosure, a_frameFirstValue)) : wpX_moveToNextPath post (f_maxChoices, f_maxAlloc, f_held, f_stage, f_solutions, f_failures, f_lastKind, f_lastValue, f_lastChoices, f_lastChoiceCount, f_lastAllocCount, nI (am_nm b k), nI k, f_pathLeft, f_failed, f_choicesMade, f_allocsMade, f_visiting, f_position, f_environment, f_resultIsClosure, f_resultValue, f_depth, a_kinds, a_args, a_ends, a_locationVariable, a_locationOuter, a_locationIsClosure, a_locationValue, a_closureToken, a_closureEnvironment, a_frameToken, a_frameEnvironment, a_frameHasFirst, a_frameFirstIsClosure, a_frameFirstValue) := ⟨k + 1, am_xadv0 k 0 (by omega) h⟩
end
theorem am_mx_u {L u : Nat} (h : L ≤ u) : am_mx L u = u := by unfold am_mx; omega
section
variable {f_maxChoices f_maxAlloc f_held f_stage f_solutions f_failures f_lastKind f_lastValue f_lastChoices f_lastChoiceCount f_lastAllocCount f_steering f_steeringLength f_pathLeft f_failed f_choicesMade f_allocsMade f_visiting f_position f_environment f_resultIsClosure f_resultValue f_depth : Int32} {a_kinds a_args a_ends a_locationVariable a_locationOuter a_locationIsClosure a_locationValue a_closureToken a_closureEnvironment a_frameToken a_frameEnvironment a_frameHasFirst a_frameFirstIsClosure a_frameFirstValue : Nat → Int32}
variable {mC mA n : Nat} {tk ta en : Nat → Int32} {ph sols fails lK lV lA : Int32} {lc : Nat} {lb b : Nat → Bool} {L i f : Nat}
/-- the component's round of its loop at a path that succeeds -/
theorem am_xpS {post : Int32 → St2 → Prop} (hC : mC ≤ 6) (hA : mA ≤ 16) (hn : n ≤ 32) (hK : ∀ i, i < n → am_kd (tk i)) (hV : am_V mC mA n tk ta b L) (hen : ∀ i, i < n → en i = nI (am_eN tk n i)) (hi : i < 64) (hr : (am_run n tk ta mC mA b).1 = true)
    (h : ∀ u', am_RX mC mA n tk ta ph (sols + 1) fails (am_run n tk ta mC mA b).2.1 (am_lv (am_run n tk ta mC mA b).2.2.2 (am_run n tk ta mC mA b).2.1 (am_run n tk ta mC mA b).2.2.1) (nI (am_al (am_run n tk ta mC mA b).2.2.2)) (am_us (am_run n tk ta mC mA b).2.2.2) b (am_ov b (am_us (am_run n tk ta mC mA b).2.2.2)) (am_nb b (am_us (am_run n tk ta mC mA b).2.2.2)) (am_la b (am_us (am_run n tk ta mC mA b).2.2.2)) u' → post 1 u') :
    wX_next_11 post (f + 1) (nI i) (nI mC) (nI mA) (nI n) ph sols fails lK lV (nI (am_nm lb lc)) (nI lc) lA (nI (am_nm b L)) (nI L) 1 f_failed f_choicesMade f_allocsMade f_visiting f_position f_environment f_resultIsClosure f_resultValue f_depth tk ta en a_locationVariable a_locationOuter a_locationIsClosure a_locationValue a_closureToken a_closureEnvironment a_frameToken a_frameEnvironment a_frameHasFirst a_frameFirstIsClosure a_frameFirstValue := by
  have hG := am_run_G (tk := tk) (ta := ta) (mC := mC) b hA hn
  have emx := am_mx_u hV.2.2
  have hu := hG.1.1
  rw [wX_next_11]
  refine br_f (nI_ge (b := 64) hi (by decide)) (br_f (by decide) (am_xrun hn hA hC (Nat.le_trans hV.1 hC) hV.2.1 hK hen (fun _ => ?_) (fun z => absurd (z.symm.trans hr) (by decide))))
  intro po ev dp jV jO jC jW kT kE fT fE fH fC fW hs
  rw [emx]
  exact br_t rfl (br_f (by decide) (am_xkeep hG.1 hA (hG.2.2 hr) hs (am_xadv (by omega) (fun p1 p2 p3 hh => br_f (by decide) (h _ ⟨_, _, _, _, _, _, _, _, _, _, _, _, _, _, _, _, _, _, _, _, _, _, _, _, rfl, fun _ => ⟨hen, hh⟩⟩)))))
/-- .. and at one that fails -/
theorem am_xpF {post : Int32 → St2 → Prop} (hC : mC ≤ 6) (hA : mA ≤ 16) (hn : n ≤ 32) (hK : ∀ i, i < n → am_kd (tk i)) (hV : am_V mC mA n tk ta b L) (hen : ∀ i, i < n → en i = nI (am_eN tk n i)) (hi : i < 64) (hr : (am_run n tk ta mC mA b).1 = false)
    (h : ∀ (f_steering f_steeringLength f_pathLeft f_failed f_choicesMade f_allocsMade f_visiting f_position f_environment f_resultIsClosure f_resultValue f_depth : Int32) (a_locationVariable a_locationOuter a_locationIsClosure a_locationValue a_closureToken a_closureEnvironment a_frameToken a_frameEnvironment a_frameHasFirst a_frameFirstIsClosure a_frameFirstValue : Nat → Int32), am_HX (am_ov b (am_us (am_run n tk ta mC mA b).2.2.2)) (am_nb b (am_us (am_run n tk ta mC mA b).2.2.2)) (am_la b (am_us (am_run n tk ta mC mA b).2.2.2)) f_pathLeft f_steering f_steeringLength → wX_next_11 post f (nI (i + 1)) (nI mC) (nI mA) (nI n) ph sols (fails + 1) lK lV (nI (am_nm lb lc)) (nI lc) lA f_steering f_steeringLength f_pathLeft f_failed f_choicesMade f_allocsMade f_visiting f_position f_environment f_resultIsClosure f_resultValue f_depth tk ta en a_locationVariable a_locationOuter a_locationIsClosure a_locationValue a_closureToken a_closureEnvironment a_frameToken a_frameEnvironment a_frameHasFirst a_frameFirstIsClosure a_frameFirstValue) :
    wX_next_11 post (f + 1) (nI i) (nI mC) (nI mA) (nI n) ph sols fails lK lV (nI (am_nm lb lc)) (nI lc) lA (nI (am_nm b L)) (nI L) 1 f_failed f_choicesMade f_allocsMade f_visiting f_position f_environment f_resultIsClosure f_resultValue f_depth tk ta en a_locationVariable a_locationOuter a_locationIsClosure a_locationValue a_closureToken a_closureEnvironment a_frameToken a_frameEnvironment a_frameHasFirst a_frameFirstIsClosure a_frameFirstValue := by
  have hG := am_run_G (tk := tk) (ta := ta) (mC := mC) b hA hn
  have emx := am_mx_u hV.2.2
  have hu := hG.1.1
  rw [wX_next_11]
  refine br_f (nI_ge (b := 64) hi (by decide)) (br_f (by decide) (am_xrun hn hA hC (Nat.le_trans hV.1 hC) hV.2.1 hK hen (fun z => absurd (z.symm.trans hr) (by decide)) (fun _ => ?_)))
  intro g1 g2 g3 g4 g5 g6 g7 jV jO jC jW kT kE fT fE fH fC fW
  rw [emx]
  exact br_f (by decide) (br_t rfl (nm_e (am_xadv (by omega) (fun p1 p2 p3 hh => br_t rfl (nm_r (nI_1 i) (h _ _ _ _ _ _ _ _ _ _ _ _ _ _ _ _ _ _ _ _ _ _ _ hh))))))
end
