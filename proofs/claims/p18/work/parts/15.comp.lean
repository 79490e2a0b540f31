/-! compile: the shape, the ends, the scopes -/
def am_sh (tk : Nat → Int32) : Nat → Nat → Nat → Nat
  | 0, 0, _ => 0
  | 0, _ + 1, _ => 3
  | _ + 1, 0, _ => 2
  | d + 1, q + 1, i => am_sh tk d (q + am_ar (tk i)) (i + 1)
theorem am_sh_v (tk : Nat → Int32) : ∀ d q i : Nat, am_sh tk d q i = 0 ∨ am_sh tk d q i = 2 ∨ am_sh tk d q i = 3 := by
  intro d
  induction d with
  | zero =>
    intro q i
    cases q with
    | zero => exact Or.inl rfl
    | succ q => exact Or.inr (Or.inr rfl)
  | succ d ih =>
    intro q i
    cases q with
    | zero => exact Or.inr (Or.inl rfl)
    | succ q => exact ih (q + am_ar (tk i)) (i + 1)
/-- is one of f p, f (p + 1), .. (d of them) true -/
def am_an (f : Nat → Bool) : Nat → Nat → Bool
  | 0, _ => false
  | d + 1, p => match f p with
    | true => true
    | false => am_an f d (p + 1)
theorem am_an_t {f : Nat → Bool} {d p : Nat} (h : f p = true) : am_an f (d + 1) p = true := by
  show (match f p with
    | true => true
    | false => am_an f d (p + 1)) = true
  rw [h]
theorem am_an_f {f : Nat → Bool} {d p : Nat} (h : f p = false) : am_an f (d + 1) p = am_an f d (p + 1) := by
  show (match f p with
    | true => true
    | false => am_an f d (p + 1)) = am_an f d (p + 1)
  rw [h]
/-- does the token at p bind v at i -/
def am_bq (tk ta : Nat → Int32) (n i : Nat) (v : Int32) (p : Nat) : Bool := if tk p = 11 ∧ ta p = v then decide (am_eN tk n (p + 1) ≤ i ∧ i < am_eN tk n p) else if tk p = 12 ∧ ta p = v then decide (i < am_eN tk n p) else false
theorem am_bq_11 {tk ta : Nat → Int32} {n i p : Nat} {v : Int32} (h1 : tk p = 11) (h2 : ta p = v) : am_bq tk ta n i v p = decide (am_eN tk n (p + 1) ≤ i ∧ i < am_eN tk n p) := if_pos ⟨h1, h2⟩
theorem am_bq_12 {tk ta : Nat → Int32} {n i p : Nat} {v : Int32} (h1 : tk p = 12) (h2 : ta p = v) : am_bq tk ta n i v p = decide (i < am_eN tk n p) := by
  unfold am_bq
  rw [if_neg (fun z => absurd (h1.symm.trans z.1) (by decide)), if_pos ⟨h1, h2⟩]
theorem am_bq_v {tk ta : Nat → Int32} {n i p : Nat} {v : Int32} (h2 : ¬ ta p = v) : am_bq tk ta n i v p = false := by
  unfold am_bq
  rw [if_neg (fun z => h2 z.2), if_neg (fun z => h2 z.2)]
theorem am_bq_k {tk ta : Nat → Int32} {n i p : Nat} {v : Int32} (h1 : ¬ tk p = 11) (h2 : ¬ tk p = 12) : am_bq tk ta n i v p = false := by
  unfold am_bq
  rw [if_neg (fun z => h1 z.1), if_neg (fun z => h2 z.1)]
def am_ab (tk ta : Nat → Int32) (n : Nat) : Nat → Nat → Bool
  | 0, _ => true
  | d + 1, i => if (tk i = 1 ∨ tk i = 14) ∧ am_an (am_bq tk ta n i (ta i)) i 0 = false then false else am_ab tk ta n d (i + 1)
theorem am_ab_s (tk ta : Nat → Int32) (n d i : Nat) : am_ab tk ta n (d + 1) i = if (tk i = 1 ∨ tk i = 14) ∧ am_an (am_bq tk ta n i (ta i)) i 0 = false then false else am_ab tk ta n d (i + 1) := rfl
theorem am_xar {post : Int32 → Prop} {k k' : Int32} (ek : k' = k) (hk : am_kd k) (h : post (nI (am_ar k))) : wpX_arity post () k' := by
  subst ek
  rcases hk with q | q | q | q | q | q | q | q | q | q | q | q | q | q | q | q
  · subst q
    rw [show am_ar 0 = 0 by decide] at h
    exact br_f (by decide) (br_f (by decide) (br_t rfl h))
  · subst q
    rw [show am_ar 1 = 0 by decide] at h
    exact br_f (by decide) (br_f (by decide) (br_f (by decide) (br_t rfl h)))
  · subst q
    rw [show am_ar 2 = 2 by decide] at h
    exact br_f (by decide) (br_f (by decide) (br_f (by decide) (br_f (by decide) (br_t rfl h))))
  · subst q
    rw [show am_ar 3 = 2 by decide] at h
    exact br_f (by decide) (br_f (by decide) (br_f (by decide) (br_f (by decide) (br_f (by decide) (br_t rfl h)))))
  · subst q
    rw [show am_ar 4 = 2 by decide] at h
    exact br_f (by decide) (br_f (by decide) (br_f (by decide) (br_f (by decide) (br_f (by decide) (br_f (by decide) (br_t rfl h))))))
  · subst q
    rw [show am_ar 5 = 2 by decide] at h
    exact br_f (by decide) (br_f (by decide) (br_f (by decide) (br_f (by decide) (br_f (by decide) (br_f (by decide) (br_f (by decide) (br_t rfl h)))))))
  · subst q
    rw [show am_ar 6 = 2 by decide] at h
    exact br_f (by decide) (br_f (by decide) (br_f (by decide) (br_f (by decide) (br_f (by decide) (br_f (by decide) (br_f (by decide) (br_f (by decide) (br_t rfl h))))))))
  · subst q
    rw [show am_ar 7 = 3 by decide] at h
    exact br_f (by decide) (br_f (by decide) (br_f (by decide) (br_f (by decide) (br_f (by decide) (br_f (by decide) (br_f (by decide) (br_f (by decide) (br_f (by decide) (br_t rfl h)))))))))
  · subst q
    rw [show am_ar 8 = 2 by decide] at h
    exact br_f (by decide) (br_f (by decide) (br_f (by decide) (br_f (by decide) (br_f (by decide) (br_f (by decide) (br_f (by decide) (br_f (by decide) (br_f (by decide) (br_f (by decide) (br_t rfl h))))))))))
  · subst q
    rw [show am_ar 9 = 0 by decide] at h
    exact br_f (by decide) (br_f (by decide) (br_f (by decide) (br_f (by decide) (br_f (by decide) (br_f (by decide) (br_f (by decide) (br_f (by decide) (br_f (by decide) (br_f (by decide) (br_f (by decide) (br_t rfl h)))))))))))
  · subst q
    rw [show am_ar 10 = 2 by decide] at h
    exact br_f (by decide) (br_f (by decide) (br_f (by decide) (br_f (by decide) (br_f (by decide) (br_f (by decide) (br_f (by decide) (br_f (by decide) (br_f (by decide) (br_f (by decide) (br_f (by decide) (br_f (by decide) (br_t rfl h))))))))))))
  · subst q
    rw [show am_ar 11 = 2 by decide] at h
    exact br_f (by decide) (br_f (by decide) (br_f (by decide) (br_f (by decide) (br_f (by decide) (br_f (by decide) (br_f (by decide) (br_f (by decide) (br_f (by decide) (br_f (by decide) (br_f (by decide) (br_f (by decide) (br_f (by decide) (br_t rfl h)))))))))))))
  · subst q
    rw [show am_ar 12 = 1 by decide] at h
    exact br_f (by decide) (br_f (by decide) (br_f (by decide) (br_f (by decide) (br_f (by decide) (br_f (by decide) (br_f (by decide) (br_f (by decide) (br_f (by decide) (br_f (by decide) (br_f (by decide) (br_f (by decide) (br_f (by decide) (br_f (by decide) (br_t rfl h))))))))))))))
  · subst q
    rw [show am_ar 13 = 2 by decide] at h
    exact br_f (by decide) (br_f (by decide) (br_f (by decide) (br_f (by decide) (br_f (by decide) (br_f (by decide) (br_f (by decide) (br_f (by decide) (br_f (by decide) (br_f (by decide) (br_f (by decide) (br_f (by decide) (br_f (by decide) (br_f (by decide) (br_f (by decide) (br_t rfl h)))))))))))))))
  · subst q
    rw [show am_ar 14 = 1 by decide] at h
    exact br_f (by decide) (br_f (by decide) (br_f (by decide) (br_f (by decide) (br_f (by decide) (br_f (by decide) (br_f (by decide) (br_f (by decide) (br_f (by decide) (br_f (by decide) (br_f (by decide) (br_f (by decide) (br_f (by decide) (br_f (by decide) (br_f (by decide) (br_f (by decide) (br_t rfl h))))))))))))))))
  · subst q
    rw [show am_ar 15 = 2 by decide] at h
    exact br_f (by decide) (br_t (by decide) h)
section
variable {f_maxChoices f_maxAlloc f_held f_stage f_solutions f_failures f_lastKind f_lastValue f_lastChoices f_lastChoiceCount f_lastAllocCount f_steering f_steeringLength f_pathLeft f_failed f_choicesMade f_allocsMade f_visiting f_position f_environment f_resultIsClosure f_resultValue f_depth : Int32} {a_kinds a_args a_ends a_locationVariable a_locationOuter a_locationIsClosure a_locationValue a_closureToken a_closureEnvironment a_frameToken a_frameEnvironment a_frameHasFirst a_frameFirstIsClosure a_frameFirstValue : Nat → Int32}
variable {n : Nat} {tk ta en : Nat → Int32}
theorem am_xsh {post : Int32 → Prop} (hn : n ≤ 32) (hK : ∀ i, i < n → am_kd (tk i)) : ∀ d q i : Nat, i + d = n → q + 3 * d < 1000 → post (nI (am_sh tk d q i)) → wX_checkShape_13 post f_maxChoices f_maxAlloc (nI n) f_stage f_solutions f_failures f_lastKind f_lastValue f_lastChoices f_lastChoiceCount f_lastAllocCount f_steering f_steeringLength f_pathLeft f_failed f_choicesMade f_allocsMade f_visiting f_position f_environment f_resultIsClosure f_resultValue f_depth tk a_args a_ends a_locationVariable a_locationOuter a_locationIsClosure a_locationValue a_closureToken a_closureEnvironment a_frameToken a_frameEnvironment a_frameHasFirst a_frameFirstIsClosure a_frameFirstValue (d + 1) (nI q) (nI i) := by
  intro d
  induction d with
  | zero =>
    intro q i hi hq h
    rw [wX_checkShape_13]
    refine br_t (nI_le (by omega) (by omega)) ?_
    cases q with
    | zero => exact br_t (Int32.le_refl _) h
    | succ q => exact br_f (nI_nle (by omega) (by omega)) h
  | succ d ih =>
    intro q i hi hq h
    rw [wX_checkShape_13]
    refine br_f (nI_ge (by omega) (by omega)) ?_
    cases q with
    | zero => exact br_t rfl h
    | succ q =>
      have ha := am_ar_le (tk i)
      have hc : (nI i).toNatClampNeg = i := nI_clamp (by omega)
      have e1 : nI (q + 1) - 1 + nI (am_ar (tk i)) = nI (q + am_ar (tk i)) := by rw [nI_pred, nI_add]
      exact br_f (nI_ne0 (by omega) (by omega)) ⟨vp_in_nI (by omega) (by decide), am_xar (by rw [hc]) (hK i (by omega)) (nm_r e1 (nm_r (nI_1 i) (ih (q + am_ar (tk i)) (i + 1) (by omega) (by omega) h)))⟩
theorem am_xend1 {post : Int32 → Prop} {p : Nat} {x : Int32} (hn : n ≤ 32) (hp : p ≤ n) (hen : p < n → en p = nI (am_eN tk n p)) (ex : x = nI p) (h : post (nI (am_eN tk n p))) : wpX_endOf post (f_maxChoices, f_maxAlloc, nI n, f_stage, f_solutions, f_failures, f_lastKind, f_lastValue, f_lastChoices, f_lastChoiceCount, f_lastAllocCount, f_steering, f_steeringLength, f_pathLeft, f_failed, f_choicesMade, f_allocsMade, f_visiting, f_position, f_environment, f_resultIsClosure, f_resultValue, f_depth, a_kinds, a_args, en, a_locationVariable, a_locationOuter, a_locationIsClosure, a_locationValue, a_closureToken, a_closureEnvironment, a_frameToken, a_frameEnvironment, a_frameHasFirst, a_frameFirstIsClosure, a_frameFirstValue) x := by
  rw [ex]
  have hc : (nI p).toNatClampNeg = p := nI_clamp (by omega)
  by_cases q : p < n
  · exact br_f (nI_pos (by omega)) (br_f (nI_ge q (by omega)) ⟨vp_in_nI (by omega) (by decide), by rw [hc, hen q]; exact h⟩)
  · have e : p = n := by omega
    rw [e, am_eN_n] at h
    exact br_f (nI_pos (by omega)) (br_t (nI_le (by omega) (by omega)) h)
theorem am_xfe28 {post : St2 → Prop} {J : Int32 → (Nat → Int32) → (Nat → Int32) → (Nat → Int32) → (Nat → Int32) → (Nat → Int32) → (Nat → Int32) → (Nat → Int32) → (Nat → Int32) → (Nat → Int32) → (Nat → Int32) → (Nat → Int32) → (Nat → Int32) → (Nat → Int32) → (Nat → Int32) → Prop} {i A : Nat} (hn : n ≤ 32) (hi : i < n) (hA : A ≤ 3) (hen : ∀ j, i < j → j < n → en j = nI (am_eN tk n j)) : ∀ d q e : Nat, q + d = A → i < e → e ≤ n → J (am_pI i) a_kinds a_args (upd en i (nI (am_it tk n d e))) a_locationVariable a_locationOuter a_locationIsClosure a_locationValue a_closureToken a_closureEnvironment a_frameToken a_frameEnvironment a_frameHasFirst a_frameFirstIsClosure a_frameFirstValue → wX_findEnds_28 post J (nI i) (nI A) f_maxChoices f_maxAlloc (nI n) f_stage f_solutions f_failures f_lastKind f_lastValue f_lastChoices f_lastChoiceCount f_lastAllocCount f_steering f_steeringLength f_pathLeft f_failed f_choicesMade f_allocsMade f_visiting f_position f_environment f_resultIsClosure f_resultValue f_depth a_kinds a_args en a_locationVariable a_locationOuter a_locationIsClosure a_locationValue a_closureToken a_closureEnvironment a_frameToken a_frameEnvironment a_frameHasFirst a_frameFirstIsClosure a_frameFirstValue (d + 1) (nI e) (nI q) := by
  intro d
  induction d with
  | zero =>
    intro q e hq he hen2 h
    have hc : (nI i).toNatClampNeg = i := nI_clamp (by omega)
    rw [wX_findEnds_28]
    exact br_t (nI_le (by omega) (by omega)) ⟨vp_in_nI (by omega) (by decide), nm_r (by rw [hc]; rfl) (nm_r (am_pI_m i) h)⟩
  | succ d ih =>
    intro q e hq he hen2 h
    rw [wX_findEnds_28]
    exact br_f (nI_ge (by omega) (by omega)) (am_xend1 hn hen2 (fun z => hen e he z) rfl (nm_r (nI_1 q) (ih (q + 1) (am_eN tk n e) (by omega) (Nat.lt_of_lt_of_le he (am_eN_ge tk n e)) (am_eN_le hen2) h)))
theorem am_xfe {post : St2 → Prop} (hn : n ≤ 32) (hK : ∀ i, i < n → am_kd (tk i)) : ∀ (i : Nat) (en : Nat → Int32), i ≤ n → (∀ j, i ≤ j → j < n → en j = nI (am_eN tk n j)) → (∀ en' : Nat → Int32, (∀ j, j < n → en' j = nI (am_eN tk n j)) → post (f_maxChoices, f_maxAlloc, nI n, f_stage, f_solutions, f_failures, f_lastKind, f_lastValue, f_lastChoices, f_lastChoiceCount, f_lastAllocCount, f_steering, f_steeringLength, f_pathLeft, f_failed, f_choicesMade, f_allocsMade, f_visiting, f_position, f_environment, f_resultIsClosure, f_resultValue, f_depth, tk, a_args, en', a_locationVariable, a_locationOuter, a_locationIsClosure, a_locationValue, a_closureToken, a_closureEnvironment, a_frameToken, a_frameEnvironment, a_frameHasFirst, a_frameFirstIsClosure, a_frameFirstValue)) → wX_findEnds_7 post f_maxChoices f_maxAlloc (nI n) f_stage f_solutions f_failures f_lastKind f_lastValue f_lastChoices f_lastChoiceCount f_lastAllocCount f_steering f_steeringLength f_pathLeft f_failed f_choicesMade f_allocsMade f_visiting f_position f_environment f_resultIsClosure f_resultValue f_depth (i + 1) (am_pI i) tk a_args en a_locationVariable a_locationOuter a_locationIsClosure a_locationValue a_closureToken a_closureEnvironment a_frameToken a_frameEnvironment a_frameHasFirst a_frameFirstIsClosure a_frameFirstValue := by
  intro i
  induction i with
  | zero =>
    intro en _ hen h
    rw [wX_findEnds_7]
    exact br_t (by decide) (h en (fun j hj => hen j (Nat.zero_le j) hj))
  | succ i ih =>
    intro en hi hen h
    have hc : (nI i).toNatClampNeg = i := nI_clamp (by omega)
    show wX_findEnds_7 post f_maxChoices f_maxAlloc (nI n) f_stage f_solutions f_failures f_lastKind f_lastValue f_lastChoices f_lastChoiceCount f_lastAllocCount f_steering f_steeringLength f_pathLeft f_failed f_choicesMade f_allocsMade f_visiting f_position f_environment f_resultIsClosure f_resultValue f_depth (i + 1 + 1) (nI i) tk a_args en a_locationVariable a_locationOuter a_locationIsClosure a_locationValue a_closureToken a_closureEnvironment a_frameToken a_frameEnvironment a_frameHasFirst a_frameFirstIsClosure a_frameFirstValue
    rw [wX_findEnds_7]
    refine br_f (nI_pos (by omega)) (nm_r (nI_1 i) ⟨vp_in_nI (by omega) (by decide), am_xar (by rw [hc]) (hK i hi) ⟨am_ar (tk i) + 1, ?_⟩⟩)
    refine am_xfe28 hn hi (am_ar_le (tk i)) (fun j h1 h2 => hen j h1 h2) (am_ar (tk i)) 0 (i + 1) (by omega) (Nat.lt_succ_self i) hi ?_
    refine ih (upd en i (nI (am_it tk n (am_ar (tk i)) (i + 1)))) (by omega) (fun j h1 h2 => ?_) h
    by_cases q : j = i
    · rw [q, am_up_s, am_eN_s hi]
    · rw [am_up_n q]
      exact hen j (by omega) h2
theorem am_xib1 {post : Int32 → Prop} {J : Int32 → Prop} {i p : Nat} {v : Int32} (hn : n ≤ 32) (hi : i < n) (hp : p < i) (hen : ∀ j, j < n → en j = nI (am_eN tk n j)) (hT : am_bq tk ta n i v p = true → post 1) (hF : am_bq tk ta n i v p = false → J (nI (p + 1))) :
    vp_in (nI p) 32 ∧ ((tk (nI p).toNatClampNeg = 11 → wX_isBound_29 post J (nI i) v (nI p) f_maxChoices f_maxAlloc (nI n) f_stage f_solutions f_failures f_lastKind f_lastValue f_lastChoices f_lastChoiceCount f_lastAllocCount f_steering f_steeringLength f_pathLeft f_failed f_choicesMade f_allocsMade f_visiting f_position f_environment f_resultIsClosure f_resultValue f_depth tk ta en a_locationVariable a_locationOuter a_locationIsClosure a_locationValue a_closureToken a_closureEnvironment a_frameToken a_frameEnvironment a_frameHasFirst a_frameFirstIsClosure a_frameFirstValue) ∧ (¬ tk (nI p).toNatClampNeg = 11 → vp_in (nI p) 32 ∧ ((tk (nI p).toNatClampNeg = 12 → wX_isBound_29 post J (nI i) v (nI p) f_maxChoices f_maxAlloc (nI n) f_stage f_solutions f_failures f_lastKind f_lastValue f_lastChoices f_lastChoiceCount f_lastAllocCount f_steering f_steeringLength f_pathLeft f_failed f_choicesMade f_allocsMade f_visiting f_position f_environment f_resultIsClosure f_resultValue f_depth tk ta en a_locationVariable a_locationOuter a_locationIsClosure a_locationValue a_closureToken a_closureEnvironment a_frameToken a_frameEnvironment a_frameHasFirst a_frameFirstIsClosure a_frameFirstValue) ∧ (¬ tk (nI p).toNatClampNeg = 12 → wX_isBound_34 post J (nI i) v (nI p) 0 f_maxChoices f_maxAlloc (nI n) f_stage f_solutions f_failures f_lastKind f_lastValue f_lastChoices f_lastChoiceCount f_lastAllocCount f_steering f_steeringLength f_pathLeft f_failed f_choicesMade f_allocsMade f_visiting f_position f_environment f_resultIsClosure f_resultValue f_depth tk ta en a_locationVariable a_locationOuter a_locationIsClosure a_locationValue a_closureToken a_closureEnvironment a_frameToken a_frameEnvironment a_frameHasFirst a_frameFirstIsClosure a_frameFirstValue)))) := by
  have hc : (nI p).toNatClampNeg = p := nI_clamp (by omega)
  have vv : vp_in (nI p) 32 := vp_in_nI (by omega) (by decide)
  have ee : en (nI p).toNatClampNeg = nI (am_eN tk n p) := by rw [hc]; exact hen p (by omega)
  have b1 : am_eN tk n (p + 1) ≤ n := am_eN_le (by omega)
  have b2 : am_eN tk n p ≤ n := am_eN_le (by omega)
  have v34 : ¬ ta p = v → wX_isBound_34 post J (nI i) v (nI p) 1 f_maxChoices f_maxAlloc (nI n) f_stage f_solutions f_failures f_lastKind f_lastValue f_lastChoices f_lastChoiceCount f_lastAllocCount f_steering f_steeringLength f_pathLeft f_failed f_choicesMade f_allocsMade f_visiting f_position f_environment f_resultIsClosure f_resultValue f_depth tk ta en a_locationVariable a_locationOuter a_locationIsClosure a_locationValue a_closureToken a_closureEnvironment a_frameToken a_frameEnvironment a_frameHasFirst a_frameFirstIsClosure a_frameFirstValue := fun z => br_f (by decide) ⟨vv, br_f (by rw [hc]; exact z) (nm_r (nI_1 p) (hF (am_bq_v z)))⟩
  refine ⟨vv, br_c (fun k => ?_) (fun k => ⟨vv, br_c (fun k2 => ?_) (fun k2 => ?_)⟩)⟩
  · rw [hc] at k
    by_cases a : ta p = v
    · have ea := am_bq_11 (n := n) (i := i) k a
      refine br_f (by decide) ⟨vv, br_t (by rw [hc]; exact a) ⟨vv, br_f (by rw [hc, k]; decide) (am_xend1 hn (by omega) (fun z => hen _ z) (nI_1 p) ?_)⟩⟩
      by_cases c1 : am_eN tk n (p + 1) ≤ i
      · by_cases c2 : i < am_eN tk n p
        · exact br_f (nI_nlt c1 (by omega)) ⟨vv, br_f (by rw [ee]; exact nI_ge c2 (by omega)) (hT (by rw [ea]; exact decide_eq_true ⟨c1, c2⟩))⟩
        · exact br_f (nI_nlt c1 (by omega)) ⟨vv, br_t (by rw [ee]; exact nI_le (by omega) (by omega)) (nm_r (nI_1 p) (hF (by rw [ea]; exact decide_eq_false (fun z => c2 z.2))))⟩
      · exact br_t (nI_lt (by omega) (by omega)) (nm_r (nI_1 p) (hF (by rw [ea]; exact decide_eq_false (fun z => c1 z.1))))
    · exact v34 a
  · rw [hc] at k k2
    by_cases a : ta p = v
    · have ea := am_bq_12 (n := n) (i := i) k2 a
      refine br_f (by decide) ⟨vv, br_t (by rw [hc]; exact a) ⟨vv, br_t (by rw [hc]; exact k2) ?_⟩⟩
      by_cases c2 : i < am_eN tk n p
      · exact br_f (by rw [nI_1]; exact nI_nlt (by omega) (by omega)) ⟨vv, br_f (by rw [ee]; exact nI_ge c2 (by omega)) (hT (by rw [ea]; exact decide_eq_true c2))⟩
      · exact br_f (by rw [nI_1]; exact nI_nlt (by omega) (by omega)) ⟨vv, br_t (by rw [ee]; exact nI_le (by omega) (by omega)) (nm_r (nI_1 p) (hF (by rw [ea]; exact decide_eq_false c2)))⟩
    · exact v34 a
  · rw [hc] at k k2
    exact br_t rfl (nm_r (nI_1 p) (hF (am_bq_k k k2)))
theorem am_xib {post : Int32 → Prop} {i : Nat} {v : Int32} (hn : n ≤ 32) (hi : i < n) (hen : ∀ j, j < n → en j = nI (am_eN tk n j)) : ∀ d p : Nat, p + d = i → post (am_bI (am_an (am_bq tk ta n i v) d p)) → wX_isBound_2 post (nI i) v f_maxChoices f_maxAlloc (nI n) f_stage f_solutions f_failures f_lastKind f_lastValue f_lastChoices f_lastChoiceCount f_lastAllocCount f_steering f_steeringLength f_pathLeft f_failed f_choicesMade f_allocsMade f_visiting f_position f_environment f_resultIsClosure f_resultValue f_depth tk ta en a_locationVariable a_locationOuter a_locationIsClosure a_locationValue a_closureToken a_closureEnvironment a_frameToken a_frameEnvironment a_frameHasFirst a_frameFirstIsClosure a_frameFirstValue (d + 1) (nI p) := by
  intro d
  induction d with
  | zero =>
    intro p hp h
    rw [wX_isBound_2]
    exact br_t (nI_le (by omega) (by omega)) h
  | succ d ih =>
    intro p hp h
    rw [wX_isBound_2]
    refine br_f (nI_ge (by omega) (by omega)) (am_xib1 hn hi (by omega) hen (fun z => ?_) (fun z => ?_))
    · rw [am_an_t z] at h
      exact h
    · rw [am_an_f z] at h
      exact ih (p + 1) (by omega) h
theorem am_xab {post : Int32 → Prop} (hn : n ≤ 32) (hen : ∀ j, j < n → en j = nI (am_eN tk n j)) : ∀ d i : Nat, i + d = n → post (am_bI (am_ab tk ta n d i)) → wX_allBound_2 post f_maxChoices f_maxAlloc (nI n) f_stage f_solutions f_failures f_lastKind f_lastValue f_lastChoices f_lastChoiceCount f_lastAllocCount f_steering f_steeringLength f_pathLeft f_failed f_choicesMade f_allocsMade f_visiting f_position f_environment f_resultIsClosure f_resultValue f_depth tk ta en a_locationVariable a_locationOuter a_locationIsClosure a_locationValue a_closureToken a_closureEnvironment a_frameToken a_frameEnvironment a_frameHasFirst a_frameFirstIsClosure a_frameFirstValue (d + 1) (nI i) := by
  intro d
  induction d with
  | zero =>
    intro i hi h
    rw [wX_allBound_2]
    exact br_t (nI_le (by omega) (by omega)) h
  | succ d ih =>
    intro i hi h
    have hc : (nI i).toNatClampNeg = i := nI_clamp (by omega)
    have vv : vp_in (nI i) 32 := vp_in_nI (by omega) (by decide)
    rw [am_ab_s] at h
    have h31 : (tk i = 1 ∨ tk i = 14) → wX_allBound_31 post (wX_allBound_2 post f_maxChoices f_maxAlloc (nI n) f_stage f_solutions f_failures f_lastKind f_lastValue f_lastChoices f_lastChoiceCount f_lastAllocCount f_steering f_steeringLength f_pathLeft f_failed f_choicesMade f_allocsMade f_visiting f_position f_environment f_resultIsClosure f_resultValue f_depth tk ta en a_locationVariable a_locationOuter a_locationIsClosure a_locationValue a_closureToken a_closureEnvironment a_frameToken a_frameEnvironment a_frameHasFirst a_frameFirstIsClosure a_frameFirstValue (d + 1)) (nI i) f_maxChoices f_maxAlloc (nI n) f_stage f_solutions f_failures f_lastKind f_lastValue f_lastChoices f_lastChoiceCount f_lastAllocCount f_steering f_steeringLength f_pathLeft f_failed f_choicesMade f_allocsMade f_visiting f_position f_environment f_resultIsClosure f_resultValue f_depth tk ta en a_locationVariable a_locationOuter a_locationIsClosure a_locationValue a_closureToken a_closureEnvironment a_frameToken a_frameEnvironment a_frameHasFirst a_frameFirstIsClosure a_frameFirstValue := by
      intro z
      refine ⟨vv, ⟨i + 1, ?_⟩⟩
      rw [hc]
      refine am_xib hn (by omega) hen i 0 (Nat.zero_add i) ?_
      cases ha : am_an (am_bq tk ta n i (ta i)) i 0 with
      | true =>
        rw [if_neg (fun y => absurd (ha.symm.trans y.2) (by decide))] at h
        exact br_f (by decide) (nm_r (nI_1 i) (ih (i + 1) (by omega) h))
      | false =>
        rw [if_pos ⟨z, ha⟩] at h
        exact br_t rfl h
    rw [wX_allBound_2]
    refine br_f (nI_ge (by omega) (by omega)) ⟨vv, br_c (fun k => ?_) (fun k => ⟨vv, br_c (fun k2 => ?_) (fun k2 => ?_)⟩)⟩
    · rw [hc] at k
      exact h31 (Or.inl k)
    · rw [hc] at k2
      exact h31 (Or.inr k2)
    · rw [hc] at k k2
      rw [if_neg (fun y => y.1.elim k k2)] at h
      exact nm_r (nI_1 i) (ih (i + 1) (by omega) h)
end
