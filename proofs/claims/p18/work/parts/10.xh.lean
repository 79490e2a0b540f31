/-! the component's small methods -/
theorem am_nar0 : vp_nar .boolean 0 = 0 := by rfl
theorem am_nar1 : vp_nar .boolean 1 = 1 := by rfl
theorem am_nark (k : Int32) : vp_nar .boolean (am_xk k) = am_xk k := by
  by_cases q : k = 2
  · rw [q, am_xk_2]; rfl
  · have e : am_xk k = 0 := if_neg q
    rw [e]; rfl
theorem am_boolk (k : Int32) : narrow .boolean (.int (am_xk k)) = .int (am_xk k) ∧ fits .boolean (.int (am_xk k)) = true := by
  by_cases q : k = 2
  · rw [q, am_xk_2]; exact ⟨rfl, rfl⟩
  · have e : am_xk k = 0 := if_neg q
    rw [e]; exact ⟨rfl, rfl⟩
theorem am_shr : ∀ x, x < 64 → ∀ k, k < 6 → nI x >>> (nI k &&& 31) = nI (x / 2 ^ k) := by decide +kernel
theorem am_shr1 : ∀ x, x < 64 → nI x >>> ((1 : Int32) &&& 31) = nI (x / 2) := by decide +kernel
theorem am_shl1 : ∀ x, x < 64 → nI x <<< ((1 : Int32) &&& 31) = nI (2 * x) := by decide +kernel
theorem am_and1 : ∀ x, x < 64 → nI x &&& 1 = nI (x % 2) := by decide +kernel
theorem am_or1 : ∀ x, x < 32 → nI (2 * x) ||| 1 = nI (2 * x + 1) := by decide +kernel
theorem am_bit {b : Nat → Bool} {L u : Nat} (hu : u < L) (hL : L ≤ 6) : (nI (am_nm b L) >>> ((nI L - nI (u + 1)) &&& 31)) &&& 1 = nI (am_b1 (b u)) := by
  have hx := am_nm_le (b := b) hL
  have e1 : am_nm b L / 2 ^ (L - (u + 1)) = am_nm b (u + 1) := by
    have h := am_nm_sh b (u + 1) (L - (u + 1))
    have e : u + 1 + (L - (u + 1)) = L := by omega
    rw [e] at h
    exact h
  have hy := am_nm_le (b := b) (L := u + 1) (by omega)
  rw [am_sub (by omega), am_shr _ hx _ (by omega), e1, am_and1 _ hy, am_nm_odd]
section
variable {f_maxChoices f_maxAlloc f_held f_stage f_solutions f_failures f_lastKind f_lastValue f_lastChoices f_lastChoiceCount f_lastAllocCount f_steering f_steeringLength f_pathLeft f_failed f_choicesMade f_allocsMade f_visiting f_position f_environment f_resultIsClosure f_resultValue f_depth : Int32} {a_kinds a_args a_ends a_locationVariable a_locationOuter a_locationIsClosure a_locationValue a_closureToken a_closureEnvironment a_frameToken a_frameEnvironment a_frameHasFirst a_frameFirstIsClosure a_frameFirstValue : Nat → Int32}
theorem am_xvn {post : St2 → Prop} {x x' : Int32} (ex : x = x') (h : post (f_maxChoices, f_maxAlloc, f_held, f_stage, f_solutions, f_failures, f_lastKind, f_lastValue, f_lastChoices, f_lastChoiceCount, f_lastAllocCount, f_steering, f_steeringLength, f_pathLeft, f_failed, f_choicesMade, f_allocsMade, 1, x', f_environment, f_resultIsClosure, f_resultValue, f_depth, a_kinds, a_args, a_ends, a_locationVariable, a_locationOuter, a_locationIsClosure, a_locationValue, a_closureToken, a_closureEnvironment, a_frameToken, a_frameEnvironment, a_frameHasFirst, a_frameFirstIsClosure, a_frameFirstValue)) : wpX_visitNext post (f_maxChoices, f_maxAlloc, f_held, f_stage, f_solutions, f_failures, f_lastKind, f_lastValue, f_lastChoices, f_lastChoiceCount, f_lastAllocCount, f_steering, f_steeringLength, f_pathLeft, f_failed, f_choicesMade, f_allocsMade, f_visiting, f_position, f_environment, f_resultIsClosure, f_resultValue, f_depth, a_kinds, a_args, a_ends, a_locationVariable, a_locationOuter, a_locationIsClosure, a_locationValue, a_closureToken, a_closureEnvironment, a_frameToken, a_frameEnvironment, a_frameHasFirst, a_frameFirstIsClosure, a_frameFirstValue) x := by
  rw [ex]
  exact h
theorem am_xholdsT {post : Int32 → Prop} {n p : Nat} (hn : n ≤ 32) (hp : p < n) (h : post 1) : wpX_holds post (f_maxChoices, f_maxAlloc, nI n, f_stage, f_solutions, f_failures, f_lastKind, f_lastValue, f_lastChoices, f_lastChoiceCount, f_lastAllocCount, f_steering, f_steeringLength, f_pathLeft, f_failed, f_choicesMade, f_allocsMade, f_visiting, f_position, f_environment, f_resultIsClosure, f_resultValue, f_depth, a_kinds, a_args, a_ends, a_locationVariable, a_locationOuter, a_locationIsClosure, a_locationValue, a_closureToken, a_closureEnvironment, a_frameToken, a_frameEnvironment, a_frameHasFirst, a_frameFirstIsClosure, a_frameFirstValue) (nI p) := br_f (nI_pos (by omega)) (br_f (nI_ge hp (by omega)) h)
theorem am_xholdsF {post : Int32 → Prop} {n p : Nat} (hp : n ≤ p) (hb : p ≤ 32) (h : post 0) : wpX_holds post (f_maxChoices, f_maxAlloc, nI n, f_stage, f_solutions, f_failures, f_lastKind, f_lastValue, f_lastChoices, f_lastChoiceCount, f_lastAllocCount, f_steering, f_steeringLength, f_pathLeft, f_failed, f_choicesMade, f_allocsMade, f_visiting, f_position, f_environment, f_resultIsClosure, f_resultValue, f_depth, a_kinds, a_args, a_ends, a_locationVariable, a_locationOuter, a_locationIsClosure, a_locationValue, a_closureToken, a_closureEnvironment, a_frameToken, a_frameEnvironment, a_frameHasFirst, a_frameFirstIsClosure, a_frameFirstValue) (nI p) := br_f (nI_pos (by omega)) (br_t (nI_le hp (by omega)) h)
theorem am_xtk {post : Int32 → Prop} {n p : Nat} {tk : Nat → Int32} (hn : n ≤ 32) (hp : p < n) (h : post (tk p)) : wpX_tokenKind post (f_maxChoices, f_maxAlloc, nI n, f_stage, f_solutions, f_failures, f_lastKind, f_lastValue, f_lastChoices, f_lastChoiceCount, f_lastAllocCount, f_steering, f_steeringLength, f_pathLeft, f_failed, f_choicesMade, f_allocsMade, f_visiting, f_position, f_environment, f_resultIsClosure, f_resultValue, f_depth, tk, a_args, a_ends, a_locationVariable, a_locationOuter, a_locationIsClosure, a_locationValue, a_closureToken, a_closureEnvironment, a_frameToken, a_frameEnvironment, a_frameHasFirst, a_frameFirstIsClosure, a_frameFirstValue) (nI p) := by
  have hc : (nI p).toNatClampNeg = p := nI_clamp (by omega)
  unfold wpX_tokenKind
  exact am_xholdsT hn hp (br_f (by decide) ⟨vp_in_nI (by omega) (by decide), by rw [hc]; exact h⟩)
theorem am_xta {post : Int32 → Prop} {n p : Nat} {ta : Nat → Int32} (hn : n ≤ 32) (hp : p < n) (h : post (ta p)) : wpX_tokenArg post (f_maxChoices, f_maxAlloc, nI n, f_stage, f_solutions, f_failures, f_lastKind, f_lastValue, f_lastChoices, f_lastChoiceCount, f_lastAllocCount, f_steering, f_steeringLength, f_pathLeft, f_failed, f_choicesMade, f_allocsMade, f_visiting, f_position, f_environment, f_resultIsClosure, f_resultValue, f_depth, a_kinds, ta, a_ends, a_locationVariable, a_locationOuter, a_locationIsClosure, a_locationValue, a_closureToken, a_closureEnvironment, a_frameToken, a_frameEnvironment, a_frameHasFirst, a_frameFirstIsClosure, a_frameFirstValue) (nI p) := by
  have hc : (nI p).toNatClampNeg = p := nI_clamp (by omega)
  unfold wpX_tokenArg
  exact am_xholdsT hn hp (br_f (by decide) ⟨vp_in_nI (by omega) (by decide), by rw [hc]; exact h⟩)
theorem am_xend {post : Int32 → Prop} {n p : Nat} {tk en : Nat → Int32} {x : Int32} (hn : n ≤ 32) (hp : p ≤ n) (hen : ∀ i, i < n → en i = nI (am_eN tk n i)) (ex : x = nI p) (h : post (nI (am_eN tk n p))) : wpX_endOf post (f_maxChoices, f_maxAlloc, nI n, f_stage, f_solutions, f_failures, f_lastKind, f_lastValue, f_lastChoices, f_lastChoiceCount, f_lastAllocCount, f_steering, f_steeringLength, f_pathLeft, f_failed, f_choicesMade, f_allocsMade, f_visiting, f_position, f_environment, f_resultIsClosure, f_resultValue, f_depth, a_kinds, a_args, en, a_locationVariable, a_locationOuter, a_locationIsClosure, a_locationValue, a_closureToken, a_closureEnvironment, a_frameToken, a_frameEnvironment, a_frameHasFirst, a_frameFirstIsClosure, a_frameFirstValue) x := by
  rw [ex]
  have hc : (nI p).toNatClampNeg = p := nI_clamp (by omega)
  by_cases q : p < n
  · exact br_f (nI_pos (by omega)) (br_f (nI_ge q (by omega)) ⟨vp_in_nI (by omega) (by decide), by rw [hc, hen p q]; exact h⟩)
  · have e : p = n := by omega
    rw [e, am_eN_n] at h
    exact br_f (nI_pos (by omega)) (br_t (nI_le (by omega) (by omega)) h)
theorem am_xfind0 {post : Int32 → Prop} {n mC mA : Nat} {s : am_S} {x : Int32} (w : am_WF n mC mA s) (hA : mA ≤ 16) (hs : am_sx s a_locationVariable a_locationOuter a_locationIsClosure a_locationValue a_closureToken a_closureEnvironment) : ∀ (k j : Nat) (e : Int32), j + k = 16 → am_okE s e → post (am_xe s (am_lk s x k e)) → wX_find_7 post x f_maxChoices f_maxAlloc f_held f_stage f_solutions f_failures f_lastKind f_lastValue f_lastChoices f_lastChoiceCount f_lastAllocCount f_steering f_steeringLength f_pathLeft f_failed f_choicesMade f_allocsMade f_visiting f_position f_environment f_resultIsClosure f_resultValue f_depth a_kinds a_args a_ends a_locationVariable a_locationOuter a_locationIsClosure a_locationValue a_closureToken a_closureEnvironment a_frameToken a_frameEnvironment a_frameHasFirst a_frameFirstIsClosure a_frameFirstValue (k + 1) (am_xe s e) (nI j) := by
  intro k
  induction k with
  | zero =>
    intro j e hj he h
    have h' : post (-1) := by
      rw [show am_lk s x 0 e = -1 from rfl, am_xe_m] at h
      exact h
    have h16 : (16 : Int32) ≤ nI j := by
      have : j = 16 := by omega
      rw [this]
      decide
    rw [wX_find_7]
    exact br_t h16 h'
  | succ k ih =>
    intro j e hj he h
    have j16 : ¬ (16 : Int32) ≤ nI j := nI_ge (b := 16) (by omega) (by decide)
    rw [am_lk_s] at h
    rcases he with he | ⟨f, hf, he⟩
    · subst he
      rw [if_pos (by decide), am_xe_m] at h
      rw [am_xe_m, wX_find_7]
      exact br_f j16 (br_t (by decide) h)
    · subst he
      have hb := am_WF_f w hA hf
      have hxl : am_xl s f < 16 := by
        have h1 := (w.2.2.1 f hf).2.2.1
        have h2 := w.2.1
        omega
      have hc : (nI f).toNatClampNeg = f := nI_clamp (by omega)
      have hd : (nI (am_xl s f)).toNatClampNeg = am_xl s f := nI_clamp (by omega)
      rw [if_neg (nI_pos (by omega)), hc] at h
      obtain ⟨s1, s2, _, _⟩ := hs.1 f hf
      have f16 : ¬ (16 : Int32) ≤ nI (am_xl s f) := nI_ge (b := 16) hxl (by decide)
      have vf : vp_in (nI (am_xl s f)) 16 := vp_in_nI hxl (by decide)
      rw [am_xe_f s (by omega), wX_find_7]
      refine br_f j16 (br_f (nI_pos (by omega)) (br_f f16 ⟨vf, ?_⟩))
      by_cases q : am_fVar s f = x
      · rw [if_pos q, am_xe_f s (by omega)] at h
        exact br_t (by rw [hd, s1]; exact q) h
      · rw [if_neg q] at h
        have e2 : a_locationOuter (nI (am_xl s f)).toNatClampNeg = am_xe s (am_fPar s f) := by rw [hd, s2]
        exact br_f (by rw [hd, s1]; exact q) ⟨vf, nm_r e2 (nm_r (nI_1 j) (ih (j + 1) _ (by omega) (am_wL_par w hf) h))⟩
theorem am_xfind {post : Int32 → Prop} {n mC mA : Nat} {s : am_S} {x e r : Int32} (w : am_WF n mC mA s) (hA : mA ≤ 16) (hs : am_sx s a_locationVariable a_locationOuter a_locationIsClosure a_locationValue a_closureToken a_closureEnvironment) (he : am_okE s e) (er : am_lk s x 17 e = r) (h : post (am_xe s r)) : wpX_find post (f_maxChoices, f_maxAlloc, f_held, f_stage, f_solutions, f_failures, f_lastKind, f_lastValue, f_lastChoices, f_lastChoiceCount, f_lastAllocCount, f_steering, f_steeringLength, f_pathLeft, f_failed, f_choicesMade, f_allocsMade, f_visiting, f_position, am_xe s e, f_resultIsClosure, f_resultValue, f_depth, a_kinds, a_args, a_ends, a_locationVariable, a_locationOuter, a_locationIsClosure, a_locationValue, a_closureToken, a_closureEnvironment, a_frameToken, a_frameEnvironment, a_frameHasFirst, a_frameFirstIsClosure, a_frameFirstValue) x := by
  rw [← er, am_lk_16 w hA he] at h
  exact ⟨17, am_xfind0 w hA hs 16 0 e (by omega) he h⟩
theorem am_xopen {post : St2 → Prop} {t p : Nat} (ht : t < 544) (h : post (f_maxChoices, f_maxAlloc, f_held, f_stage, f_solutions, f_failures, f_lastKind, f_lastValue, f_lastChoices, f_lastChoiceCount, f_lastAllocCount, f_steering, f_steeringLength, f_pathLeft, f_failed, f_choicesMade, f_allocsMade, 1, nI (p + 1), f_environment, f_resultIsClosure, f_resultValue, nI (t + 1), a_kinds, a_args, a_ends, a_locationVariable, a_locationOuter, a_locationIsClosure, a_locationValue, a_closureToken, a_closureEnvironment, upd a_frameToken t (nI p), upd a_frameEnvironment t f_environment, upd a_frameHasFirst t 0, a_frameFirstIsClosure, a_frameFirstValue)) : wpX_openFrame post (f_maxChoices, f_maxAlloc, f_held, f_stage, f_solutions, f_failures, f_lastKind, f_lastValue, f_lastChoices, f_lastChoiceCount, f_lastAllocCount, f_steering, f_steeringLength, f_pathLeft, f_failed, f_choicesMade, f_allocsMade, f_visiting, f_position, f_environment, f_resultIsClosure, f_resultValue, nI t, a_kinds, a_args, a_ends, a_locationVariable, a_locationOuter, a_locationIsClosure, a_locationValue, a_closureToken, a_closureEnvironment, a_frameToken, a_frameEnvironment, a_frameHasFirst, a_frameFirstIsClosure, a_frameFirstValue) (nI p) := by
  have hc : (nI t).toNatClampNeg = t := nI_clamp (by omega)
  have v : vp_in (nI t) 544 := vp_in_nI ht (by decide)
  have l : nI t < 544 := nI_lt (b := 544) ht (by decide)
  exact br_t l ⟨v, nm_r (by rw [hc]) ⟨v, nm_r (by rw [hc]) ⟨v, nm_r (by rw [hc]) (nm_r (nI_1 t) (am_xvn (nI_1 p) h))⟩⟩⟩
theorem am_xbindT {post : St2 → Prop} {a mA : Nat} {x x' o o' c : Int32} (h1 : a < mA) (h2 : mA ≤ 16) (ec : vp_nar .boolean c = c) (ex : x = x') (eo : o = o') (h : post (f_maxChoices, nI mA, f_held, f_stage, f_solutions, f_failures, f_lastKind, f_lastValue, f_lastChoices, f_lastChoiceCount, f_lastAllocCount, f_steering, f_steeringLength, f_pathLeft, f_failed, f_choicesMade, nI (a + 1), f_visiting, f_position, nI a, c, f_resultValue, f_depth, a_kinds, a_args, a_ends, upd a_locationVariable a x', upd a_locationOuter a o', upd a_locationIsClosure a c, upd a_locationValue a f_resultValue, a_closureToken, a_closureEnvironment, a_frameToken, a_frameEnvironment, a_frameHasFirst, a_frameFirstIsClosure, a_frameFirstValue)) : wpX_bind post (f_maxChoices, nI mA, f_held, f_stage, f_solutions, f_failures, f_lastKind, f_lastValue, f_lastChoices, f_lastChoiceCount, f_lastAllocCount, f_steering, f_steeringLength, f_pathLeft, f_failed, f_choicesMade, nI a, f_visiting, f_position, f_environment, c, f_resultValue, f_depth, a_kinds, a_args, a_ends, a_locationVariable, a_locationOuter, a_locationIsClosure, a_locationValue, a_closureToken, a_closureEnvironment, a_frameToken, a_frameEnvironment, a_frameHasFirst, a_frameFirstIsClosure, a_frameFirstValue) x o := by
  subst ex
  subst eo
  have hc : (nI a).toNatClampNeg = a := nI_clamp (by omega)
  have v : vp_in (nI a) 16 := vp_in_nI (by omega) (by decide)
  exact br_t (nI_lt h1 (by omega)) ⟨v, nm_r (by rw [hc]) ⟨v, nm_r (by rw [hc]) ⟨v, nm_r (by rw [hc, ec]) ⟨v, nm_r (by rw [hc]) (nm_r (nI_1 a) h)⟩⟩⟩⟩
theorem am_xbindF {post : St2 → Prop} {a mA : Nat} {x o : Int32} (h1 : mA ≤ a) (h2 : a ≤ 16) (h : post (f_maxChoices, nI mA, f_held, f_stage, f_solutions, f_failures, f_lastKind, f_lastValue, f_lastChoices, f_lastChoiceCount, f_lastAllocCount, f_steering, f_steeringLength, f_pathLeft, 1, f_choicesMade, nI a, f_visiting, f_position, f_environment, f_resultIsClosure, f_resultValue, f_depth, a_kinds, a_args, a_ends, a_locationVariable, a_locationOuter, a_locationIsClosure, a_locationValue, a_closureToken, a_closureEnvironment, a_frameToken, a_frameEnvironment, a_frameHasFirst, a_frameFirstIsClosure, a_frameFirstValue)) : wpX_bind post (f_maxChoices, nI mA, f_held, f_stage, f_solutions, f_failures, f_lastKind, f_lastValue, f_lastChoices, f_lastChoiceCount, f_lastAllocCount, f_steering, f_steeringLength, f_pathLeft, f_failed, f_choicesMade, nI a, f_visiting, f_position, f_environment, f_resultIsClosure, f_resultValue, f_depth, a_kinds, a_args, a_ends, a_locationVariable, a_locationOuter, a_locationIsClosure, a_locationValue, a_closureToken, a_closureEnvironment, a_frameToken, a_frameEnvironment, a_frameHasFirst, a_frameFirstIsClosure, a_frameFirstValue) x o := br_f (nI_nlt h1 (by omega)) h
theorem am_xcomb {post : Int32 → Prop} {k x x' y : Int32} (hk : am_bin k) (ex : x' = x) (h : post (am_op k x y)) : wpX_combine post () k x' y := by
  subst ex
  rcases hk with q | q | q | q | q
  · subst q
    exact br_f (by decide) (br_f (by decide) (br_t rfl h))
  · subst q
    exact br_f (by decide) (br_f (by decide) (br_f (by decide) (br_t rfl h)))
  · subst q
    exact br_f (by decide) (br_f (by decide) (br_f (by decide) (br_f (by decide) (br_t rfl h))))
  · subst q
    have eo : am_op 5 x' y = if x' < y then 1 else 0 := rfl
    rw [eo] at h
    exact br_f (by decide) (br_f (by decide) (br_f (by decide) (br_f (by decide) (br_f (by decide) (br_t rfl (br_c (fun z => by rw [if_neg (Int32.not_lt.mpr z)] at h; exact h) (fun z => by rw [if_pos (Int32.not_le.mp z)] at h; exact h)))))))
  · subst q
    have eo : am_op 6 x' y = if x' = y then 1 else 0 := rfl
    rw [eo] at h
    exact br_f (by decide) (br_t (by decide) (br_c (fun z => by rw [if_pos z] at h; exact h) (fun z => by rw [if_neg z] at h; exact h)))
theorem am_nm1 {a : Nat} (h : a < 2 ^ 31) : ¬ nI a = -1 := by
  intro q
  have h2 := nI_pos h
  rw [q] at h2
  exact h2 (by decide)
theorem am_xgi {post : St2 → Prop} {x x' : Int32} (ex : x = x') (h : post (f_maxChoices, f_maxAlloc, f_held, f_stage, f_solutions, f_failures, f_lastKind, f_lastValue, f_lastChoices, f_lastChoiceCount, f_lastAllocCount, f_steering, f_steeringLength, f_pathLeft, f_failed, f_choicesMade, f_allocsMade, 0, f_position, f_environment, 0, x', f_depth, a_kinds, a_args, a_ends, a_locationVariable, a_locationOuter, a_locationIsClosure, a_locationValue, a_closureToken, a_closureEnvironment, a_frameToken, a_frameEnvironment, a_frameHasFirst, a_frameFirstIsClosure, a_frameFirstValue)) : wpX_giveInt post (f_maxChoices, f_maxAlloc, f_held, f_stage, f_solutions, f_failures, f_lastKind, f_lastValue, f_lastChoices, f_lastChoiceCount, f_lastAllocCount, f_steering, f_steeringLength, f_pathLeft, f_failed, f_choicesMade, f_allocsMade, f_visiting, f_position, f_environment, f_resultIsClosure, f_resultValue, f_depth, a_kinds, a_args, a_ends, a_locationVariable, a_locationOuter, a_locationIsClosure, a_locationValue, a_closureToken, a_closureEnvironment, a_frameToken, a_frameEnvironment, a_frameHasFirst, a_frameFirstIsClosure, a_frameFirstValue) x := by
  rw [ex]
  exact h
theorem am_xrvT {post : St2 → Prop} {n mC mA f : Nat} {s : am_S} {x x' e : Int32} (w : am_WF n mC mA s) (hA : mA ≤ 16) (hs : am_sx s a_locationVariable a_locationOuter a_locationIsClosure a_locationValue a_closureToken a_closureEnvironment) (he : am_okE s e) (ex : x = x') (hf : f < am_nf s) (er : am_lk s x' 17 e = nI f) (h : post (f_maxChoices, f_maxAlloc, f_held, f_stage, f_solutions, f_failures, f_lastKind, f_lastValue, f_lastChoices, f_lastChoiceCount, f_lastAllocCount, f_steering, f_steeringLength, f_pathLeft, f_failed, f_choicesMade, f_allocsMade, 0, f_position, am_xe s e, am_xk (am_fK s f), am_xv s (am_fK s f) (am_fV s f), f_depth, a_kinds, a_args, a_ends, a_locationVariable, a_locationOuter, a_locationIsClosure, a_locationValue, a_closureToken, a_closureEnvironment, a_frameToken, a_frameEnvironment, a_frameHasFirst, a_frameFirstIsClosure, a_frameFirstValue)) : wpX_readVariable post (f_maxChoices, f_maxAlloc, f_held, f_stage, f_solutions, f_failures, f_lastKind, f_lastValue, f_lastChoices, f_lastChoiceCount, f_lastAllocCount, f_steering, f_steeringLength, f_pathLeft, f_failed, f_choicesMade, f_allocsMade, f_visiting, f_position, am_xe s e, f_resultIsClosure, f_resultValue, f_depth, a_kinds, a_args, a_ends, a_locationVariable, a_locationOuter, a_locationIsClosure, a_locationValue, a_closureToken, a_closureEnvironment, a_frameToken, a_frameEnvironment, a_frameHasFirst, a_frameFirstIsClosure, a_frameFirstValue) x := by
  subst ex
  have hb := am_WF_f w hA hf
  have hxl : am_xl s f < 16 := by
    have h1 := (w.2.2.1 f hf).2.2.1
    have h2 := w.2.1
    omega
  have hd : (nI (am_xl s f)).toNatClampNeg = am_xl s f := nI_clamp (by omega)
  obtain ⟨_, _, s3, s4⟩ := hs.1 f hf
  have v : vp_in (nI (am_xl s f)) 16 := vp_in_nI hxl (by decide)
  have e3 : a_locationIsClosure (nI (am_xl s f)).toNatClampNeg = am_xk (am_fK s f) := by rw [hd, s3]
  have e4 : a_locationValue (nI (am_xl s f)).toNatClampNeg = am_xv s (am_fK s f) (am_fV s f) := by rw [hd, s4]
  unfold wpX_readVariable
  refine am_xfind w hA hs he er ?_
  rw [am_xe_f s (by omega)]
  exact br_f (am_nm1 (by omega)) ⟨v, nm_r e3 ⟨(am_boolk _).1, (am_boolk _).2, v, nm_r e4 h⟩⟩
theorem am_xrvF {post : St2 → Prop} {n mC mA : Nat} {s : am_S} {x x' e : Int32} (w : am_WF n mC mA s) (hA : mA ≤ 16) (hs : am_sx s a_locationVariable a_locationOuter a_locationIsClosure a_locationValue a_closureToken a_closureEnvironment) (he : am_okE s e) (ex : x = x') (er : am_lk s x' 17 e = -1) (h : post (f_maxChoices, f_maxAlloc, f_held, f_stage, f_solutions, f_failures, f_lastKind, f_lastValue, f_lastChoices, f_lastChoiceCount, f_lastAllocCount, f_steering, f_steeringLength, f_pathLeft, 1, f_choicesMade, f_allocsMade, f_visiting, f_position, am_xe s e, f_resultIsClosure, f_resultValue, f_depth, a_kinds, a_args, a_ends, a_locationVariable, a_locationOuter, a_locationIsClosure, a_locationValue, a_closureToken, a_closureEnvironment, a_frameToken, a_frameEnvironment, a_frameHasFirst, a_frameFirstIsClosure, a_frameFirstValue)) : wpX_readVariable post (f_maxChoices, f_maxAlloc, f_held, f_stage, f_solutions, f_failures, f_lastKind, f_lastValue, f_lastChoices, f_lastChoiceCount, f_lastAllocCount, f_steering, f_steeringLength, f_pathLeft, f_failed, f_choicesMade, f_allocsMade, f_visiting, f_position, am_xe s e, f_resultIsClosure, f_resultValue, f_depth, a_kinds, a_args, a_ends, a_locationVariable, a_locationOuter, a_locationIsClosure, a_locationValue, a_closureToken, a_closureEnvironment, a_frameToken, a_frameEnvironment, a_frameHasFirst, a_frameFirstIsClosure, a_frameFirstValue) x := by
  subst ex
  unfold wpX_readVariable
  refine am_xfind w hA hs he er ?_
  rw [am_xe_m]
  exact br_t rfl h
theorem am_xasT {post : St2 → Prop} {n mC mA f : Nat} {s : am_S} {x e c : Int32} (w : am_WF n mC mA s) (hA : mA ≤ 16) (hs : am_sx s a_locationVariable a_locationOuter a_locationIsClosure a_locationValue a_closureToken a_closureEnvironment) (he : am_okE s e) (hf : f < am_nf s) (er : am_lk s x 17 e = nI f) (ec : vp_nar .boolean c = c) (h : post (f_maxChoices, f_maxAlloc, f_held, f_stage, f_solutions, f_failures, f_lastKind, f_lastValue, f_lastChoices, f_lastChoiceCount, f_lastAllocCount, f_steering, f_steeringLength, f_pathLeft, f_failed, f_choicesMade, f_allocsMade, f_visiting, f_position, am_xe s e, c, f_resultValue, f_depth, a_kinds, a_args, a_ends, a_locationVariable, a_locationOuter, upd a_locationIsClosure (am_xl s f) c, upd a_locationValue (am_xl s f) f_resultValue, a_closureToken, a_closureEnvironment, a_frameToken, a_frameEnvironment, a_frameHasFirst, a_frameFirstIsClosure, a_frameFirstValue)) : wpX_assign post (f_maxChoices, f_maxAlloc, f_held, f_stage, f_solutions, f_failures, f_lastKind, f_lastValue, f_lastChoices, f_lastChoiceCount, f_lastAllocCount, f_steering, f_steeringLength, f_pathLeft, f_failed, f_choicesMade, f_allocsMade, f_visiting, f_position, am_xe s e, c, f_resultValue, f_depth, a_kinds, a_args, a_ends, a_locationVariable, a_locationOuter, a_locationIsClosure, a_locationValue, a_closureToken, a_closureEnvironment, a_frameToken, a_frameEnvironment, a_frameHasFirst, a_frameFirstIsClosure, a_frameFirstValue) x := by
  have hb := am_WF_f w hA hf
  have hxl : am_xl s f < 16 := by
    have h1 := (w.2.2.1 f hf).2.2.1
    have h2 := w.2.1
    omega
  have hd : (nI (am_xl s f)).toNatClampNeg = am_xl s f := nI_clamp (by omega)
  have v : vp_in (nI (am_xl s f)) 16 := vp_in_nI hxl (by decide)
  unfold wpX_assign
  refine am_xfind w hA hs he er ?_
  rw [am_xe_f s (by omega)]
  exact br_f (am_nm1 (by omega)) ⟨v, nm_r (by rw [hd, ec]) ⟨v, nm_r (by rw [hd]) h⟩⟩
theorem am_xasF {post : St2 → Prop} {n mC mA : Nat} {s : am_S} {x e : Int32} (w : am_WF n mC mA s) (hA : mA ≤ 16) (hs : am_sx s a_locationVariable a_locationOuter a_locationIsClosure a_locationValue a_closureToken a_closureEnvironment) (he : am_okE s e) (er : am_lk s x 17 e = -1) (h : post (f_maxChoices, f_maxAlloc, f_held, f_stage, f_solutions, f_failures, f_lastKind, f_lastValue, f_lastChoices, f_lastChoiceCount, f_lastAllocCount, f_steering, f_steeringLength, f_pathLeft, 1, f_choicesMade, f_allocsMade, f_visiting, f_position, am_xe s e, f_resultIsClosure, f_resultValue, f_depth, a_kinds, a_args, a_ends, a_locationVariable, a_locationOuter, a_locationIsClosure, a_locationValue, a_closureToken, a_closureEnvironment, a_frameToken, a_frameEnvironment, a_frameHasFirst, a_frameFirstIsClosure, a_frameFirstValue)) : wpX_assign post (f_maxChoices, f_maxAlloc, f_held, f_stage, f_solutions, f_failures, f_lastKind, f_lastValue, f_lastChoices, f_lastChoiceCount, f_lastAllocCount, f_steering, f_steeringLength, f_pathLeft, f_failed, f_choicesMade, f_allocsMade, f_visiting, f_position, am_xe s e, f_resultIsClosure, f_resultValue, f_depth, a_kinds, a_args, a_ends, a_locationVariable, a_locationOuter, a_locationIsClosure, a_locationValue, a_closureToken, a_closureEnvironment, a_frameToken, a_frameEnvironment, a_frameHasFirst, a_frameFirstIsClosure, a_frameFirstValue) x := by
  unfold wpX_assign
  refine am_xfind w hA hs he er ?_
  rw [am_xe_m]
  exact br_t rfl h
theorem am_xmcT {post : St2 → Prop} {a mA p : Nat} (h1 : a < mA) (h2 : mA ≤ 16) (h : post (f_maxChoices, nI mA, f_held, f_stage, f_solutions, f_failures, f_lastKind, f_lastValue, f_lastChoices, f_lastChoiceCount, f_lastAllocCount, f_steering, f_steeringLength, f_pathLeft, f_failed, f_choicesMade, nI (a + 1), 0, f_position, f_environment, 1, nI a, f_depth, a_kinds, a_args, a_ends, a_locationVariable, a_locationOuter, a_locationIsClosure, a_locationValue, upd a_closureToken a (nI p), upd a_closureEnvironment a f_environment, a_frameToken, a_frameEnvironment, a_frameHasFirst, a_frameFirstIsClosure, a_frameFirstValue)) : wpX_makeClosure post (f_maxChoices, nI mA, f_held, f_stage, f_solutions, f_failures, f_lastKind, f_lastValue, f_lastChoices, f_lastChoiceCount, f_lastAllocCount, f_steering, f_steeringLength, f_pathLeft, f_failed, f_choicesMade, nI a, f_visiting, f_position, f_environment, f_resultIsClosure, f_resultValue, f_depth, a_kinds, a_args, a_ends, a_locationVariable, a_locationOuter, a_locationIsClosure, a_locationValue, a_closureToken, a_closureEnvironment, a_frameToken, a_frameEnvironment, a_frameHasFirst, a_frameFirstIsClosure, a_frameFirstValue) (nI p) := by
  have hc : (nI a).toNatClampNeg = a := nI_clamp (by omega)
  have v : vp_in (nI a) 16 := vp_in_nI (by omega) (by decide)
  exact br_t (nI_lt h1 (by omega)) ⟨v, nm_r (by rw [hc]) ⟨v, nm_r (by rw [hc]) (nm_r (nI_1 a) h)⟩⟩
theorem am_xmcF {post : St2 → Prop} {a mA : Nat} {x : Int32} (h1 : mA ≤ a) (h2 : a ≤ 16) (h : post (f_maxChoices, nI mA, f_held, f_stage, f_solutions, f_failures, f_lastKind, f_lastValue, f_lastChoices, f_lastChoiceCount, f_lastAllocCount, f_steering, f_steeringLength, f_pathLeft, 1, f_choicesMade, nI a, f_visiting, f_position, f_environment, f_resultIsClosure, f_resultValue, f_depth, a_kinds, a_args, a_ends, a_locationVariable, a_locationOuter, a_locationIsClosure, a_locationValue, a_closureToken, a_closureEnvironment, a_frameToken, a_frameEnvironment, a_frameHasFirst, a_frameFirstIsClosure, a_frameFirstValue)) : wpX_makeClosure post (f_maxChoices, nI mA, f_held, f_stage, f_solutions, f_failures, f_lastKind, f_lastValue, f_lastChoices, f_lastChoiceCount, f_lastAllocCount, f_steering, f_steeringLength, f_pathLeft, f_failed, f_choicesMade, nI a, f_visiting, f_position, f_environment, f_resultIsClosure, f_resultValue, f_depth, a_kinds, a_args, a_ends, a_locationVariable, a_locationOuter, a_locationIsClosure, a_locationValue, a_closureToken, a_closureEnvironment, a_frameToken, a_frameEnvironment, a_frameHasFirst, a_frameFirstIsClosure, a_frameFirstValue) x := br_f (nI_nlt h1 (by omega)) h
theorem am_xhf {post : St2 → Prop} {t : Nat} {x c : Int32} (ht : t < 544) (ec : vp_nar .boolean c = c) (h : post (f_maxChoices, f_maxAlloc, f_held, f_stage, f_solutions, f_failures, f_lastKind, f_lastValue, f_lastChoices, f_lastChoiceCount, f_lastAllocCount, f_steering, f_steeringLength, f_pathLeft, f_failed, f_choicesMade, f_allocsMade, 1, x, f_environment, c, f_resultValue, nI (t + 1), a_kinds, a_args, a_ends, a_locationVariable, a_locationOuter, a_locationIsClosure, a_locationValue, a_closureToken, a_closureEnvironment, a_frameToken, a_frameEnvironment, upd a_frameHasFirst t 1, upd a_frameFirstIsClosure t c, upd a_frameFirstValue t f_resultValue)) : wpX_holdFirst post (f_maxChoices, f_maxAlloc, f_held, f_stage, f_solutions, f_failures, f_lastKind, f_lastValue, f_lastChoices, f_lastChoiceCount, f_lastAllocCount, f_steering, f_steeringLength, f_pathLeft, f_failed, f_choicesMade, f_allocsMade, f_visiting, f_position, f_environment, c, f_resultValue, nI t, a_kinds, a_args, a_ends, a_locationVariable, a_locationOuter, a_locationIsClosure, a_locationValue, a_closureToken, a_closureEnvironment, a_frameToken, a_frameEnvironment, a_frameHasFirst, a_frameFirstIsClosure, a_frameFirstValue) x := by
  have hc : (nI t).toNatClampNeg = t := nI_clamp (by omega)
  have v : vp_in (nI t) 544 := vp_in_nI ht (by decide)
  exact ⟨v, nm_r (by rw [hc]) ⟨v, nm_r (by rw [hc, ec]) ⟨v, nm_r (by rw [hc]) (nm_r (nI_1 t) (am_xvn rfl h))⟩⟩⟩
theorem am_x48 {post : St2 → Prop} {b : Nat → Bool} {n p u L : Nat} {tk en : Nat → Int32} (hn : n ≤ 32) (hp : p < n) (hen : ∀ i, i < n → en i = nI (am_eN tk n i)) (hu : u < L) (hL : L ≤ 6) (h : post (f_maxChoices, f_maxAlloc, nI n, f_stage, f_solutions, f_failures, f_lastKind, f_lastValue, f_lastChoices, f_lastChoiceCount, f_lastAllocCount, nI (am_nm b L), nI L, f_pathLeft, f_failed, nI (u + 1), f_allocsMade, 1, nI (am_q8 n tk p (b u)), f_environment, f_resultIsClosure, f_resultValue, f_depth, a_kinds, a_args, en, a_locationVariable, a_locationOuter, a_locationIsClosure, a_locationValue, a_closureToken, a_closureEnvironment, a_frameToken, a_frameEnvironment, a_frameHasFirst, a_frameFirstIsClosure, a_frameFirstValue)) : wX_choose_48 post (nI p) f_maxChoices f_maxAlloc (nI n) f_stage f_solutions f_failures f_lastKind f_lastValue f_lastChoices f_lastChoiceCount f_lastAllocCount (nI (am_nm b L)) (nI L) f_pathLeft f_failed (nI u) f_allocsMade f_visiting f_position f_environment f_resultIsClosure f_resultValue f_depth a_kinds a_args en a_locationVariable a_locationOuter a_locationIsClosure a_locationValue a_closureToken a_closureEnvironment a_frameToken a_frameEnvironment a_frameHasFirst a_frameFirstIsClosure a_frameFirstValue := by
  refine nm_r (nI_1 u) (nm_r (am_bit hu hL) (am_xend hn hp hen (nI_1 p) ?_))
  unfold am_q8 at h
  cases hb : b u with
  | true =>
    rw [hb, if_pos rfl] at h
    exact br_f (by decide) (am_xvn rfl h)
  | false =>
    rw [hb, if_neg (by decide)] at h
    exact br_t rfl (am_xvn (nI_1 p) h)
theorem am_xchoose {post : St2 → Prop} {b : Nat → Bool} {n p u L0 mC : Nat} {tk en : Nat → Int32} (hn : n ≤ 32) (hp : p < n) (hen : ∀ i, i < n → en i = nI (am_eN tk n i)) (hu : u < mC) (hC : mC ≤ 6) (hL : L0 ≤ 6) (hz : ∀ j, L0 ≤ j → b j = false) (h : post (nI mC, f_maxAlloc, nI n, f_stage, f_solutions, f_failures, f_lastKind, f_lastValue, f_lastChoices, f_lastChoiceCount, f_lastAllocCount, nI (am_nm b (am_mx L0 (u + 1))), nI (am_mx L0 (u + 1)), f_pathLeft, f_failed, nI (u + 1), f_allocsMade, 1, nI (am_q8 n tk p (b u)), f_environment, f_resultIsClosure, f_resultValue, f_depth, a_kinds, a_args, en, a_locationVariable, a_locationOuter, a_locationIsClosure, a_locationValue, a_closureToken, a_closureEnvironment, a_frameToken, a_frameEnvironment, a_frameHasFirst, a_frameFirstIsClosure, a_frameFirstValue)) : wpX_choose post (nI mC, f_maxAlloc, nI n, f_stage, f_solutions, f_failures, f_lastKind, f_lastValue, f_lastChoices, f_lastChoiceCount, f_lastAllocCount, nI (am_nm b (am_mx L0 u)), nI (am_mx L0 u), f_pathLeft, f_failed, nI u, f_allocsMade, f_visiting, f_position, f_environment, f_resultIsClosure, f_resultValue, f_depth, a_kinds, a_args, en, a_locationVariable, a_locationOuter, a_locationIsClosure, a_locationValue, a_closureToken, a_closureEnvironment, a_frameToken, a_frameEnvironment, a_frameHasFirst, a_frameFirstIsClosure, a_frameFirstValue) (nI p) := by
  refine br_t (nI_lt hu (by omega)) ?_
  by_cases q : u < L0
  · have em : am_mx L0 u = L0 := by unfold am_mx; omega
    have em' : am_mx L0 (u + 1) = L0 := by unfold am_mx; omega
    rw [em'] at h
    rw [em]
    exact br_t (nI_lt q (by omega)) (am_x48 hn hp hen q hL h)
  · have em : am_mx L0 u = u := by unfold am_mx; omega
    have em' : am_mx L0 (u + 1) = u + 1 := by unfold am_mx; omega
    rw [em'] at h
    rw [em]
    have ez : am_nm b (u + 1) = 2 * am_nm b u := by
      rw [am_nm_s, hz u (by omega)]
      rfl
    have es : nI (am_nm b u) <<< ((1 : Int32) &&& 31) = nI (am_nm b (u + 1)) := by rw [am_shl1 _ (am_nm_le (by omega)), ez]
    exact br_f (nI_nlt (Nat.le_refl _) (by omega)) (nm_r es (nm_r (nI_1 u) (am_x48 hn hp hen (Nat.lt_succ_self u) (by omega) h)))
/-- behind a step -/
theorem am_x62v {post : St2 → Prop} {J : Int32 → Int32 → Int32 → Int32 → Int32 → Int32 → Int32 → Int32 → Int32 → Int32 → Int32 → Int32 → Int32 → Int32 → Int32 → Int32 → Int32 → Int32 → Int32 → Int32 → Int32 → Int32 → Int32 → Int32 → Int32 → (Nat → Int32) → (Nat → Int32) → (Nat → Int32) → (Nat → Int32) → (Nat → Int32) → (Nat → Int32) → (Nat → Int32) → (Nat → Int32) → (Nat → Int32) → (Nat → Int32) → (Nat → Int32) → (Nat → Int32) → (Nat → Int32) → (Nat → Int32) → Prop} {x2 x2' : Int32} (ex : x2 + 1 = x2') (h : J 0 x2' f_maxChoices f_maxAlloc f_held f_stage f_solutions f_failures f_lastKind f_lastValue f_lastChoices f_lastChoiceCount f_lastAllocCount f_steering f_steeringLength f_pathLeft 0 f_choicesMade f_allocsMade 1 f_position f_environment f_resultIsClosure f_resultValue f_depth a_kinds a_args a_ends a_locationVariable a_locationOuter a_locationIsClosure a_locationValue a_closureToken a_closureEnvironment a_frameToken a_frameEnvironment a_frameHasFirst a_frameFirstIsClosure a_frameFirstValue) : wX_runPath_62 post J x2 f_maxChoices f_maxAlloc f_held f_stage f_solutions f_failures f_lastKind f_lastValue f_lastChoices f_lastChoiceCount f_lastAllocCount f_steering f_steeringLength f_pathLeft 0 f_choicesMade f_allocsMade 1 f_position f_environment f_resultIsClosure f_resultValue f_depth a_kinds a_args a_ends a_locationVariable a_locationOuter a_locationIsClosure a_locationValue a_closureToken a_closureEnvironment a_frameToken a_frameEnvironment a_frameHasFirst a_frameFirstIsClosure a_frameFirstValue := br_t rfl (br_f (by decide) (nm_r ex h))
def am_en : List am_F → Int32
  | [] => 1
  | _ :: _ => 0
theorem am_x62r {post : St2 → Prop} {J : Int32 → Int32 → Int32 → Int32 → Int32 → Int32 → Int32 → Int32 → Int32 → Int32 → Int32 → Int32 → Int32 → Int32 → Int32 → Int32 → Int32 → Int32 → Int32 → Int32 → Int32 → Int32 → Int32 → Int32 → Int32 → (Nat → Int32) → (Nat → Int32) → (Nat → Int32) → (Nat → Int32) → (Nat → Int32) → (Nat → Int32) → (Nat → Int32) → (Nat → Int32) → (Nat → Int32) → (Nat → Int32) → (Nat → Int32) → (Nat → Int32) → (Nat → Int32) → (Nat → Int32) → Prop} {x2 x2' : Int32} (r : List am_F) (hr : r.length < 1000) (ex : x2 + 1 = x2') (h : J (am_en r) x2' f_maxChoices f_maxAlloc f_held f_stage f_solutions f_failures f_lastKind f_lastValue f_lastChoices f_lastChoiceCount f_lastAllocCount f_steering f_steeringLength f_pathLeft 0 f_choicesMade f_allocsMade 0 f_position f_environment f_resultIsClosure f_resultValue (nI r.length) a_kinds a_args a_ends a_locationVariable a_locationOuter a_locationIsClosure a_locationValue a_closureToken a_closureEnvironment a_frameToken a_frameEnvironment a_frameHasFirst a_frameFirstIsClosure a_frameFirstValue) : wX_runPath_62 post J x2 f_maxChoices f_maxAlloc f_held f_stage f_solutions f_failures f_lastKind f_lastValue f_lastChoices f_lastChoiceCount f_lastAllocCount f_steering f_steeringLength f_pathLeft 0 f_choicesMade f_allocsMade 0 f_position f_environment f_resultIsClosure f_resultValue (nI r.length) a_kinds a_args a_ends a_locationVariable a_locationOuter a_locationIsClosure a_locationValue a_closureToken a_closureEnvironment a_frameToken a_frameEnvironment a_frameHasFirst a_frameFirstIsClosure a_frameFirstValue := by
  cases r with
  | nil => exact br_t rfl (br_t rfl (br_t rfl (nm_r ex h)))
  | cons f r =>
    have hr' : r.length + 1 < 1000 := hr
    have hd : ¬ nI (r.length + 1) = 0 := nI_ne0 (by omega) (by omega)
    exact br_t rfl (br_t rfl (br_f hd (nm_r ex h)))
theorem am_x62F {post : St2 → Prop} {m : Nat} {x2 : Int32} (h : post (f_maxChoices, f_maxAlloc, f_held, f_stage, f_solutions, f_failures, f_lastKind, f_lastValue, f_lastChoices, f_lastChoiceCount, f_lastAllocCount, f_steering, f_steeringLength, f_pathLeft, 1, f_choicesMade, f_allocsMade, f_visiting, f_position, f_environment, f_resultIsClosure, f_resultValue, f_depth, a_kinds, a_args, a_ends, a_locationVariable, a_locationOuter, a_locationIsClosure, a_locationValue, a_closureToken, a_closureEnvironment, a_frameToken, a_frameEnvironment, a_frameHasFirst, a_frameFirstIsClosure, a_frameFirstValue)) : wX_runPath_62 post (wX_runPath_34 post (m + 1)) x2 f_maxChoices f_maxAlloc f_held f_stage f_solutions f_failures f_lastKind f_lastValue f_lastChoices f_lastChoiceCount f_lastAllocCount f_steering f_steeringLength f_pathLeft 1 f_choicesMade f_allocsMade f_visiting f_position f_environment f_resultIsClosure f_resultValue f_depth a_kinds a_args a_ends a_locationVariable a_locationOuter a_locationIsClosure a_locationValue a_closureToken a_closureEnvironment a_frameToken a_frameEnvironment a_frameHasFirst a_frameFirstIsClosure a_frameFirstValue := by
  refine br_f (by decide) (nm_e ?_)
  rw [wX_runPath_34]
  exact br_c (fun _ => h) (fun _ => br_f (by decide) h)
end
/-- the machine at the head of its loop, about to visit p -/
def am_LXv (post : St2 → Prop) (n : Nat) (tk ta en : Nat → Int32) (mC mA : Nat) (ph sols fails lK lV lH lL lA pl : Int32) (b : Nat → Bool) (L0 : Nat) (a p : Nat) (e : Int32) (r : List am_F) (s : am_S) : Prop :=
  ∀ (m : Nat) (rC rW : Int32) (jV jO jC jW kT kE fT fE fH fC fW : Nat → Int32), a + 128 * (16 - am_al s) ≤ m → m ≤ 1000000 → am_sx s jV jO jC jW kT kE → am_fx s fT fE fH fC fW r →
  wX_runPath_34 post (m + 1) 0 (nI (1000000 - m)) (nI mC) (nI mA) (nI n) ph sols fails lK lV lH lL lA (nI (am_nm b (am_mx L0 (am_us s)))) (nI (am_mx L0 (am_us s))) pl 0 (nI (am_us s)) (nI (am_al s)) 1 (nI p) (am_xe s e) rC rW (nI r.length) tk ta en jV jO jC jW kT kE fT fE fH fC fW
/-- .. and about to hand a value to its top frame -/
def am_LXr (post : St2 → Prop) (n : Nat) (tk ta en : Nat → Int32) (mC mA : Nat) (ph sols fails lK lV lH lL lA pl : Int32) (b : Nat → Bool) (L0 : Nat) (a : Nat) (k v : Int32) (r : List am_F) (s : am_S) : Prop :=
  ∀ (m : Nat) (po ev : Int32) (jV jO jC jW kT kE fT fE fH fC fW : Nat → Int32), a + 128 * (16 - am_al s) ≤ m → m ≤ 1000000 → am_sx s jV jO jC jW kT kE → am_fx s fT fE fH fC fW r →
  wX_runPath_34 post (m + 1) (am_en r) (nI (1000000 - m)) (nI mC) (nI mA) (nI n) ph sols fails lK lV lH lL lA (nI (am_nm b (am_mx L0 (am_us s)))) (nI (am_mx L0 (am_us s))) pl 0 (nI (am_us s)) (nI (am_al s)) 0 po ev (am_xk k) (am_xv s k v) (nI r.length) tk ta en jV jO jC jW kT kE fT fE fH fC fW
/-- a path that failed -/
def am_QX (post : St2 → Prop) (n : Nat) (tk ta en : Nat → Int32) (mC mA : Nat) (ph sols fails lK lV lH lL lA pl : Int32) (b : Nat → Bool) (L0 : Nat) (s : am_S) : Prop :=
  ∀ (f_allocsMade f_visiting f_position f_environment f_resultIsClosure f_resultValue f_depth : Int32) (jV jO jC jW kT kE fT fE fH fC fW : Nat → Int32), post (nI mC, nI mA, nI n, ph, sols, fails, lK, lV, lH, lL, lA, nI (am_nm b (am_mx L0 (am_us s))), nI (am_mx L0 (am_us s)), pl, 1, nI (am_us s), f_allocsMade, f_visiting, f_position, f_environment, f_resultIsClosure, f_resultValue, f_depth, tk, ta, en, jV, jO, jC, jW, kT, kE, fT, fE, fH, fC, fW)
def am_LX (post : St2 → Prop) (n : Nat) (tk ta en : Nat → Int32) (mC mA : Nat) (ph sols fails lK lV lH lL lA pl : Int32) (b : Nat → Bool) (L0 : Nat) (a : Nat) (stk : List am_F) (rk rv : Int32) (s : am_S) : Prop :=
  match stk with
  | [] => am_LXr post n tk ta en mC mA ph sols fails lK lV lH lL lA pl b L0 a rk rv [] s
  | (p, e, st, k, v) :: r => if st = 0 then am_LXv post n tk ta en mC mA ph sols fails lK lV lH lL lA pl b L0 a p e (am_er tk r) s else am_LXr post n tk ta en mC mA ph sols fails lK lV lH lL lA pl b L0 a rk rv (am_er tk ((p, e, st, k, v) :: r)) s
