/-! p18: the tokens, compile, and the law -/
def pe_okT (x y : Int32) : Prop := ((x = 1 ∨ x = 11 ∨ x = 14) ∧ ¬ y < 0 ∧ y < 8) ∨ x = 0 ∨ ((x = 2 ∨ x = 5 ∨ x = 8 ∨ x = 10 ∨ x = 15) ∧ y = 0)
theorem pe_okT_kd {x y : Int32} (h : pe_okT x y) : am_kd x := by
  unfold am_kd
  rcases h with ⟨h | h | h, _⟩ | h | ⟨h | h | h | h | h, _⟩ <;> subst h <;> decide
/-- the tokens held are those of l -/
def pe_L (tk ta : Nat → Int32) (l : List (Int32 × Int32)) : Prop := pe_at tk ta 0 l ∧ ∀ i, i < l.length → am_kd (tk i)
theorem pe_L_snoc {tk ta : Nat → Int32} {l : List (Int32 × Int32)} {x y : Int32} (h : pe_L tk ta l) (ho : pe_okT x y) : pe_L (upd tk l.length x) (upd ta l.length y) (l ++ [(x, y)]) := by
  refine ⟨?_, fun i hi => ?_⟩
  · have := pe_at_snoc (x := x) (y := y) l 0 h.1
    rw [Nat.zero_add] at this
    exact this
  · rw [List.length_append] at hi
    have hi2 : i < l.length + 1 := hi
    by_cases q : i = l.length
    · rw [q, am_up_s]
      exact pe_okT_kd ho
    · rw [am_up_n q]
      exact h.2 i (by omega)
section
variable {f_maxChoices f_maxAlloc f_held f_stage f_solutions f_failures f_lastKind f_lastValue f_lastChoices f_lastChoiceCount f_lastAllocCount f_steering f_steeringLength f_pathLeft f_failed f_choicesMade f_allocsMade f_visiting f_position f_environment f_resultIsClosure f_resultValue f_depth : Int32} {a_kinds a_args a_ends a_locationVariable a_locationOuter a_locationIsClosure a_locationValue a_closureToken a_closureEnvironment a_frameToken a_frameEnvironment a_frameHasFirst a_frameFirstIsClosure a_frameFirstValue : Nat → Int32}
theorem pe_tok {post : Int32 → St2 → Prop} {l : List (Int32 × Int32)} {x y hd : Int32} (ehd : hd = nI l.length) (hl : l.length < 32) (ho : pe_okT x y) (hat : pe_L a_kinds a_args l) (h : ∀ tk' ta' : Nat → Int32, pe_L tk' ta' (l ++ [(x, y)]) → post 1 (f_maxChoices, f_maxAlloc, nI (l ++ [(x, y)]).length, 0, f_solutions, f_failures, f_lastKind, f_lastValue, f_lastChoices, f_lastChoiceCount, f_lastAllocCount, f_steering, f_steeringLength, f_pathLeft, f_failed, f_choicesMade, f_allocsMade, f_visiting, f_position, f_environment, f_resultIsClosure, f_resultValue, f_depth, tk', ta', a_ends, a_locationVariable, a_locationOuter, a_locationIsClosure, a_locationValue, a_closureToken, a_closureEnvironment, a_frameToken, a_frameEnvironment, a_frameHasFirst, a_frameFirstIsClosure, a_frameFirstValue)) : wpX_token post (f_maxChoices, f_maxAlloc, hd, 0, f_solutions, f_failures, f_lastKind, f_lastValue, f_lastChoices, f_lastChoiceCount, f_lastAllocCount, f_steering, f_steeringLength, f_pathLeft, f_failed, f_choicesMade, f_allocsMade, f_visiting, f_position, f_environment, f_resultIsClosure, f_resultValue, f_depth, a_kinds, a_args, a_ends, a_locationVariable, a_locationOuter, a_locationIsClosure, a_locationValue, a_closureToken, a_closureEnvironment, a_frameToken, a_frameEnvironment, a_frameHasFirst, a_frameFirstIsClosure, a_frameFirstValue) x y := by
  subst ehd
  have hh := h _ _ (pe_L_snoc hat ho)
  have el : (l ++ [(x, y)]).length = l.length + 1 := by rw [List.length_append]; rfl
  rw [el] at hh
  have f1 : nI l.length < 32 := nI_lt (b := 32) hl (by decide)
  rcases ho with ⟨hx, y0, y8⟩ | hx | ⟨hx, hy⟩
  · have h51 : ((1 : Int32) = 0 → wX_token_51 post x y 1 f_maxChoices f_maxAlloc (nI l.length) 0 f_solutions f_failures f_lastKind f_lastValue f_lastChoices f_lastChoiceCount f_lastAllocCount f_steering f_steeringLength f_pathLeft f_failed f_choicesMade f_allocsMade f_visiting f_position f_environment f_resultIsClosure f_resultValue f_depth a_kinds a_args a_ends a_locationVariable a_locationOuter a_locationIsClosure a_locationValue a_closureToken a_closureEnvironment a_frameToken a_frameEnvironment a_frameHasFirst a_frameFirstIsClosure a_frameFirstValue) ∧ (¬ (1 : Int32) = 0 → (y < 0 → post 0 (f_maxChoices, f_maxAlloc, nI l.length, 0, f_solutions, f_failures, f_lastKind, f_lastValue, f_lastChoices, f_lastChoiceCount, f_lastAllocCount, f_steering, f_steeringLength, f_pathLeft, f_failed, f_choicesMade, f_allocsMade, f_visiting, f_position, f_environment, f_resultIsClosure, f_resultValue, f_depth, a_kinds, a_args, a_ends, a_locationVariable, a_locationOuter, a_locationIsClosure, a_locationValue, a_closureToken, a_closureEnvironment, a_frameToken, a_frameEnvironment, a_frameHasFirst, a_frameFirstIsClosure, a_frameFirstValue)) ∧ (¬ y < 0 → (y < 8 → wX_token_51 post x y 1 f_maxChoices f_maxAlloc (nI l.length) 0 f_solutions f_failures f_lastKind f_lastValue f_lastChoices f_lastChoiceCount f_lastAllocCount f_steering f_steeringLength f_pathLeft f_failed f_choicesMade f_allocsMade f_visiting f_position f_environment f_resultIsClosure f_resultValue f_depth a_kinds a_args a_ends a_locationVariable a_locationOuter a_locationIsClosure a_locationValue a_closureToken a_closureEnvironment a_frameToken a_frameEnvironment a_frameHasFirst a_frameFirstIsClosure a_frameFirstValue) ∧ (¬ y < 8 → post 0 (f_maxChoices, f_maxAlloc, nI l.length, 0, f_solutions, f_failures, f_lastKind, f_lastValue, f_lastChoices, f_lastChoiceCount, f_lastAllocCount, f_steering, f_steeringLength, f_pathLeft, f_failed, f_choicesMade, f_allocsMade, f_visiting, f_position, f_environment, f_resultIsClosure, f_resultValue, f_depth, a_kinds, a_args, a_ends, a_locationVariable, a_locationOuter, a_locationIsClosure, a_locationValue, a_closureToken, a_closureEnvironment, a_frameToken, a_frameEnvironment, a_frameHasFirst, a_frameFirstIsClosure, a_frameFirstValue)))) := br_f (by decide) (br_f y0 (br_t y8 (am_tok51 hl (fun z => absurd z (by decide)) (fun z => absurd z (by decide)) (fun _ => rfl) hh)))
    rcases hx with q | q | q
    · subst q
      exact br_t rfl (br_t f1 (br_f (by decide) (br_t (by decide) (br_t rfl h51))))
    · subst q
      exact br_t rfl (br_t f1 (br_f (by decide) (br_t (by decide) (br_f (by decide) (br_t rfl h51)))))
    · subst q
      exact br_t rfl (br_t f1 (br_f (by decide) (br_t (by decide) (br_f (by decide) (br_f (by decide) (br_f (by decide) (br_t rfl h51)))))))
  · subst hx
    exact br_t rfl (br_t f1 (br_f (by decide) (br_t (by decide) (br_f (by decide) (br_f (by decide) (br_f (by decide) (br_f (by decide) (br_t rfl (am_tok51 hl (fun _ _ => rfl) (fun _ z => absurd rfl z) (fun z => absurd rfl z) hh)))))))))
  · subst hy
    have x0 : ¬ x = 0 := by rcases hx with q | q | q | q | q <;> rw [q] <;> decide
    have xn : ¬ x < 0 := by rcases hx with q | q | q | q | q <;> rw [q] <;> decide
    have xl : x ≤ 15 := by rcases hx with q | q | q | q | q <;> rw [q] <;> decide
    have x1 : ¬ x = 1 := by rcases hx with q | q | q | q | q <;> rw [q] <;> decide
    have x11 : ¬ x = 11 := by rcases hx with q | q | q | q | q <;> rw [q] <;> decide
    have x12 : ¬ x = 12 := by rcases hx with q | q | q | q | q <;> rw [q] <;> decide
    have x14 : ¬ x = 14 := by rcases hx with q | q | q | q | q <;> rw [q] <;> decide
    exact br_t rfl (br_t f1 (br_f xn (br_t xl (br_f x1 (br_f x11 (br_f x12 (br_f x14 (br_t rfl (am_tok51 hl (fun _ z => absurd z x0) (fun _ _ => rfl) (fun z => absurd rfl z) hh)))))))))
theorem pe_comp {post : Int32 → St2 → Prop} {mC mA n : Nat} {tk ta : Nat → Int32} (n0 : ¬ n = 0) (hn : n ≤ 32) (hK : ∀ i, i < n → am_kd (tk i)) (es : am_sh tk n 1 0 = 0) (ha : am_ab tk ta n n 0 = true) (h : ∀ u', am_RX mC mA n tk ta 1 0 0 0 0 0 0 (fun _ => false) false (fun _ => false) 0 u' → post 0 u') : wpX_compile post (nI mC, nI mA, nI n, 0, f_solutions, f_failures, f_lastKind, f_lastValue, f_lastChoices, f_lastChoiceCount, f_lastAllocCount, f_steering, f_steeringLength, f_pathLeft, f_failed, f_choicesMade, f_allocsMade, f_visiting, f_position, f_environment, f_resultIsClosure, f_resultValue, f_depth, tk, ta, a_ends, a_locationVariable, a_locationOuter, a_locationIsClosure, a_locationValue, a_closureToken, a_closureEnvironment, a_frameToken, a_frameEnvironment, a_frameHasFirst, a_frameFirstIsClosure, a_frameFirstValue) := by
  refine br_t rfl (am_xcs hn hK (fun z => absurd z n0) (fun _ => ?_))
  rw [es]
  refine br_t rfl (am_xfinds hn hK (fun en' hen => ⟨n + 1, am_xab hn hen n 0 (Nat.zero_add n) ?_⟩))
  rw [ha]
  exact br_f (by decide) (h _ ⟨_, _, _, _, _, _, _, _, _, _, _, _, _, _, _, _, _, _, _, _, _, _, _, _, rfl, fun _ => ⟨hen, rfl, fun _ => ⟨rfl, rfl⟩⟩⟩)
end
theorem pe_ok0 (w : Int32) : pe_okT 0 w := Or.inr (Or.inl rfl)
theorem pe_ok112 : pe_okT 11 2 := by unfold pe_okT; decide
theorem pe_ok111 : pe_okT 11 1 := by unfold pe_okT; decide
theorem pe_ok110 : pe_okT 11 0 := by unfold pe_okT; decide
theorem pe_ok12 : pe_okT 1 2 := by unfold pe_okT; decide
theorem pe_ok11 : pe_okT 1 1 := by unfold pe_okT; decide
theorem pe_ok10 : pe_okT 1 0 := by unfold pe_okT; decide
theorem pe_ok141 : pe_okT 14 1 := by unfold pe_okT; decide
theorem pe_okb {x : Int32} (h : x = 2 ∨ x = 5 ∨ x = 8 ∨ x = 10 ∨ x = 15) : pe_okT x 0 := Or.inr (Or.inr ⟨h, rfl⟩)
theorem pe_aa : (1 : Int32) &&& 1 = 1 := by decide
section
variable {f_maxChoices f_maxAlloc f_held f_stage f_solutions f_failures f_lastKind f_lastValue f_lastChoices f_lastChoiceCount f_lastAllocCount f_steering f_steeringLength f_pathLeft f_failed f_choicesMade f_allocsMade f_visiting f_position f_environment f_resultIsClosure f_resultValue f_depth : Int32} {a_kinds a_args a_ends a_locationVariable a_locationOuter a_locationIsClosure a_locationValue a_closureToken a_closureEnvironment a_frameToken a_frameEnvironment a_frameHasFirst a_frameFirstIsClosure a_frameFirstValue : Nat → Int32}
variable {L : Nat} {xs : Nat → Int32} {k i : Nat} {post : Int32 → Prop} {x4 x5 x6 : Int32} {kc ks : Nat}
theorem pe_146 {J : Int32 → Int32 → Int32 → Int32 → Int32 → Int32 → Int32 → Int32 → Int32 → Int32 → Int32 → Int32 → Int32 → Int32 → Int32 → Int32 → Int32 → Int32 → Int32 → Int32 → Int32 → Int32 → Int32 → Int32 → Int32 → (Nat → Int32) → (Nat → Int32) → (Nat → Int32) → (Nat → Int32) → (Nat → Int32) → (Nat → Int32) → (Nat → Int32) → (Nat → Int32) → (Nat → Int32) → (Nat → Int32) → (Nat → Int32) → (Nat → Int32) → (Nat → Int32) → (Nat → Int32) → Prop} {l : List (Int32 × Int32)} (hL : L ≤ 260) (hk : k < 6) (hi : i < k) (el : pe_fl k (pe_f (pe_g L xs) (32 - (9 + 4 * k))) (pe_w L xs) (i + 1) = l ++ (8, 0) :: (0, 0) :: pe_W (pe_f (pe_g L xs) (32 - (9 + 4 * k)) i) (nI (pe_w L xs i))) (hlen : (pe_fl k (pe_f (pe_g L xs) (32 - (9 + 4 * k))) (pe_w L xs) (i + 1)).length ≤ 32) (hat : pe_L a_kinds a_args l)
    (h : ∀ tk' ta' : Nat → Int32, pe_L tk' ta' (pe_fl k (pe_f (pe_g L xs) (32 - (9 + 4 * k))) (pe_w L xs) (i + 1)) → J 1 (nI (i + 1)) f_maxChoices f_maxAlloc (nI (pe_fl k (pe_f (pe_g L xs) (32 - (9 + 4 * k))) (pe_w L xs) (i + 1)).length) 0 f_solutions f_failures f_lastKind f_lastValue f_lastChoices f_lastChoiceCount f_lastAllocCount f_steering f_steeringLength f_pathLeft f_failed f_choicesMade f_allocsMade f_visiting f_position f_environment f_resultIsClosure f_resultValue f_depth tk' ta' a_ends a_locationVariable a_locationOuter a_locationIsClosure a_locationValue a_closureToken a_closureEnvironment a_frameToken a_frameEnvironment a_frameHasFirst a_frameFirstIsClosure a_frameFirstValue) : wL_law_146 post L xs J (nI k) x4 x5 x6 1 (nI i) kc ks f_maxChoices f_maxAlloc (nI l.length) 0 f_solutions f_failures f_lastKind f_lastValue f_lastChoices f_lastChoiceCount f_lastAllocCount f_steering f_steeringLength f_pathLeft f_failed f_choicesMade f_allocsMade f_visiting f_position f_environment f_resultIsClosure f_resultValue f_depth a_kinds a_args a_ends a_locationVariable a_locationOuter a_locationIsClosure a_locationValue a_closureToken a_closureEnvironment a_frameToken a_frameEnvironment a_frameHasFirst a_frameFirstIsClosure a_frameFirstValue := by
  have hf : ∀ l' : List (Int32 × Int32), l' = pe_fl k (pe_f (pe_g L xs) (32 - (9 + 4 * k))) (pe_w L xs) (i + 1) → ∀ tk' ta' : Nat → Int32, pe_L tk' ta' l' → J 1 (nI (i + 1)) f_maxChoices f_maxAlloc (nI l'.length) 0 f_solutions f_failures f_lastKind f_lastValue f_lastChoices f_lastChoiceCount f_lastAllocCount f_steering f_steeringLength f_pathLeft f_failed f_choicesMade f_allocsMade f_visiting f_position f_environment f_resultIsClosure f_resultValue f_depth tk' ta' a_ends a_locationVariable a_locationOuter a_locationIsClosure a_locationValue a_closureToken a_closureEnvironment a_frameToken a_frameEnvironment a_frameHasFirst a_frameFirstIsClosure a_frameFirstValue := by
    intro l' e
    subst e
    exact h
  rw [el, List.length_append, List.length_cons, List.length_cons] at hlen
  have hf3 := pe_f_lt L xs (32 - (9 + 4 * k)) i
  unfold wL_law_146
  refine pe_tok rfl (by omega) (pe_okb (Or.inr (Or.inr (Or.inl rfl)))) hat (fun t1 r1 a1 => nm_r pe_aa ?_)
  refine pe_tok rfl (by simp only [List.length_append, List.length_cons, List.length_nil]; omega) (pe_ok0 0) a1 (fun t2 r2 a2 => nm_r pe_aa ?_)
  refine pe_eff hL (by omega) hk (pe_wt hL (by omega) ?_)
  have hc : pe_f (pe_g L xs) (32 - (9 + 4 * k)) i = 0 ∨ pe_f (pe_g L xs) (32 - (9 + 4 * k)) i = 1 ∨ pe_f (pe_g L xs) (32 - (9 + 4 * k)) i = 2 := by omega
  rcases hc with z | z | z
  · rw [z] at el hlen ⊢
    have eW : pe_W 0 (nI (pe_w L xs i)) = [(0, nI (pe_w L xs i))] := rfl
    rw [eW] at el hlen
    rw [List.length_cons, List.length_nil] at hlen
    refine br_t rfl (pe_tok rfl (by simp only [List.length_append, List.length_cons, List.length_nil]; omega) (pe_ok0 _) a2 (fun t3 r3 a3 => nm_r pe_aa (nm_r (nI_1 i) (hf _ ?_ t3 r3 a3))))
    rw [el]
    simp only [List.append_assoc, List.cons_append, List.nil_append]
  · rw [z] at el hlen ⊢
    have eW : pe_W 1 (nI (pe_w L xs i)) = [(11, 2), (0, nI (pe_w L xs i)), (1, 2)] := rfl
    rw [eW] at el hlen
    rw [List.length_cons, List.length_cons, List.length_cons, List.length_nil] at hlen
    refine br_f (by decide) (br_t rfl (pe_tok rfl (by simp only [List.length_append, List.length_cons, List.length_nil]; omega) pe_ok112 a2 (fun t3 r3 a3 => nm_r pe_aa ?_)))
    refine pe_tok rfl (by simp only [List.length_append, List.length_cons, List.length_nil]; omega) (pe_ok0 _) a3 (fun t4 r4 a4 => nm_r pe_aa ?_)
    refine pe_tok rfl (by simp only [List.length_append, List.length_cons, List.length_nil]; omega) pe_ok12 a4 (fun t5 r5 a5 => nm_r pe_aa (nm_r (nI_1 i) (hf _ ?_ t5 r5 a5)))
    rw [el]
    simp only [List.append_assoc, List.cons_append, List.nil_append]
  · rw [z] at el hlen ⊢
    have eW : pe_W 2 (nI (pe_w L xs i)) = [(15, 0), (14, 1), (2, 0), (1, 1), (0, 1), (0, nI (pe_w L xs i))] := rfl
    rw [eW] at el hlen
    rw [List.length_cons, List.length_cons, List.length_cons, List.length_cons, List.length_cons, List.length_cons, List.length_nil] at hlen
    refine br_f (by decide) (br_f (by decide) (pe_tok rfl (by simp only [List.length_append, List.length_cons, List.length_nil]; omega) (pe_okb (Or.inr (Or.inr (Or.inr (Or.inr rfl))))) a2 (fun t3 r3 a3 => nm_r pe_aa ?_)))
    refine pe_tok rfl (by simp only [List.length_append, List.length_cons, List.length_nil]; omega) pe_ok141 a3 (fun t4 r4 a4 => nm_r pe_aa ?_)
    refine pe_tok rfl (by simp only [List.length_append, List.length_cons, List.length_nil]; omega) (pe_okb (Or.inl rfl)) a4 (fun t5 r5 a5 => nm_r pe_aa ?_)
    refine pe_tok rfl (by simp only [List.length_append, List.length_cons, List.length_nil]; omega) pe_ok11 a5 (fun t6 r6 a6 => nm_r pe_aa ?_)
    refine pe_tok rfl (by simp only [List.length_append, List.length_cons, List.length_nil]; omega) (pe_ok0 1) a6 (fun t7 r7 a7 => nm_r pe_aa ?_)
    refine pe_tok rfl (by simp only [List.length_append, List.length_cons, List.length_nil]; omega) (pe_ok0 _) a7 (fun t8 r8 a8 => nm_r pe_aa (nm_r (nI_1 i) (hf _ ?_ t8 r8 a8)))
    rw [el]
    simp only [List.append_assoc, List.cons_append, List.nil_append]
end
section
variable {L : Nat} {xs : Nat → Int32} {k mC mA c : Nat} {kc ks : Nat}
theorem pe_120 (hL : L ≤ 260) (hk1 : 1 ≤ k) (hk : k < 6) (hC : mC ≤ 6) (h1 : 1 ≤ mA) (hA : mA ≤ 16) (hc : c < 600) : ∀ (d i : Nat) (f_solutions f_failures f_lastKind f_lastValue f_lastChoices f_lastChoiceCount f_lastAllocCount f_steering f_steeringLength f_pathLeft f_failed f_choicesMade f_allocsMade f_visiting f_position f_environment f_resultIsClosure f_resultValue f_depth : Int32) (a_kinds a_args a_ends a_locationVariable a_locationOuter a_locationIsClosure a_locationValue a_closureToken a_closureEnvironment a_frameToken a_frameEnvironment a_frameHasFirst a_frameFirstIsClosure a_frameFirstValue : Nat → Int32), i + d = k → pe_L a_kinds a_args (pe_fl k (pe_f (pe_g L xs) (32 - (9 + 4 * k))) (pe_w L xs) i) → wL_law_120 (fun r => r = 1) L xs (nI k) (nI mC) (nI mA) (nI c) kc ks (d + 1) 1 (nI i) (nI mC) (nI mA) (nI (pe_fl k (pe_f (pe_g L xs) (32 - (9 + 4 * k))) (pe_w L xs) i).length) 0 f_solutions f_failures f_lastKind f_lastValue f_lastChoices f_lastChoiceCount f_lastAllocCount f_steering f_steeringLength f_pathLeft f_failed f_choicesMade f_allocsMade f_visiting f_position f_environment f_resultIsClosure f_resultValue f_depth a_kinds a_args a_ends a_locationVariable a_locationOuter a_locationIsClosure a_locationValue a_closureToken a_closureEnvironment a_frameToken a_frameEnvironment a_frameHasFirst a_frameFirstIsClosure a_frameFirstValue := by
  have hn32 := pe_n_le (g := pe_g L xs) (w := pe_w L xs) hk1 (by omega : k ≤ 5)
  intro d
  induction d with
  | zero =>
    intro i f_solutions f_failures f_lastKind f_lastValue f_lastChoices f_lastChoiceCount f_lastAllocCount f_steering f_steeringLength f_pathLeft f_failed f_choicesMade f_allocsMade f_visiting f_position f_environment f_resultIsClosure f_resultValue f_depth a_kinds a_args a_ends a_locationVariable a_locationOuter a_locationIsClosure a_locationValue a_closureToken a_closureEnvironment a_frameToken a_frameEnvironment a_frameHasFirst a_frameFirstIsClosure a_frameFirstValue hi hat
    have ei : i = k := by omega
    subst ei
    have hl : (pe_fl i (pe_f (pe_g L xs) (32 - (9 + 4 * i))) (pe_w L xs) i).length + 7 ≤ 32 := hn32
    rw [wL_law_120]
    refine br_t (Int32.le_refl _) ?_
    refine pe_tok rfl (by omega) (pe_okb (Or.inr (Or.inr (Or.inr (Or.inl rfl))))) hat (fun t1 r1 a1 => nm_r pe_aa ?_)
    refine pe_tok rfl (by simp only [List.length_append, List.length_cons, List.length_nil]; omega) (pe_okb (Or.inr (Or.inl rfl))) a1 (fun t2 r2 a2 => nm_r pe_aa ?_)
    refine pe_tok rfl (by simp only [List.length_append, List.length_cons, List.length_nil]; omega) pe_ok10 a2 (fun t3 r3 a3 => nm_r pe_aa ?_)
    refine pe_tok rfl (by simp only [List.length_append, List.length_cons, List.length_nil]; omega) (pe_ok0 _) a3 (fun t4 r4 a4 => nm_r pe_aa ?_)
    refine pe_tok rfl (by simp only [List.length_append, List.length_cons, List.length_nil]; omega) (pe_okb (Or.inl rfl)) a4 (fun t5 r5 a5 => nm_r pe_aa ?_)
    refine pe_tok rfl (by simp only [List.length_append, List.length_cons, List.length_nil]; omega) pe_ok10 a5 (fun t6 r6 a6 => nm_r pe_aa ?_)
    refine pe_tok rfl (by simp only [List.length_append, List.length_cons, List.length_nil]; omega) pe_ok11 a6 (fun t7 r7 a7 => nm_r pe_aa (br_f (by decide) ?_))
    have eE : pe_fl i (pe_f (pe_g L xs) (32 - (9 + 4 * i))) (pe_w L xs) i ++ [(10, 0)] ++ [(5, 0)] ++ [(1, 0)] ++ [(0, nI c)] ++ [(2, 0)] ++ [(1, 0)] ++ [(1, 1)] = pe_fl i (pe_f (pe_g L xs) (32 - (9 + 4 * i))) (pe_w L xs) i ++ pe_E c := by
      unfold pe_E
      simp only [List.append_assoc, List.cons_append, List.nil_append]
    have a8 := a7
    rw [eE] at a8
    have en : (pe_fl i (pe_f (pe_g L xs) (32 - (9 + 4 * i))) (pe_w L xs) i ++ pe_E c).length = pe_P i (pe_f (pe_g L xs) (32 - (9 + 4 * i))) (pe_w L xs) i + 7 := by
      rw [List.length_append]
      rfl
    rw [eE, en]
    have hK := a8.2
    rw [en] at hK
    refine pe_comp (n := pe_P i (pe_f (pe_g L xs) (32 - (9 + 4 * i))) (pe_w L xs) i + 7) (by omega) hn32 hK (pe_shape hk1 a8.1) (pe_bound hk1 a8.1) (fun u' hR => ?_)
    have HH : pe_H L xs i mC mA c (pe_P i (pe_f (pe_g L xs) (32 - (9 + 4 * i))) (pe_w L xs) i + 7) t7 r7 := ⟨hL, hk1, hk, hC, h1, hA, hc, hn32, rfl, a8.1, hK⟩
    have hR2 := hR
    obtain ⟨f_steering, f_steeringLength, f_pathLeft, f_failed, f_choicesMade, f_allocsMade, f_visiting, f_position, f_environment, f_resultIsClosure, f_resultValue, f_depth, a_ends, a_locationVariable, a_locationOuter, a_locationIsClosure, a_locationValue, a_closureToken, a_closureEnvironment, a_frameToken, a_frameEnvironment, a_frameHasFirst, a_frameFirstIsClosure, a_frameFirstValue, rfl, hx⟩ := hR
    exact br_t rfl (br_t rfl ⟨3, pe_452 HH _ _ _ _ _ _ _ _ _ _ _ _ _ _ _ _ _ _ _ _ _ _ _ _ _ _ _ _ _ _ _ _ _ _ _ _ _ hR2⟩)
  | succ d ih =>
    intro i f_solutions f_failures f_lastKind f_lastValue f_lastChoices f_lastChoiceCount f_lastAllocCount f_steering f_steeringLength f_pathLeft f_failed f_choicesMade f_allocsMade f_visiting f_position f_environment f_resultIsClosure f_resultValue f_depth a_kinds a_args a_ends a_locationVariable a_locationOuter a_locationIsClosure a_locationValue a_closureToken a_closureEnvironment a_frameToken a_frameEnvironment a_frameHasFirst a_frameFirstIsClosure a_frameFirstValue hi hat
    have hPs := pe_P_s k (pe_f (pe_g L xs) (32 - (9 + 4 * k))) (pe_w L xs) i
    have hPk := pe_P_le (k := k) (f := pe_f (pe_g L xs) (32 - (9 + 4 * k))) (w := pe_w L xs) (k - (i + 1)) (i + 1)
    have ek : i + 1 + (k - (i + 1)) = k := by omega
    rw [ek] at hPk
    have hlen : (pe_fl k (pe_f (pe_g L xs) (32 - (9 + 4 * k))) (pe_w L xs) (i + 1)).length ≤ 25 := by
      have : pe_P k (pe_f (pe_g L xs) (32 - (9 + 4 * k))) (pe_w L xs) (i + 1) ≤ 25 := by omega
      exact this
    have ep : nI k - 1 = nI (k - 1) := am_sub (b := 1) hk1
    rw [wL_law_120]
    refine br_f (nI_ge (by omega) (by omega)) ?_
    by_cases q : i < k - 1
    · have el : pe_fl k (pe_f (pe_g L xs) (32 - (9 + 4 * k))) (pe_w L xs) (i + 1) = (pe_fl k (pe_f (pe_g L xs) (32 - (9 + 4 * k))) (pe_w L xs) i ++ [(2, 0)]) ++ (8, 0) :: (0, 0) :: pe_W (pe_f (pe_g L xs) (32 - (9 + 4 * k)) i) (nI (pe_w L xs i)) := by
        show pe_fl k (pe_f (pe_g L xs) (32 - (9 + 4 * k))) (pe_w L xs) i ++ pe_T k (pe_f (pe_g L xs) (32 - (9 + 4 * k))) (pe_w L xs) i = _
        rw [pe_T_in q, List.append_assoc]
        rfl
      have hl2 : (pe_fl k (pe_f (pe_g L xs) (32 - (9 + 4 * k))) (pe_w L xs) i).length < 32 := by
        rw [el, List.length_append, List.length_append] at hlen
        omega
      refine br_f (by rw [ep]; exact nI_ge q (by omega)) (pe_tok rfl hl2 (pe_okb (Or.inl rfl)) hat (fun t1 r1 a1 => nm_r pe_aa ?_))
      exact pe_146 hL hk (by omega) el (by omega) a1 (fun t2 r2 a2 => ih (i + 1) _ _ _ _ _ _ _ _ _ _ _ _ _ _ _ _ _ _ _ _ _ _ _ _ _ _ _ _ _ _ _ _ _ (by omega) a2)
    · have el : pe_fl k (pe_f (pe_g L xs) (32 - (9 + 4 * k))) (pe_w L xs) (i + 1) = pe_fl k (pe_f (pe_g L xs) (32 - (9 + 4 * k))) (pe_w L xs) i ++ (8, 0) :: (0, 0) :: pe_W (pe_f (pe_g L xs) (32 - (9 + 4 * k)) i) (nI (pe_w L xs i)) := by
        show pe_fl k (pe_f (pe_g L xs) (32 - (9 + 4 * k))) (pe_w L xs) i ++ pe_T k (pe_f (pe_g L xs) (32 - (9 + 4 * k))) (pe_w L xs) i = _
        rw [pe_T_last q]
      exact br_t (by rw [ep]; exact nI_le (by omega) (by omega)) (pe_146 hL hk (by omega) el (by omega) hat (fun t2 r2 a2 => ih (i + 1) _ _ _ _ _ _ _ _ _ _ _ _ _ _ _ _ _ _ _ _ _ _ _ _ _ _ _ _ _ _ _ _ _ (by omega) a2))
end
def pe_clm (m g : Nat) : Nat := if m < 1 then 1 else if g < m then g else m
theorem pe_clm_b {m g : Nat} (hg : 1 ≤ g) : 1 ≤ pe_clm m g ∧ pe_clm m g ≤ g := by
  unfold pe_clm
  by_cases a : m < 1
  · rw [if_pos a]; omega
  · rw [if_neg a]
    by_cases b : g < m
    · rw [if_pos b]; omega
    · rw [if_neg b]; omega
theorem pe_clL {post : Int32 → Prop} {m g : Nat} {x : Int32} (ex : x = nI g) (hm : m < 1000) (hg : g < 1000) (h : post (nI (pe_clm m g))) : wpL_clamp post () (nI m) 1 x := by
  subst ex
  unfold pe_clm at h
  by_cases a : m < 1
  · rw [if_pos a] at h
    exact br_f (nI_ge (b := 1) a (by decide)) h
  · rw [if_neg a] at h
    refine br_t (nI_le (a := 1) (by omega) (by omega)) ?_
    by_cases b : g < m
    · rw [if_pos b] at h
      exact br_f (nI_ge b (by omega)) h
    · rw [if_neg b] at h
      exact br_t (nI_le (by omega) (by omega)) h
theorem pe_clX {post : Int32 → Prop} {m g : Nat} {x : Int32} (ex : x = nI g) (hm : m < 1000) (hg : g < 1000) (h : post (nI (pe_clm m g))) : wpX_clamp post () (nI m) x := by
  subst ex
  unfold pe_clm at h
  by_cases a : m < 1
  · rw [if_pos a] at h
    exact br_f (nI_ge (b := 1) a (by decide)) h
  · rw [if_neg a] at h
    refine br_t (nI_le (a := 1) (by omega) (by omega)) ?_
    by_cases b : g < m
    · rw [if_pos b] at h
      exact br_f (nI_ge b (by omega)) h
    · rw [if_neg b] at h
      exact br_t (nI_le (by omega) (by omega)) h
theorem pe_L0 : pe_L (fun _ => 0) (fun _ => 0) [] := ⟨True.intro, fun i hi => absurd hi (Nat.not_lt_zero i)⟩
theorem i_vc (xs : Nat → Int32) (L : Nat) (hL : L ≤ 260) : wpL_law (fun r => r = 1) L xs := by
  have m0 := pe_mn_lt (d := 5) (x := pe_c L xs 0) (D := 5) (by decide) (by decide)
  have m1 := pe_mn_lt (d := 8) (x := pe_c L xs 1) (D := 8) (by decide) (by decide)
  have m2 := pe_mn_lt (d := 18) (x := pe_c L xs 2) (D := 18) (by decide) (by decide)
  have m3 := pe_mn_lt (d := 600) (x := pe_c L xs 3) (D := 600) (by decide) (by decide)
  have ek : (1 : Int32) + nI (pe_mn 5 (pe_c L xs 0)) = nI (1 + pe_mn 5 (pe_c L xs 0)) := nI_add 1 _
  obtain ⟨c1, c2⟩ := pe_clm_b (m := pe_mn 8 (pe_c L xs 1)) (g := 6) (by decide)
  obtain ⟨c3, c4⟩ := pe_clm_b (m := pe_mn 18 (pe_c L xs 2)) (g := 16) (by decide)
  unfold wpL_law
  refine pe_cell (i := 0) hL (by omega) rfl (pe_mod' (by decide) (nm_r ek ?_))
  refine pe_cell (i := 1) hL (by omega) rfl (pe_mod' (by decide) ?_)
  refine pe_cell (i := 2) hL (by omega) rfl (pe_mod' (by decide) ?_)
  refine pe_clL (g := 6) rfl (by omega) (by decide) (pe_clL (g := 16) rfl (by omega) (by decide) ?_)
  refine pe_cell (i := 3) hL (by omega) rfl (pe_mod' (by decide) ⟨14, 2912, by omega, by omega, ?_⟩)
  refine ⟨by decide, by decide, by decide, by decide, by decide, by decide, by decide, by decide, by decide, by decide, by decide, by decide, by decide, by decide, by decide, by decide, by decide, by decide, by decide, by decide, by decide, by decide, by decide, by decide, by decide, by decide, by decide, by decide, pe_clX (g := 6) rfl (by omega) (by decide) (pe_clX (g := 16) rfl (by omega) (by decide) ?_)⟩
  refine pe_tok (l := []) rfl (by decide) pe_ok111 pe_L0 (fun t1 r1 a1 => nm_r pe_aa ?_)
  refine pe_tok rfl (by decide) (pe_ok0 0) a1 (fun t2 r2 a2 => nm_r pe_aa ?_)
  refine pe_tok rfl (by decide) pe_ok110 a2 (fun t3 r3 a3 => nm_r pe_aa ⟨1 + pe_mn 5 (pe_c L xs 0) + 1, ?_⟩)
  exact pe_120 hL (by omega) (by omega) c2 c3 c4 m3 (1 + pe_mn 5 (pe_c L xs 0)) 0 _ _ _ _ _ _ _ _ _ _ _ _ _ _ _ _ _ _ _ _ _ _ _ _ _ _ _ _ _ _ _ _ _ (by omega) a3
