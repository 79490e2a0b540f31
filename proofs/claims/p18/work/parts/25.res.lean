/-! p18: pathResult -/
theorem pe_bit32 : ∀ k, k < 6 → ∀ i, i < k → ∀ v, v < 32 → (nI v >>> (((nI k - 1) - nI i) &&& 31)) &&& 1 = nI (v / 2 ^ (k - 1 - i) % 2) := by decide +kernel
theorem pe_bitv {k i v : Nat} (hk : k < 6) (hi : i < k) (hv : v < 32) : (nI v >>> (((nI k - 1) - nI i) &&& 31)) &&& 1 = nI (am_b1 (pe_b k v i)) := by
  rw [pe_bit32 k hk i hi v hv, pe_b_i hi rfl]
theorem pe_M1_m {mC mA f w i A c : Nat} {x : Bool} (h : mC ≤ i) : pe_M1 mC mA f w x i A c = (false, i, A, c, 0) := if_pos h
theorem pe_M1_0 {mC mA f w i A c : Nat} (h : ¬ mC ≤ i) : pe_M1 mC mA f w false i A c = (true, i + 1, A, c, 0) := by
  unfold pe_M1
  rw [if_neg h, if_neg (by decide)]
theorem pe_M1_1 {mC mA f w i A c : Nat} (h : ¬ mC ≤ i) (hf : f = 1) (ha : mA ≤ A) : pe_M1 mC mA f w true i A c = (false, i + 1, A, c, 0) := by
  unfold pe_M1
  rw [if_neg h, if_pos rfl, if_neg (by omega), if_pos hf, if_pos ha]
theorem pe_M1_1' {mC mA f w i A c : Nat} (h : ¬ mC ≤ i) (hf : f = 1) (ha : ¬ mA ≤ A) : pe_M1 mC mA f w true i A c = (true, i + 1, A + 1, c, w) := by
  unfold pe_M1
  rw [if_neg h, if_pos rfl, if_neg (by omega), if_pos hf, if_neg ha]
theorem pe_M1_z {mC mA f w i A c : Nat} (h : ¬ mC ≤ i) (hf : f = 0) : pe_M1 mC mA f w true i A c = (true, i + 1, A, c, w) := by
  unfold pe_M1
  rw [if_neg h, if_pos rfl, if_pos hf]
theorem pe_M1_2 {mC mA f w i A c : Nat} (h : ¬ mC ≤ i) (hf : ¬ f = 0) (hf1 : ¬ f = 1) : pe_M1 mC mA f w true i A c = (true, i + 1, A, c + 1, w) := by
  unfold pe_M1
  rw [if_neg h, if_pos rfl, if_neg hf, if_neg hf1]
theorem pe_M_t {mC mA : Nat} {f w : Nat → Nat} {b : Nat → Bool} {r i A c t i' A' c' d : Nat} (e : pe_M1 mC mA (f i) (w i) (b i) i A c = (true, i', A', c', d)) : pe_M mC mA f w b (r + 1) i A c t = pe_M mC mA f w b r (i + 1) A' c' (t + d) := by
  rw [pe_M_s, e]
  rfl
theorem pe_M_f {mC mA : Nat} {f w : Nat → Nat} {b : Nat → Bool} {r i A c t i' A' c' d : Nat} (e : pe_M1 mC mA (f i) (w i) (b i) i A c = (false, i', A', c', d)) : pe_M mC mA f w b (r + 1) i A c t = (false, i', A, c, t) := by
  rw [pe_M_s, e]
  rfl
/-- how far a result may go -/
theorem pe_M_b {mC mA k : Nat} {f w : Nat → Nat} {b : Nat → Bool} (hw : ∀ i, w i ≤ 112) : ∀ r i A c t : Nat, i + r = k → A ≤ mA → c ≤ i → t ≤ 112 * i → (pe_M mC mA f w b r i A c t).2.1 ≤ k ∧ (pe_M mC mA f w b r i A c t).2.2.1 ≤ mA ∧ (pe_M mC mA f w b r i A c t).2.2.2.1 ≤ k ∧ (pe_M mC mA f w b r i A c t).2.2.2.2 ≤ 112 * k := by
  intro r
  induction r with
  | zero =>
    intro i A c t hi hA hc ht
    have e : i = k := by omega
    rw [← e]
    exact ⟨Nat.le_refl _, hA, hc, ht⟩
  | succ r ih =>
    intro i A c t hi hA hc ht
    have hwi := hw i
    by_cases m : mC ≤ i
    · rw [pe_M_f (pe_M1_m m)]
      exact ⟨by show i ≤ k; omega, hA, by show c ≤ k; omega, by show t ≤ 112 * k; omega⟩
    cases hb : b i with
    | false =>
      rw [pe_M_t (by rw [hb]; exact pe_M1_0 m)]
      exact ih _ _ _ _ (by omega) hA (by omega) (by omega)
    | true =>
      by_cases f1 : f i = 1
      · by_cases ma : mA ≤ A
        · rw [pe_M_f (by rw [hb]; exact pe_M1_1 m f1 ma)]
          exact ⟨by show i + 1 ≤ k; omega, hA, by show c ≤ k; omega, by show t ≤ 112 * k; omega⟩
        · rw [pe_M_t (by rw [hb]; exact pe_M1_1' m f1 ma)]
          exact ih _ _ _ _ (by omega) (by omega) (by omega) (by omega)
      · by_cases f0 : f i = 0
        · rw [pe_M_t (by rw [hb]; exact pe_M1_z m f0)]
          exact ih _ _ _ _ (by omega) hA (by omega) (by omega)
        · rw [pe_M_t (by rw [hb]; exact pe_M1_2 m f0 f1)]
          exact ih _ _ _ _ (by omega) hA (by omega) (by omega)
def pe_enc (mA k c : Nat) (R : Bool × Nat × Nat × Nat × Nat) : Int64 := if R.1 = true then (if mA ≤ R.2.2.1 then pe_ff k else if R.2.2.2.2 < c then pe_ok k (R.2.2.1 + 1) (R.2.2.2.2 + R.2.2.2.1) else pe_ff k) else pe_ff R.2.1
theorem pe_96 {post : Int64 → Prop} {L : Nat} {xs : Nat → Int32} {J : Int32 → Int32 → Int32 → Int32 → Int32 → Prop} {i t : Nat} {x1 x2 x3 x4 x5 x6 x7 x9 : Int32} (hL : L ≤ 260) (hi : i < 8) (h : J x6 x7 (nI (t + pe_w L xs i)) x9 (nI (i + 1))) : wL_pathResult_96 post L xs J x1 x2 x3 x4 x5 x6 x7 (nI t) x9 (nI i) := by
  unfold wL_pathResult_96
  exact pe_wt hL hi (nm_r (nI_add _ _) (nm_r (nI_1 i) h))
theorem pe_87 {post : Int64 → Prop} {L : Nat} {xs : Nat → Int32} {J : Int32 → Int32 → Int32 → Int32 → Int32 → Prop} {i t f c c' : Nat} {x1 x2 x3 x4 x5 x6 x9 : Int32} (hL : L ≤ 260) (hi : i < 8) (hf : f < 3) (h2 : f = 2 → c' = c + 1) (h1 : ¬ f = 2 → c' = c) (h : J x6 (nI c') (nI (t + pe_w L xs i)) x9 (nI (i + 1))) : wL_pathResult_87 post L xs J x1 x2 x3 x4 x5 x6 (nI c) (nI t) x9 (nI i) (nI f) := by
  by_cases q : f = 2
  · rw [h2 q] at h
    subst q
    exact br_t rfl (nm_r (nI_1 c) (pe_96 hL hi h))
  · rw [h1 q] at h
    exact br_f (fun z => q ((nI_eq (b := 2) (by omega) (by omega)).mp z)) (pe_96 hL hi h)
theorem pe_f_lt (L : Nat) (xs : Nat → Int32) (sp i : Nat) : pe_f (pe_g L xs) sp i < 3 := by
  have h := pe_g_lt L xs i
  unfold pe_f
  by_cases q : sp < pe_u (pe_g L xs) sp i + pe_ex (pe_g L xs i)
  · rw [if_pos q]; omega
  · rw [if_neg q]; exact h
theorem pe_path0 {post : Int64 → Prop} {L : Nat} {xs : Nat → Int32} {k mC mA c v : Nat} (hL : L ≤ 260) (hk : k < 6) (hC : mC ≤ 6) (hA : mA ≤ 16) (hc : c < 1000) (hv : v < 32) :
    ∀ r i A cn t : Nat, i + r = k → i ≤ mC → A ≤ mA → cn ≤ i → t ≤ 112 * i → post (pe_enc mA k c (pe_M mC mA (pe_f (pe_g L xs) (32 - (9 + 4 * k))) (pe_w L xs) (pe_b k v) r i A cn t)) → wL_pathResult_15 post L xs (nI k) (nI mC) (nI mA) (nI c) (nI v) (r + 1) (nI A) (nI cn) (nI t) (nI i) (nI i) := by
  intro r
  induction r with
  | zero =>
    intro i A cn t hi him hAm hcn ht h
    have e : i = k := by omega
    subst e
    have e0 : pe_M mC mA (pe_f (pe_g L xs) (32 - (9 + 4 * i))) (pe_w L xs) (pe_b i v) 0 i A cn t = (true, i, A, cn, t) := rfl
    rw [e0] at h
    unfold pe_enc at h
    rw [if_pos rfl] at h
    rw [wL_pathResult_15]
    refine br_t (Int32.le_refl _) (br_c (fun q => ?_) (fun q => nm_r (nI_1 A) (br_c (fun z => ?_) (fun z => ?_))))
    · have q' := (nI_eq (by omega) (by omega)).mp q
      rw [if_pos (by show mA ≤ A; omega)] at h
      exact h
    · have q' : ¬ mA ≤ A := fun y => q (by rw [show A = mA by omega])
      have z' : t < c := (nI_ltI (by omega) (by omega)).mp z
      rw [if_neg q', if_pos z'] at h
      rw [nI_add]
      exact h
    · have q' : ¬ mA ≤ A := fun y => q (by rw [show A = mA by omega])
      have z' : ¬ t < c := fun y => z (nI_lt y (by omega))
      rw [if_neg q', if_neg z'] at h
      exact h
  | succ r ih =>
    intro i A cn t hi him hAm hcn ht h
    rw [wL_pathResult_15]
    refine br_f (nI_ge (by omega) (by omega)) ?_
    by_cases m : mC ≤ i
    · have em : i = mC := by omega
      rw [pe_M_f (pe_M1_m m)] at h
      unfold pe_enc at h
      rw [if_neg pe_ft] at h
      exact br_t (by rw [em]) h
    refine br_f (fun q => m (by rw [(nI_eq (by omega) (by omega)).mp q]; exact Nat.le_refl _)) (nm_r (nI_1 i) (nm_r (pe_bitv hk (by omega) hv) ?_))
    cases hb : pe_b k v i with
    | false =>
      rw [pe_M_t (by rw [hb]; exact pe_M1_0 m)] at h
      exact br_f (by decide) (nm_r (nI_1 i) (ih (i + 1) A cn t (by omega) (by omega) hAm (by omega) (by omega) h))
    | true =>
      have hw := pe_w_lt L xs i
      have hf := pe_f_lt L xs (32 - (9 + 4 * k)) i
      refine br_t rfl (pe_eff hL (by omega) hk ?_)
      by_cases f1 : pe_f (pe_g L xs) (32 - (9 + 4 * k)) i = 1
      · refine br_t (by rw [f1]; rfl) ?_
        by_cases ma : mA ≤ A
        · rw [pe_M_f (by rw [hb]; exact pe_M1_1 m f1 ma)] at h
          unfold pe_enc at h
          rw [if_neg pe_ft] at h
          have ea : A = mA := by omega
          refine br_t (by rw [ea]) ?_
          rw [nI_1]
          exact h
        · rw [pe_M_t (by rw [hb]; exact pe_M1_1' m f1 ma)] at h
          exact br_f (fun q => ma (by rw [(nI_eq (by omega) (by omega)).mp q]; exact Nat.le_refl _)) (nm_r (nI_1 A) (pe_87 hL (by omega) hf (fun z => absurd (f1.symm.trans z) (by decide)) (fun _ => rfl) (ih (i + 1) (A + 1) cn (t + pe_w L xs i) (by omega) (by omega) (by omega) (by omega) (by omega) h)))
      · refine br_f (fun q => f1 ((nI_eq (b := 1) (by omega) (by omega)).mp q)) ?_
        by_cases f0 : pe_f (pe_g L xs) (32 - (9 + 4 * k)) i = 0
        · rw [pe_M_t (by rw [hb]; exact pe_M1_z m f0)] at h
          exact pe_87 hL (by omega) hf (fun z => absurd (f0.symm.trans z) (by decide)) (fun _ => rfl) (ih (i + 1) A cn (t + pe_w L xs i) (by omega) (by omega) hAm (by omega) (by omega) h)
        · rw [pe_M_t (by rw [hb]; exact pe_M1_2 m f0 f1)] at h
          exact pe_87 (c' := cn + 1) hL (by omega) hf (fun _ => rfl) (fun z => absurd (show pe_f (pe_g L xs) (32 - (9 + 4 * k)) i = 2 by omega) z) (ih (i + 1) A (cn + 1) (t + pe_w L xs i) (by omega) (by omega) hAm (by omega) (by omega) h)
theorem pe_path {post : Int64 → Prop} {L : Nat} {xs : Nat → Int32} {k mC mA c v : Nat} (hL : L ≤ 260) (hk : k < 6) (hC : mC ≤ 6) (h1 : 1 ≤ mA) (hA : mA ≤ 16) (hc : c < 1000) (hv : v < 32) (h : post (pe_enc mA k c (pe_M mC mA (pe_f (pe_g L xs) (32 - (9 + 4 * k))) (pe_w L xs) (pe_b k v) k 0 1 0 0))) : wpL_pathResult post L xs () (nI k) (nI mC) (nI mA) (nI c) (nI v) :=
  ⟨k + 1, pe_path0 hL hk hC hA hc hv k 0 1 0 0 (by omega) (by omega) h1 (by omega) (by omega) h⟩
