/-! p18: the law's own numbers -/
def pe_c (L : Nat) (xs : Nat → Int32) (i : Nat) : Int32 := if i < L then xs i else 0
theorem pe_cell {post : Int32 → Prop} {L : Nat} {xs : Nat → Int32} {i : Nat} {x : Int32} (hL : L ≤ 260) (hi : i < 1000) (ex : x = nI i) (h : post (pe_c L xs i)) : wpL_cell post L xs () x := by
  rw [ex]
  unfold pe_c at h
  have hc : (nI i).toNatClampNeg = i := nI_clamp (by omega)
  by_cases q : i < L
  · rw [if_pos q] at h
    exact br_f (nI_ge q (by omega)) ⟨vp_in_nI q (by omega), by rw [hc]; exact h⟩
  · rw [if_neg q] at h
    exact br_t (nI_le (by omega) (by omega)) h
def pe_mn (d x : Int32) : Nat := (fmv x d).toNatClampNeg
theorem pe_mn_e {d x : Int32} (hd : 0 < d.toInt) : fmv x d = nI (pe_mn d x) ∧ (pe_mn d x : Int) < d.toInt := by
  obtain ⟨c, e, hc⟩ := fmv_nat (a := x) hd
  have hb := Int32.toInt_lt d
  have e2 : pe_mn d x = c := by
    unfold pe_mn
    rw [e]
    exact nI_clamp (by omega)
  rw [e2]
  exact ⟨e, hc⟩
theorem pe_mn_lt {d x : Int32} {D : Nat} (hD : d.toInt = (D : Int)) (h0 : 0 < D) : pe_mn d x < D := by
  have h := (pe_mn_e (d := d) (x := x) (by rw [hD]; omega)).2
  rw [hD] at h
  omega
theorem pe_mod' {post : Int32 → Prop} {x d : Int32} (hd : 0 < d.toInt) (h : post (nI (pe_mn d x))) : wpL_mod post () x d := by
  have e0 : ¬ d = 0 := by
    intro z
    rw [z] at hd
    exact absurd hd (by decide)
  rw [← (pe_mn_e (x := x) hd).1] at h
  refine ⟨e0, nm_e (br_c (fun q => ?_) (fun q => ?_))⟩
  · have e : fmv x d = x - x / d * d := if_pos q
    rw [e] at h
    exact h
  · have e : fmv x d = x - x / d * d + d := if_neg q
    rw [e] at h
    exact h
def pe_g (L : Nat) (xs : Nat → Int32) (j : Nat) : Nat := pe_mn 3 (pe_c L xs (4 + 2 * j))
def pe_w (L : Nat) (xs : Nat → Int32) (i : Nat) : Nat := 16 * pe_mn 8 (pe_c L xs (5 + 2 * i))
theorem pe_g_lt (L : Nat) (xs : Nat → Int32) (j : Nat) : pe_g L xs j < 3 := pe_mn_lt (D := 3) (by decide) (by decide)
theorem pe_w_lt (L : Nat) (xs : Nat → Int32) (i : Nat) : pe_w L xs i ≤ 112 := by
  have h := pe_mn_lt (d := 8) (x := pe_c L xs (5 + 2 * i)) (D := 8) (by decide) (by decide)
  unfold pe_w
  omega
theorem pe_i4 : ∀ j, j < 8 → (4 : Int32) + 2 * nI j = nI (4 + 2 * j) := by decide +kernel
theorem pe_i5 : ∀ j, j < 8 → (5 : Int32) + 2 * nI j = nI (5 + 2 * j) := by decide +kernel
theorem pe_i16 : ∀ j, j < 8 → (16 : Int32) * nI j = nI (16 * j) := by decide +kernel
theorem pe_sp : ∀ k, k < 6 → (32 : Int32) - (9 + 4 * nI k) = nI (32 - (9 + 4 * k)) := by decide +kernel
theorem pe_wt {post : Int32 → Prop} {L : Nat} {xs : Nat → Int32} {i : Nat} (hL : L ≤ 260) (hi : i < 8) (h : post (nI (pe_w L xs i))) : wpL_weight post L xs () (nI i) := by
  unfold wpL_weight
  refine pe_cell (i := 5 + 2 * i) hL (by omega) (pe_i5 i hi) (pe_mod' (by decide) ?_)
  have hm := pe_mn_lt (d := 8) (x := pe_c L xs (5 + 2 * i)) (D := 8) (by decide) (by decide)
  unfold pe_w at h
  rw [← pe_i16 _ hm] at h
  exact h
theorem pe_75 {post : Int32 → Prop} {L : Nat} {xs : Nat → Int32} {J : Int32 → Int32 → Prop} {i j u e : Nat} {x3 x6 : Int32} (hi : i < 8) (hj : j < 8) (h1 : j = i → post x6) (h2 : ¬ j = i → J (nI (u + e)) (nI (j + 1))) : wL_eff_75 post L xs J (nI i) x3 (nI u) (nI j) x6 (nI e) :=
  nm_r (nI_add u e) (br_c (fun q => h1 ((nI_eq (by omega) (by omega)).mp q)) (fun q => nm_r (nI_1 j) (h2 (fun z => q (by rw [z])))))
theorem pe_58 {post : Int32 → Prop} {L : Nat} {xs : Nat → Int32} {J : Int32 → Int32 → Prop} {g : Nat → Nat} {i j sp : Nat} (hi : i < 8) (hj : j < 8) (hsp : sp < 1000) (he : pe_ex (g j) < 1000) (h1 : j = i → post (nI (pe_f g sp i))) (h2 : ¬ j = i → J (nI (pe_u g sp (j + 1))) (nI (j + 1))) : wL_eff_58 post L xs J (nI i) (nI sp) (nI (pe_u g sp j)) (nI j) (nI (g j)) (nI (pe_ex (g j))) := by
  have hu := pe_u_le g sp j
  have es : nI sp - nI (pe_u g sp j) = nI (sp - pe_u g sp j) := am_sub hu
  rw [pe_u_s] at h2
  by_cases q : sp < pe_u g sp j + pe_ex (g j)
  · have ef : pe_f g sp j = 0 := if_pos q
    rw [ef] at h2
    refine br_f (by rw [es]; exact nI_ge (by omega) (by omega)) (pe_75 (e := 0) hi hj (fun z => ?_) h2)
    rw [← z, ef] at h1
    exact h1 rfl
  · have ef : pe_f g sp j = g j := if_neg q
    rw [ef] at h2
    refine br_t (by rw [es]; exact nI_le (by omega) (by omega)) (pe_75 hi hj (fun z => ?_) h2)
    rw [← z, ef] at h1
    exact h1 rfl
theorem pe_effS {post : Int32 → Prop} {L : Nat} {xs : Nat → Int32} {i j sp n : Nat} (hL : L ≤ 260) (hi : i < 8) (hj : j ≤ i) (hsp : sp < 1000) (h1 : j = i → post (nI (pe_f (pe_g L xs) sp i))) (h2 : ¬ j = i → wL_eff_16 post L xs (nI i) (nI sp) n (nI (pe_u (pe_g L xs) sp (j + 1))) (nI (j + 1))) : wL_eff_16 post L xs (nI i) (nI sp) (n + 1) (nI (pe_u (pe_g L xs) sp j)) (nI j) := by
  have hg := pe_g_lt L xs j
  have he : pe_ex (pe_g L xs j) < 1000 := by
    unfold pe_ex
    by_cases a : pe_g L xs j = 0
    · rw [if_pos a]; omega
    · rw [if_neg a]
      by_cases b : pe_g L xs j = 1
      · rw [if_pos b]; omega
      · rw [if_neg b]; omega
  have key := pe_58 (post := post) (L := L) (xs := xs) (J := wL_eff_16 post L xs (nI i) (nI sp) n) (g := pe_g L xs) (i := i) (j := j) hi (by omega) hsp he h1 h2
  rw [wL_eff_16]
  refine br_f (nI_nlt hj (by omega)) (pe_cell (i := 4 + 2 * j) hL (by omega) (pe_i4 j (by omega)) (pe_mod' (by decide) ?_))
  have hc : pe_g L xs j = 0 ∨ pe_g L xs j = 1 ∨ pe_g L xs j = 2 := by omega
  have eg : pe_mn 3 (pe_c L xs (4 + 2 * j)) = pe_g L xs j := rfl
  rw [eg]
  rcases hc with z | z | z
  · rw [z] at key ⊢
    exact br_t rfl key
  · rw [z] at key ⊢
    exact br_f (by decide) (br_t rfl key)
  · rw [z] at key ⊢
    exact br_f (by decide) (br_f (by decide) key)
theorem pe_eff0 {post : Int32 → Prop} {L : Nat} {xs : Nat → Int32} {i sp : Nat} (hL : L ≤ 260) (hi : i < 8) (hsp : sp < 1000) (h : post (nI (pe_f (pe_g L xs) sp i))) : ∀ d j : Nat, j + d = i → wL_eff_16 post L xs (nI i) (nI sp) (d + 1) (nI (pe_u (pe_g L xs) sp j)) (nI j) := by
  intro d
  induction d with
  | zero => intro j hj; exact pe_effS hL hi (by omega) hsp (fun _ => h) (fun z => absurd (by omega) z)
  | succ d ih => intro j hj; exact pe_effS hL hi (by omega) hsp (fun z => absurd z (by omega)) (fun _ => ih (j + 1) (by omega))
theorem pe_eff {post : Int32 → Prop} {L : Nat} {xs : Nat → Int32} {i k : Nat} (hL : L ≤ 260) (hi : i < 8) (hk : k < 6) (h : post (nI (pe_f (pe_g L xs) (32 - (9 + 4 * k)) i))) : wpL_eff post L xs () (nI i) (nI k) :=
  nm_r (pe_sp k hk) ⟨i + 1, pe_eff0 hL hi (by omega) h i 0 (by omega)⟩
/-! a path's result, packed into a long -/
def pe_ff (len : Nat) : Int64 := 268435456 ||| ((nI len).toInt64 <<< ((24 : Int32).toInt64 &&& 63))
def pe_ok (k A x : Nat) : Int64 := (((nI k).toInt64 <<< ((24 : Int32).toInt64 &&& 63)) ||| ((nI A).toInt64 <<< ((16 : Int32).toInt64 &&& 63))) ||| ((nI x).toInt64)
theorem pe_ff_len : ∀ l, l < 6 → ((pe_ff l >>> ((24 : Int32).toInt64 &&& 63)) &&& 15).toInt32 = nI l := by decide +kernel
theorem pe_ff_bit : ∀ l, l < 6 → (pe_ff l >>> ((28 : Int32).toInt64 &&& 63)) &&& 1 = 1 := by decide +kernel
theorem pe_ao (a b m : Int64) : (a ||| b) &&& m = (a &&& m) ||| (b &&& m) := Int64.toBitVec_inj.mp BitVec.and_or_distrib_right
theorem pe_k24 : ∀ k, k < 6 → (((nI k).toInt64 <<< ((24 : Int32).toInt64 &&& 63)) >>> ((24 : Int32).toInt64 &&& 63)) &&& 15 = lN k := by decide +kernel
theorem pe_k28 : ∀ k, k < 6 → (((nI k).toInt64 <<< ((24 : Int32).toInt64 &&& 63)) >>> ((28 : Int32).toInt64 &&& 63)) &&& 1 = 0 := by decide +kernel
theorem pe_k16 : ∀ k, k < 6 → (((nI k).toInt64 <<< ((24 : Int32).toInt64 &&& 63)) >>> ((16 : Int32).toInt64 &&& 63)) &&& 255 = 0 := by decide +kernel
theorem pe_k0 : ∀ k, k < 6 → ((nI k).toInt64 <<< ((24 : Int32).toInt64 &&& 63)) &&& 65535 = 0 := by decide +kernel
theorem pe_a24 : ∀ k, k < 18 → (((nI k).toInt64 <<< ((16 : Int32).toInt64 &&& 63)) >>> ((24 : Int32).toInt64 &&& 63)) &&& 15 = 0 := by decide +kernel
theorem pe_a28 : ∀ k, k < 18 → (((nI k).toInt64 <<< ((16 : Int32).toInt64 &&& 63)) >>> ((28 : Int32).toInt64 &&& 63)) &&& 1 = 0 := by decide +kernel
theorem pe_a16 : ∀ k, k < 18 → (((nI k).toInt64 <<< ((16 : Int32).toInt64 &&& 63)) >>> ((16 : Int32).toInt64 &&& 63)) &&& 255 = lN k := by decide +kernel
theorem pe_a0 : ∀ k, k < 18 → ((nI k).toInt64 <<< ((16 : Int32).toInt64 &&& 63)) &&& 65535 = 0 := by decide +kernel
theorem pe_v24 : ∀ k, k < 600 → ((nI k).toInt64 >>> ((24 : Int32).toInt64 &&& 63)) &&& 15 = 0 := by decide +kernel
theorem pe_v28 : ∀ k, k < 600 → ((nI k).toInt64 >>> ((28 : Int32).toInt64 &&& 63)) &&& 1 = 0 := by decide +kernel
theorem pe_v16 : ∀ k, k < 600 → ((nI k).toInt64 >>> ((16 : Int32).toInt64 &&& 63)) &&& 255 = 0 := by decide +kernel
theorem pe_v00 : ∀ k, k < 600 → (nI k).toInt64 &&& 65535 = lN k := by decide +kernel
theorem pe_ok_len {k A x : Nat} (hk : k < 6) (hA : A < 18) (hx : x < 600) : ((pe_ok k A x >>> ((24 : Int32).toInt64 &&& 63)) &&& 15).toInt32 = nI k := by
  unfold pe_ok
  rw [Int64.shiftRight_or, Int64.shiftRight_or, pe_ao, pe_ao, pe_k24 k hk, pe_a24 A hA, pe_v24 x hx, Int64.or_zero, Int64.or_zero, lN_i]
theorem pe_ok_bit {k A x : Nat} (hk : k < 6) (hA : A < 18) (hx : x < 600) : ¬ (pe_ok k A x >>> ((28 : Int32).toInt64 &&& 63)) &&& 1 = 1 := by
  unfold pe_ok
  rw [Int64.shiftRight_or, Int64.shiftRight_or, pe_ao, pe_ao, pe_k28 k hk, pe_a28 A hA, pe_v28 x hx]
  decide
theorem pe_ok_val {k A x : Nat} (hk : k < 6) (hA : A < 18) (hx : x < 600) : (pe_ok k A x &&& 65535).toInt32 = nI x := by
  unfold pe_ok
  rw [pe_ao, pe_ao, pe_k0 k hk, pe_a0 A hA, pe_v00 x hx, Int64.or_zero, Int64.zero_or, lN_i]
theorem pe_ok_al {k A x : Nat} (hk : k < 6) (hA : A < 18) (hx : x < 600) : ((pe_ok k A x >>> ((16 : Int32).toInt64 &&& 63)) &&& 255).toInt32 = nI A := by
  unfold pe_ok
  rw [Int64.shiftRight_or, Int64.shiftRight_or, pe_ao, pe_ao, pe_k16 k hk, pe_a16 A hA, pe_v16 x hx, Int64.zero_or, Int64.or_zero, lN_i]
