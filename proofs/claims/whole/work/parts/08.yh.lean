/-! the reference's small methods -/
section
variable {f_maxC f_maxA f_n f_ph f_sols f_fails f_lastKind f_lastVal f_lastLen f_lastAlloc f_curLen f_over f_used f_allocs f_nf f_nc f_sp f_rk f_rv : Int32} {a_tk a_ta a_lastBits a_cur a_fVar a_fPar a_fK a_fV a_cPos a_cEnv a_sPos a_sEnv a_sSt a_sK a_sV : Nat → Int32}
theorem am_sub {a b : Nat} (h : b ≤ a) : nI a - nI b = nI (a - b) := by
  obtain ⟨c, rfl⟩ : ∃ c, a = c + b := ⟨a - b, by omega⟩
  rw [← nI_add, Int32.add_sub_cancel, Nat.add_sub_cancel]
theorem am_m1 (n : Nat) : nI (n + 1) + (-1) = nI n := by
  rw [← nI_1, Int32.add_assoc, show (1 : Int32) + (-1) = 0 from rfl, Int32.add_zero]
theorem am_yar {post : Int32 → Prop} {k : Int32} (h : post (nI (am_ar k))) : wpY_arity post (f_maxC, f_maxA, f_n, f_ph, f_sols, f_fails, f_lastKind, f_lastVal, f_lastLen, f_lastAlloc, f_curLen, f_over, f_used, f_allocs, f_nf, f_nc, f_sp, f_rk, f_rv, a_tk, a_ta, a_lastBits, a_cur, a_fVar, a_fPar, a_fK, a_fV, a_cPos, a_cEnv, a_sPos, a_sEnv, a_sSt, a_sK, a_sV) k := by
  unfold am_ar at h
  by_cases k0 : k = 0
  · rw [if_pos k0] at h
    exact br_t k0 h
  rw [if_neg k0] at h
  by_cases k1 : k = 1
  · rw [if_pos k1] at h
    exact br_f k0 (br_t k1 h)
  rw [if_neg k1] at h
  by_cases k9 : k = 9
  · rw [if_pos k9] at h
    exact br_f k0 (br_f k1 (br_t k9 h))
  rw [if_neg k9] at h
  by_cases k12 : k = 12
  · rw [if_pos k12] at h
    exact br_f k0 (br_f k1 (br_f k9 (br_t k12 h)))
  rw [if_neg k12] at h
  by_cases k14 : k = 14
  · rw [if_pos k14] at h
    exact br_f k0 (br_f k1 (br_f k9 (br_f k12 (br_t k14 h))))
  rw [if_neg k14] at h
  by_cases k7 : k = 7
  · rw [if_pos k7] at h
    exact br_f k0 (br_f k1 (br_f k9 (br_f k12 (br_f k14 (br_t k7 h)))))
  rw [if_neg k7] at h
  exact br_f k0 (br_f k1 (br_f k9 (br_f k12 (br_f k14 (br_f k7 h)))))
theorem am_yend0 {post : Int32 → Prop} {n : Nat} {tk : Nat → Int32} (hn : n ≤ 32) : ∀ d q i : Nat, i + d = n → q + 3 * d < 1000 → post (nI (am_sE tk d q i)) → wY_endOf_4 post f_maxC f_maxA (nI n) f_ph f_sols f_fails f_lastKind f_lastVal f_lastLen f_lastAlloc f_curLen f_over f_used f_allocs f_nf f_nc f_sp f_rk f_rv tk a_ta a_lastBits a_cur a_fVar a_fPar a_fK a_fV a_cPos a_cEnv a_sPos a_sEnv a_sSt a_sK a_sV (d + 1) (nI q) (nI i) := by
  intro d
  induction d with
  | zero =>
    intro q i hi hq h
    rw [am_sE_0] at h
    rw [wY_endOf_4]
    exact br_f (nI_pos (by omega)) (br_t (nI_le (by omega) (by omega)) h)
  | succ d ih =>
    intro q i hi hq h
    rw [wY_endOf_4]
    refine br_f (nI_pos (by omega)) (br_f (nI_ge (by omega) (by omega)) ?_)
    cases q with
    | zero =>
      rw [am_sE_z] at h
      exact br_t (Int32.le_refl _) h
    | succ q =>
      rw [am_sE_s] at h
      have ha := am_ar_le (tk i)
      have e1 : nI (q + 1) - 1 + nI (am_ar (tk (nI i).toNatClampNeg)) = nI (q + am_ar (tk i)) := by rw [nI_pred, nI_clamp (by omega), nI_add]
      exact br_f (nI_nle (by omega) (by omega)) ⟨vp_in_nI (by omega) (by omega), am_yar (nm_r e1 (nm_r (nI_1 i) (ih (q + am_ar (tk i)) (i + 1) (by omega) (by omega) h)))⟩
theorem am_yend {post : Int32 → Prop} {n : Nat} {tk : Nat → Int32} {p : Nat} {x : Int32} (hn : n ≤ 32) (hp : p ≤ n) (ex : x = nI p) (h : post (nI (am_eN tk n p))) : wpY_endOf post (f_maxC, f_maxA, nI n, f_ph, f_sols, f_fails, f_lastKind, f_lastVal, f_lastLen, f_lastAlloc, f_curLen, f_over, f_used, f_allocs, f_nf, f_nc, f_sp, f_rk, f_rv, tk, a_ta, a_lastBits, a_cur, a_fVar, a_fPar, a_fK, a_fV, a_cPos, a_cEnv, a_sPos, a_sEnv, a_sSt, a_sK, a_sV) x := by
  rw [ex]
  exact ⟨n - p + 1, am_yend0 hn (n - p) 1 p (by omega) (by omega) h⟩
theorem am_ylk0 {post : Int32 → Prop} {n mC mA : Nat} {s : am_S} {x : Int32} (w : am_WF n mC mA s) (hA : mA ≤ 16) (hs : am_sy s a_fVar a_fPar a_fK a_fV a_cPos a_cEnv) : ∀ (k j : Nat) (e : Int32), j + k = 17 → am_okE s e → post (am_lk s x k e) → wY_lookup_5 post x f_maxC f_maxA f_n f_ph f_sols f_fails f_lastKind f_lastVal f_lastLen f_lastAlloc f_curLen f_over f_used f_allocs f_nf f_nc f_sp f_rk f_rv a_tk a_ta a_lastBits a_cur a_fVar a_fPar a_fK a_fV a_cPos a_cEnv a_sPos a_sEnv a_sSt a_sK a_sV (k + 1) e (nI j) := by
  intro k
  induction k with
  | zero =>
    intro j e hj he h
    rw [wY_lookup_5]
    have h17 : (17 : Int32) ≤ nI j := by
      have : j = 17 := by omega
      rw [this]
      decide
    exact br_c (fun _ => h) (fun _ => br_c (fun _ => h) (fun _ => br_t h17 h))
  | succ k ih =>
    intro j e hj he h
    rw [wY_lookup_5]
    rw [am_lk_s] at h
    rcases he with he | ⟨f, hf, he⟩
    · subst he
      rw [if_pos (by decide)] at h
      exact br_t (by decide) h
    · subst he
      have hb := am_WF_f w hA hf
      have hc : (nI f).toNatClampNeg = f := nI_clamp (by omega)
      rw [if_neg (nI_pos (by omega)), hc] at h
      obtain ⟨s1, s2, _, _⟩ := hs.1 f hf
      have j17 : ¬ (17 : Int32) ≤ nI j := nI_ge (b := 17) (by omega) (by decide)
      have f16 : ¬ (16 : Int32) ≤ nI f := nI_ge (b := 16) hb (by decide)
      have vf : vp_in (nI f) 16 := vp_in_nI hb (by decide)
      refine br_f (nI_pos (by omega)) (br_f f16 (br_f j17 ⟨vf, ?_⟩))
      by_cases q : am_fVar s f = x
      · rw [if_pos q] at h
        exact br_t (by rw [hc, s1]; exact q) h
      · rw [if_neg q] at h
        have e2 : a_fPar (nI f).toNatClampNeg = am_fPar s f := by rw [hc, s2]
        exact br_f (by rw [hc, s1]; exact q) ⟨vf, nm_r e2 (nm_r (nI_1 j) (ih (j + 1) _ (by omega) (am_wL_par w hf) h))⟩
theorem am_ylk {post : Int32 → Prop} {n mC mA : Nat} {s : am_S} {x e r : Int32} (w : am_WF n mC mA s) (hA : mA ≤ 16) (hs : am_sy s a_fVar a_fPar a_fK a_fV a_cPos a_cEnv) (he : am_okE s e) (er : am_lk s x 17 e = r) (h : post r) : wpY_lookup post (f_maxC, f_maxA, f_n, f_ph, f_sols, f_fails, f_lastKind, f_lastVal, f_lastLen, f_lastAlloc, f_curLen, f_over, f_used, f_allocs, f_nf, f_nc, f_sp, f_rk, f_rv, a_tk, a_ta, a_lastBits, a_cur, a_fVar, a_fPar, a_fK, a_fV, a_cPos, a_cEnv, a_sPos, a_sEnv, a_sSt, a_sK, a_sV) e x := by
  rw [← er] at h
  exact ⟨18, am_ylk0 w hA hs 17 0 e (by omega) he h⟩
theorem am_ypush {post : Int32 → SY → Prop} {t : Nat} {x x' y : Int32} (ht : t < 1024) (ex : x = x') (h : post 1 (f_maxC, f_maxA, f_n, f_ph, f_sols, f_fails, f_lastKind, f_lastVal, f_lastLen, f_lastAlloc, f_curLen, f_over, f_used, f_allocs, f_nf, f_nc, nI (t + 1), f_rk, f_rv, a_tk, a_ta, a_lastBits, a_cur, a_fVar, a_fPar, a_fK, a_fV, a_cPos, a_cEnv, upd a_sPos t x', upd a_sEnv t y, upd a_sSt t 0, upd a_sK t 0, upd a_sV t 0)) : wpY_push post (f_maxC, f_maxA, f_n, f_ph, f_sols, f_fails, f_lastKind, f_lastVal, f_lastLen, f_lastAlloc, f_curLen, f_over, f_used, f_allocs, f_nf, f_nc, nI t, f_rk, f_rv, a_tk, a_ta, a_lastBits, a_cur, a_fVar, a_fPar, a_fK, a_fV, a_cPos, a_cEnv, a_sPos, a_sEnv, a_sSt, a_sK, a_sV) x y := by
  rw [ex]
  have hc : (nI t).toNatClampNeg = t := nI_clamp (by omega)
  have v : vp_in (nI t) 1024 := vp_in_nI ht (by decide)
  have l : nI t < 1024 := nI_lt (b := 1024) ht (by decide)
  exact br_f (nI_pos (by omega)) (br_t l ⟨v, nm_r (by rw [hc]) ⟨v, nm_r (by rw [hc]) ⟨v, nm_r (by rw [hc]) ⟨v, nm_r (by rw [hc]) ⟨v, nm_r (by rw [hc]) (nm_r (nI_1 t) h)⟩⟩⟩⟩⟩)
theorem am_yalT {post : Int32 → SY → Prop} {a a' mA : Nat} (ea : a' = a + 1) (h1 : a < mA) (h2 : mA ≤ 16) (h : post 1 (f_maxC, nI mA, f_n, f_ph, f_sols, f_fails, f_lastKind, f_lastVal, f_lastLen, f_lastAlloc, f_curLen, f_over, f_used, nI a', f_nf, f_nc, f_sp, f_rk, f_rv, a_tk, a_ta, a_lastBits, a_cur, a_fVar, a_fPar, a_fK, a_fV, a_cPos, a_cEnv, a_sPos, a_sEnv, a_sSt, a_sK, a_sV)) : wpY_alloc post (f_maxC, nI mA, f_n, f_ph, f_sols, f_fails, f_lastKind, f_lastVal, f_lastLen, f_lastAlloc, f_curLen, f_over, f_used, nI a, f_nf, f_nc, f_sp, f_rk, f_rv, a_tk, a_ta, a_lastBits, a_cur, a_fVar, a_fPar, a_fK, a_fV, a_cPos, a_cEnv, a_sPos, a_sEnv, a_sSt, a_sK, a_sV) := by
  subst ea
  exact br_t (nI_lt h1 (by omega)) (nm_r (nI_1 a) h)
theorem am_yalF {post : Int32 → SY → Prop} {a mA : Nat} (h1 : mA ≤ a) (h2 : a ≤ 16) (h : post 0 (f_maxC, nI mA, f_n, f_ph, f_sols, f_fails, f_lastKind, f_lastVal, f_lastLen, f_lastAlloc, f_curLen, f_over, f_used, nI a, f_nf, f_nc, f_sp, f_rk, f_rv, a_tk, a_ta, a_lastBits, a_cur, a_fVar, a_fPar, a_fK, a_fV, a_cPos, a_cEnv, a_sPos, a_sEnv, a_sSt, a_sK, a_sV)) : wpY_alloc post (f_maxC, nI mA, f_n, f_ph, f_sols, f_fails, f_lastKind, f_lastVal, f_lastLen, f_lastAlloc, f_curLen, f_over, f_used, nI a, f_nf, f_nc, f_sp, f_rk, f_rv, a_tk, a_ta, a_lastBits, a_cur, a_fVar, a_fPar, a_fK, a_fV, a_cPos, a_cEnv, a_sPos, a_sEnv, a_sSt, a_sK, a_sV) := br_f (nI_nlt h1 (by omega)) h
/-- a step that goes on -/
theorem am_yO {post : Int32 → SY → Prop} {J : Int32 → Int32 → Int32 → Int32 → Int32 → Int32 → Int32 → Int32 → Int32 → Int32 → Int32 → Int32 → Int32 → Int32 → Int32 → Int32 → Int32 → Int32 → Int32 → Int32 → Int32 → (Nat → Int32) → (Nat → Int32) → (Nat → Int32) → (Nat → Int32) → (Nat → Int32) → (Nat → Int32) → (Nat → Int32) → (Nat → Int32) → (Nat → Int32) → (Nat → Int32) → (Nat → Int32) → (Nat → Int32) → (Nat → Int32) → (Nat → Int32) → (Nat → Int32) → Prop} {x1 x2 : Int32} (h : J x1 x2 f_maxC f_maxA f_n f_ph f_sols f_fails f_lastKind f_lastVal f_lastLen f_lastAlloc f_curLen f_over f_used f_allocs f_nf f_nc f_sp f_rk f_rv a_tk a_ta a_lastBits a_cur a_fVar a_fPar a_fK a_fV a_cPos a_cEnv a_sPos a_sEnv a_sSt a_sK a_sV) : wY_runPath_1552 post J x1 x2 1 f_maxC f_maxA f_n f_ph f_sols f_fails f_lastKind f_lastVal f_lastLen f_lastAlloc f_curLen f_over f_used f_allocs f_nf f_nc f_sp f_rk f_rv a_tk a_ta a_lastBits a_cur a_fVar a_fPar a_fK a_fV a_cPos a_cEnv a_sPos a_sEnv a_sSt a_sK a_sV := br_f (by decide) h
/-- a step that fails -/
theorem am_yF {post : Int32 → SY → Prop} {m : Nat} {x1 x2 : Int32} (h : post 0 (f_maxC, f_maxA, f_n, f_ph, f_sols, f_fails, f_lastKind, f_lastVal, f_lastLen, f_lastAlloc, f_curLen, f_over, f_used, f_allocs, f_nf, f_nc, f_sp, f_rk, f_rv, a_tk, a_ta, a_lastBits, a_cur, a_fVar, a_fPar, a_fK, a_fV, a_cPos, a_cEnv, a_sPos, a_sEnv, a_sSt, a_sK, a_sV)) : wY_runPath_1552 post (wY_runPath_46 post (m + 1)) x1 x2 0 f_maxC f_maxA f_n f_ph f_sols f_fails f_lastKind f_lastVal f_lastLen f_lastAlloc f_curLen f_over f_used f_allocs f_nf f_nc f_sp f_rk f_rv a_tk a_ta a_lastBits a_cur a_fVar a_fPar a_fK a_fV a_cPos a_cEnv a_sPos a_sEnv a_sSt a_sK a_sV := by
  refine br_t rfl ?_
  rw [wY_runPath_46]
  exact br_f (by decide) (br_f (by decide) h)
end
/-- the machine at the head of its loop: a + 128 for each allocation that may still come are left at least -/
def am_LY (post : Int32 → SY → Prop) (n : Nat) (tk ta : Nat → Int32) (mC mA : Nat) (ph sols fails lK lV lL lA ov : Int32) (lB : Nat → Int32) (b : Nat → Bool) (L0 : Nat) (a : Nat) (stk : List am_F) (rk rv : Int32) (s : am_S) : Prop :=
  ∀ (m : Nat) (cur gVar gPar gK gV gPos gEnv hP hE hS hK hV : Nat → Int32), a + 128 * (16 - am_al s) ≤ m → m ≤ 100000 → am_sy s gVar gPar gK gV gPos gEnv → am_fy hP hE hS hK hV stk → (∀ j, j < am_mx L0 (am_us s) → cur j = am_bI (b j)) →
  wY_runPath_46 post (m + 1) (-1) (nI (100000 - m)) (nI mC) (nI mA) (nI n) ph sols fails lK lV lL lA (nI (am_mx L0 (am_us s))) ov (nI (am_us s)) (nI (am_al s)) (nI (am_nf s)) (nI (am_nc s)) (nI stk.length) rk rv tk ta lB cur gVar gPar gK gV gPos gEnv hP hE hS hK hV
/-- a path that failed -/
def am_QY (post : Int32 → SY → Prop) (n : Nat) (tk ta : Nat → Int32) (mC mA : Nat) (ph sols fails lK lV lL lA ov : Int32) (lB : Nat → Int32) (b : Nat → Bool) (L0 : Nat) (s : am_S) : Prop :=
  ∀ (f_allocs f_nf f_nc f_sp f_rk f_rv : Int32) (cur gVar gPar gK gV gPos gEnv hP hE hS hK hV : Nat → Int32), (∀ j, j < am_mx L0 (am_us s) → cur j = am_bI (b j)) → post 0 (nI mC, nI mA, nI n, ph, sols, fails, lK, lV, lL, lA, nI (am_mx L0 (am_us s)), ov, nI (am_us s), f_allocs, f_nf, f_nc, f_sp, f_rk, f_rv, tk, ta, lB, cur, gVar, gPar, gK, gV, gPos, gEnv, hP, hE, hS, hK, hV)
