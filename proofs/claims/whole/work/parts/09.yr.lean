/-! the reference's machine keeps the rules -/
theorem am_yfacts {n : Nat} {tk ta : Nat → Int32} {p m : Nat} {e st k v : Int32} {r : List am_F} {hP hE hS hK hV : Nat → Int32} (hn : n ≤ 32) (hp : p ≤ n) (hl : r.length < 1000) (hm : m + 1 ≤ 100000) (h : am_fy hP hE hS hK hV ((p, e, st, k, v) :: r)) :
    (¬ (100000 : Int32) ≤ nI (100000 - (m + 1))) ∧ nI (100000 - (m + 1)) + 1 = nI (100000 - m) ∧ (¬ nI (r.length + 1) = 0) ∧ nI (r.length + 1) - 1 = nI r.length ∧ vp_in (nI r.length) 1024 ∧ hP (nI r.length).toNatClampNeg = nI p ∧ (¬ nI p < 0) ∧ tk (nI p).toNatClampNeg = tk p ∧ ta (nI p).toNatClampNeg = ta p ∧ hS (nI r.length).toNatClampNeg = st ∧ hE (nI r.length).toNatClampNeg = e ∧ hK (nI r.length).toNatClampNeg = k ∧ hV (nI r.length).toNatClampNeg = v ∧ (nI r.length).toNatClampNeg = r.length := by
  obtain ⟨h1, h2, h3, h4, h5, _⟩ := h
  have hc : (nI r.length).toNatClampNeg = r.length := nI_clamp (by omega)
  have hq : (nI p).toNatClampNeg = p := nI_clamp (by omega)
  refine ⟨nI_ge (b := 100000) (by omega) (by decide), ?_, nI_ne0 (by omega) (by omega), nI_pred r.length, vp_in_nI (by omega) (by decide), ?_, nI_pos (by omega), ?_, ?_, ?_, ?_, ?_, ?_, hc⟩
  · rw [nI_1]
    exact congrArg nI (by omega)
  · rw [hc]; exact h1
  · rw [hq]
  · rw [hq]
  · rw [hc]; exact h3
  · rw [hc]; exact h2
  · rw [hc]; exact h4
  · rw [hc]; exact h5
theorem am_fy_tl {gP gE gS gK gV : Nat → Int32} {f : am_F} {r : List am_F} (h : am_fy gP gE gS gK gV (f :: r)) : am_fy gP gE gS gK gV r := by
  obtain ⟨p, e, st, k, v⟩ := f
  exact h.2.2.2.2.2
theorem am_al_nk (p : Nat) (e : Int32) (s : am_S) : am_al (am_nk p e s) = am_al s + 1 := rfl
section
variable {post : Int32 → SY → Prop} {n : Nat} {tk ta : Nat → Int32} {mC mA : Nat} {ph sols fails lK lV lL lA ov : Int32} {lB : Nat → Int32} {b : Nat → Bool} {L0 : Nat} {a p : Nat} {e : Int32} {stk : List am_F} {k v rk rv : Int32} {s : am_S}
theorem am_yr_mono {a' : Nat} (ha : a ≤ a') (h : am_LY post n tk ta mC mA ph sols fails lK lV lL lA ov lB b L0 a stk rk rv s) : am_LY post n tk ta mC mA ph sols fails lK lV lL lA ov lB b L0 a' stk rk rv s :=
  fun m cur gVar gPar gK gV gPos gEnv hP hE hS hK hV h1 h2 h3 h4 h5 => h m cur gVar gPar gK gV gPos gEnv hP hE hS hK hV (by omega) h2 h3 h4 h5
theorem am_yr_out (hn : n ≤ 32) (hl : stk.length < 545) (hq : am_QY post n tk ta mC mA ph sols fails lK lV lL lA ov lB b L0 s) : am_LY post n tk ta mC mA ph sols fails lK lV lL lA ov lB b L0 (a + 1) ((n, e, 0, 0, 0) :: stk) rk rv s := by
  intro m cur gVar gPar gK gV gPos gEnv hP hE hS hK hV h1 h2 h3 h4 h5
  obtain ⟨m, rfl⟩ : ∃ m', m = m' + 1 := ⟨m - 1, by omega⟩
  obtain ⟨f1, f2, f3, f4, f5, f6, f7, f10, f11, f12, f13, f14, f15, fc⟩ := am_yfacts (tk := tk) (ta := ta) hn (Nat.le_refl n) (by omega) h2 h4
  rw [wY_runPath_46]
  exact br_t rfl (br_f f1 (nm_r f2 (br_f f3 (nm_r f4 ⟨f5, nm_r f6 (br_f f7 (br_f (nI_nlt (Nat.le_refl n) (by omega)) (br_f (by decide) (hq _ _ _ _ _ _ cur gVar gPar gK gV gPos gEnv hP hE hS hK hV h5))))⟩))))
theorem am_yr_num (hn : n ≤ 32) (hA : mA ≤ 16) (H : am_H n mC mA s e p stk) (hk : tk p = 0) (h : am_LY post n tk ta mC mA ph sols fails lK lV lL lA ov lB b L0 a stk 1 (ta p) s) : am_LY post n tk ta mC mA ph sols fails lK lV lL lA ov lB b L0 (a + 1) ((p, e, 0, 0, 0) :: stk) rk rv s := by
  intro m cur gVar gPar gK gV gPos gEnv hP hE hS hK hV h1 h2 h3 h4 h5
  obtain ⟨m, rfl⟩ : ∃ m', m = m' + 1 := ⟨m - 1, by omega⟩
  have hl := H.2.2.2.1
  have hp := H.2.2.1
  obtain ⟨f1, f2, f3, f4, f5, f6, f7, f10, f11, f12, f13, f14, f15, fc⟩ := am_yfacts (tk := tk) (ta := ta) hn (Nat.le_of_lt hp) (by omega) h2 h4
  have f8 : nI p < nI n := nI_lt hp (by omega)
  have f9 : vp_in (nI p) 32 := vp_in_nI (by omega) (by decide)
  rw [wY_runPath_46]
  exact br_t rfl (br_f f1 (nm_r f2 (br_f f3 (nm_r f4 ⟨f5, nm_r f6 (br_f f7 (br_t f8 ⟨f9, nm_r f10 ⟨f9, nm_r f11 ⟨f5, nm_r f12 ⟨f5, nm_r f13 (br_t hk (nm_r f4 (am_yO (h m cur gVar gPar gK gV gPos gEnv hP hE hS hK hV (by omega) (by omega) h3 (am_fy_tl h4) h5))))⟩⟩⟩⟩))⟩))))
theorem am_yr_var (hn : n ≤ 32) (hA : mA ≤ 16) (H : am_H n mC mA s e p stk) (hk : tk p = 1) {f : Nat} (hf : f < am_nf s) (hlk : am_lk s (ta p) 17 e = nI f) (h : am_LY post n tk ta mC mA ph sols fails lK lV lL lA ov lB b L0 a stk (am_fK s f) (am_fV s f) s) : am_LY post n tk ta mC mA ph sols fails lK lV lL lA ov lB b L0 (a + 1) ((p, e, 0, 0, 0) :: stk) rk rv s := by
  intro m cur gVar gPar gK gV gPos gEnv hP hE hS hK hV h1 h2 h3 h4 h5
  obtain ⟨m, rfl⟩ : ∃ m', m = m' + 1 := ⟨m - 1, by omega⟩
  have hl := H.2.2.2.1
  have hp := H.2.2.1
  obtain ⟨f1, f2, f3, f4, f5, f6, f7, f10, f11, f12, f13, f14, f15, fc⟩ := am_yfacts (tk := tk) (ta := ta) hn (Nat.le_of_lt hp) (by omega) h2 h4
  have f8 : nI p < nI n := nI_lt hp (by omega)
  have f9 : vp_in (nI p) 32 := vp_in_nI (by omega) (by decide)
  have hb := am_WF_f H.1 hA hf
  have vf : vp_in (nI f) 16 := vp_in_nI hb (by decide)
  have ek : gK (nI f).toNatClampNeg = am_fK s f := by rw [nI_clamp (by omega)]; exact (h3.1 f hf).2.2.1
  have ev : gV (nI f).toNatClampNeg = am_fV s f := by rw [nI_clamp (by omega)]; exact (h3.1 f hf).2.2.2
  rw [wY_runPath_46]
  exact br_t rfl (br_f f1 (nm_r f2 (br_f f3 (nm_r f4 ⟨f5, nm_r f6 (br_f f7 (br_t f8 ⟨f9, nm_r f10 ⟨f9, nm_r f11 ⟨f5, nm_r f12 ⟨f5, nm_r f13 (br_f (by rw [hk]; decide) (br_t hk (am_ylk H.1 hA h3 H.2.1 hlk (br_t (nI_pos' (by omega)) ⟨vf, nm_r ek ⟨vf, nm_r ev (nm_r f4 (am_yO (h m cur gVar gPar gK gV gPos gEnv hP hE hS hK hV (by omega) (by omega) h3 (am_fy_tl h4) h5)))⟩⟩))))⟩⟩⟩⟩))⟩))))
theorem am_yr_varF (hn : n ≤ 32) (hA : mA ≤ 16) (H : am_H n mC mA s e p stk) (hk : tk p = 1) (hlk : am_lk s (ta p) 17 e = -1) (hq : am_QY post n tk ta mC mA ph sols fails lK lV lL lA ov lB b L0 s) : am_LY post n tk ta mC mA ph sols fails lK lV lL lA ov lB b L0 (a + 1) ((p, e, 0, 0, 0) :: stk) rk rv s := by
  intro m cur gVar gPar gK gV gPos gEnv hP hE hS hK hV h1 h2 h3 h4 h5
  obtain ⟨m, rfl⟩ : ∃ m', m = m' + 1 := ⟨m - 1, by omega⟩
  have hl := H.2.2.2.1
  have hp := H.2.2.1
  obtain ⟨f1, f2, f3, f4, f5, f6, f7, f10, f11, f12, f13, f14, f15, fc⟩ := am_yfacts (tk := tk) (ta := ta) hn (Nat.le_of_lt hp) (by omega) h2 h4
  have f8 : nI p < nI n := nI_lt hp (by omega)
  have f9 : vp_in (nI p) 32 := vp_in_nI (by omega) (by decide)
  rw [wY_runPath_46]
  exact br_t rfl (br_f f1 (nm_r f2 (br_f f3 (nm_r f4 ⟨f5, nm_r f6 (br_f f7 (br_t f8 ⟨f9, nm_r f10 ⟨f9, nm_r f11 ⟨f5, nm_r f12 ⟨f5, nm_r f13 (br_f (by rw [hk]; decide) (br_t hk (am_ylk H.1 hA h3 H.2.1 hlk (br_f (by decide) (am_yF (hq _ _ _ _ _ _ cur gVar gPar gK gV gPos gEnv hP hE hS hK hV h5))))))⟩⟩⟩⟩))⟩))))
theorem am_yr_push7 (hn : n ≤ 32) (hA : mA ≤ 16) (H : am_H n mC mA s e p stk) (hk : tk p = 7) (h : am_LY post n tk ta mC mA ph sols fails lK lV lL lA ov lB b L0 a ((p + 1, e, 0, 0, 0) :: (p, e, 1, 0, 0) :: stk) rk rv s) : am_LY post n tk ta mC mA ph sols fails lK lV lL lA ov lB b L0 (a + 1) ((p, e, 0, 0, 0) :: stk) rk rv s := by
  intro m cur gVar gPar gK gV gPos gEnv hP hE hS hK hV h1 h2 h3 h4 h5
  obtain ⟨m, rfl⟩ : ∃ m', m = m' + 1 := ⟨m - 1, by omega⟩
  have hl := H.2.2.2.1
  have hp := H.2.2.1
  obtain ⟨f1, f2, f3, f4, f5, f6, f7, f10, f11, f12, f13, f14, f15, fc⟩ := am_yfacts (tk := tk) (ta := ta) hn (Nat.le_of_lt hp) (by omega) h2 h4
  have f8 : nI p < nI n := nI_lt hp (by omega)
  have f9 : vp_in (nI p) 32 := vp_in_nI (by omega) (by decide)
  rw [wY_runPath_46]
  exact br_t rfl (br_f f1 (nm_r f2 (br_f f3 (nm_r f4 ⟨f5, nm_r f6 (br_f f7 (br_t f8 ⟨f9, nm_r f10 ⟨f9, nm_r f11 ⟨f5, nm_r f12 ⟨f5, nm_r f13 (br_f (by rw [hk]; decide) (br_f (by rw [hk]; decide) (br_f (by rw [hk]; decide) (br_t (by rw [hk]; decide) (br_t hk (br_t rfl ⟨f5, nm_r (by rw [fc]) (am_ypush (t := stk.length + 1) (by omega) (nI_1 p) (am_yO (h m cur gVar gPar gK gV gPos gEnv (upd hP (stk.length + 1) (nI (p + 1))) (upd hE (stk.length + 1) e) (upd (upd hS stk.length 1) (stk.length + 1) 0) (upd hK (stk.length + 1) 0) (upd hV (stk.length + 1) 0) (by omega) (by omega) h3 (am_fy_push (am_fy_st h4)) h5)))⟩))))))⟩⟩⟩⟩))⟩))))
theorem am_yr_push10 (hn : n ≤ 32) (hA : mA ≤ 16) (H : am_H n mC mA s e p stk) (hk : tk p = 10) (h : am_LY post n tk ta mC mA ph sols fails lK lV lL lA ov lB b L0 a ((p + 1, e, 0, 0, 0) :: (p, e, 1, 0, 0) :: stk) rk rv s) : am_LY post n tk ta mC mA ph sols fails lK lV lL lA ov lB b L0 (a + 1) ((p, e, 0, 0, 0) :: stk) rk rv s := by
  intro m cur gVar gPar gK gV gPos gEnv hP hE hS hK hV h1 h2 h3 h4 h5
  obtain ⟨m, rfl⟩ : ∃ m', m = m' + 1 := ⟨m - 1, by omega⟩
  have hl := H.2.2.2.1
  have hp := H.2.2.1
  obtain ⟨f1, f2, f3, f4, f5, f6, f7, f10, f11, f12, f13, f14, f15, fc⟩ := am_yfacts (tk := tk) (ta := ta) hn (Nat.le_of_lt hp) (by omega) h2 h4
  have f8 : nI p < nI n := nI_lt hp (by omega)
  have f9 : vp_in (nI p) 32 := vp_in_nI (by omega) (by decide)
  rw [wY_runPath_46]
  exact br_t rfl (br_f f1 (nm_r f2 (br_f f3 (nm_r f4 ⟨f5, nm_r f6 (br_f f7 (br_t f8 ⟨f9, nm_r f10 ⟨f9, nm_r f11 ⟨f5, nm_r f12 ⟨f5, nm_r f13 (br_f (by rw [hk]; decide) (br_f (by rw [hk]; decide) (br_f (by rw [hk]; decide) (br_t (by rw [hk]; decide) (br_f (by rw [hk]; decide) (br_f (by rw [hk]; decide) (br_f (by rw [hk]; decide) (br_t hk (br_t rfl ⟨f5, nm_r (by rw [fc]) (am_ypush (t := stk.length + 1) (by omega) (nI_1 p) (am_yO (h m cur gVar gPar gK gV gPos gEnv (upd hP (stk.length + 1) (nI (p + 1))) (upd hE (stk.length + 1) e) (upd (upd hS stk.length 1) (stk.length + 1) 0) (upd hK (stk.length + 1) 0) (upd hV (stk.length + 1) 0) (by omega) (by omega) h3 (am_fy_push (am_fy_st h4)) h5)))⟩)))))))))⟩⟩⟩⟩))⟩))))
theorem am_yr_push11 (hn : n ≤ 32) (hA : mA ≤ 16) (H : am_H n mC mA s e p stk) (hk : tk p = 11) (h : am_LY post n tk ta mC mA ph sols fails lK lV lL lA ov lB b L0 a ((p + 1, e, 0, 0, 0) :: (p, e, 1, 0, 0) :: stk) rk rv s) : am_LY post n tk ta mC mA ph sols fails lK lV lL lA ov lB b L0 (a + 1) ((p, e, 0, 0, 0) :: stk) rk rv s := by
  intro m cur gVar gPar gK gV gPos gEnv hP hE hS hK hV h1 h2 h3 h4 h5
  obtain ⟨m, rfl⟩ : ∃ m', m = m' + 1 := ⟨m - 1, by omega⟩
  have hl := H.2.2.2.1
  have hp := H.2.2.1
  obtain ⟨f1, f2, f3, f4, f5, f6, f7, f10, f11, f12, f13, f14, f15, fc⟩ := am_yfacts (tk := tk) (ta := ta) hn (Nat.le_of_lt hp) (by omega) h2 h4
  have f8 : nI p < nI n := nI_lt hp (by omega)
  have f9 : vp_in (nI p) 32 := vp_in_nI (by omega) (by decide)
  rw [wY_runPath_46]
  exact br_t rfl (br_f f1 (nm_r f2 (br_f f3 (nm_r f4 ⟨f5, nm_r f6 (br_f f7 (br_t f8 ⟨f9, nm_r f10 ⟨f9, nm_r f11 ⟨f5, nm_r f12 ⟨f5, nm_r f13 (br_f (by rw [hk]; decide) (br_f (by rw [hk]; decide) (br_f (by rw [hk]; decide) (br_t (by rw [hk]; decide) (br_f (by rw [hk]; decide) (br_f (by rw [hk]; decide) (br_f (by rw [hk]; decide) (br_f (by rw [hk]; decide) (br_t hk (br_t rfl ⟨f5, nm_r (by rw [fc]) (am_ypush (t := stk.length + 1) (by omega) (nI_1 p) (am_yO (h m cur gVar gPar gK gV gPos gEnv (upd hP (stk.length + 1) (nI (p + 1))) (upd hE (stk.length + 1) e) (upd (upd hS stk.length 1) (stk.length + 1) 0) (upd hK (stk.length + 1) 0) (upd hV (stk.length + 1) 0) (by omega) (by omega) h3 (am_fy_push (am_fy_st h4)) h5)))⟩))))))))))⟩⟩⟩⟩))⟩))))
theorem am_yr_push13 (hn : n ≤ 32) (hA : mA ≤ 16) (H : am_H n mC mA s e p stk) (hk : tk p = 13) (h : am_LY post n tk ta mC mA ph sols fails lK lV lL lA ov lB b L0 a ((p + 1, e, 0, 0, 0) :: (p, e, 1, 0, 0) :: stk) rk rv s) : am_LY post n tk ta mC mA ph sols fails lK lV lL lA ov lB b L0 (a + 1) ((p, e, 0, 0, 0) :: stk) rk rv s := by
  intro m cur gVar gPar gK gV gPos gEnv hP hE hS hK hV h1 h2 h3 h4 h5
  obtain ⟨m, rfl⟩ : ∃ m', m = m' + 1 := ⟨m - 1, by omega⟩
  have hl := H.2.2.2.1
  have hp := H.2.2.1
  obtain ⟨f1, f2, f3, f4, f5, f6, f7, f10, f11, f12, f13, f14, f15, fc⟩ := am_yfacts (tk := tk) (ta := ta) hn (Nat.le_of_lt hp) (by omega) h2 h4
  have f8 : nI p < nI n := nI_lt hp (by omega)
  have f9 : vp_in (nI p) 32 := vp_in_nI (by omega) (by decide)
  rw [wY_runPath_46]
  exact br_t rfl (br_f f1 (nm_r f2 (br_f f3 (nm_r f4 ⟨f5, nm_r f6 (br_f f7 (br_t f8 ⟨f9, nm_r f10 ⟨f9, nm_r f11 ⟨f5, nm_r f12 ⟨f5, nm_r f13 (br_f (by rw [hk]; decide) (br_f (by rw [hk]; decide) (br_f (by rw [hk]; decide) (br_t (by rw [hk]; decide) (br_f (by rw [hk]; decide) (br_f (by rw [hk]; decide) (br_f (by rw [hk]; decide) (br_f (by rw [hk]; decide) (br_f (by rw [hk]; decide) (br_f (by rw [hk]; decide) (br_t hk (br_t rfl ⟨f5, nm_r (by rw [fc]) (am_ypush (t := stk.length + 1) (by omega) (nI_1 p) (am_yO (h m cur gVar gPar gK gV gPos gEnv (upd hP (stk.length + 1) (nI (p + 1))) (upd hE (stk.length + 1) e) (upd (upd hS stk.length 1) (stk.length + 1) 0) (upd hK (stk.length + 1) 0) (upd hV (stk.length + 1) 0) (by omega) (by omega) h3 (am_fy_push (am_fy_st h4)) h5)))⟩))))))))))))⟩⟩⟩⟩))⟩))))
theorem am_yr_push14 (hn : n ≤ 32) (hA : mA ≤ 16) (H : am_H n mC mA s e p stk) (hk : tk p = 14) (h : am_LY post n tk ta mC mA ph sols fails lK lV lL lA ov lB b L0 a ((p + 1, e, 0, 0, 0) :: (p, e, 1, 0, 0) :: stk) rk rv s) : am_LY post n tk ta mC mA ph sols fails lK lV lL lA ov lB b L0 (a + 1) ((p, e, 0, 0, 0) :: stk) rk rv s := by
  intro m cur gVar gPar gK gV gPos gEnv hP hE hS hK hV h1 h2 h3 h4 h5
  obtain ⟨m, rfl⟩ : ∃ m', m = m' + 1 := ⟨m - 1, by omega⟩
  have hl := H.2.2.2.1
  have hp := H.2.2.1
  obtain ⟨f1, f2, f3, f4, f5, f6, f7, f10, f11, f12, f13, f14, f15, fc⟩ := am_yfacts (tk := tk) (ta := ta) hn (Nat.le_of_lt hp) (by omega) h2 h4
  have f8 : nI p < nI n := nI_lt hp (by omega)
  have f9 : vp_in (nI p) 32 := vp_in_nI (by omega) (by decide)
  rw [wY_runPath_46]
  exact br_t rfl (br_f f1 (nm_r f2 (br_f f3 (nm_r f4 ⟨f5, nm_r f6 (br_f f7 (br_t f8 ⟨f9, nm_r f10 ⟨f9, nm_r f11 ⟨f5, nm_r f12 ⟨f5, nm_r f13 (br_f (by rw [hk]; decide) (br_f (by rw [hk]; decide) (br_f (by rw [hk]; decide) (br_t (by rw [hk]; decide) (br_f (by rw [hk]; decide) (br_f (by rw [hk]; decide) (br_f (by rw [hk]; decide) (br_f (by rw [hk]; decide) (br_f (by rw [hk]; decide) (br_f (by rw [hk]; decide) (br_f (by rw [hk]; decide) (br_t hk (br_t rfl ⟨f5, nm_r (by rw [fc]) (am_ypush (t := stk.length + 1) (by omega) (nI_1 p) (am_yO (h m cur gVar gPar gK gV gPos gEnv (upd hP (stk.length + 1) (nI (p + 1))) (upd hE (stk.length + 1) e) (upd (upd hS stk.length 1) (stk.length + 1) 0) (upd hK (stk.length + 1) 0) (upd hV (stk.length + 1) 0) (by omega) (by omega) h3 (am_fy_push (am_fy_st h4)) h5)))⟩)))))))))))))⟩⟩⟩⟩))⟩))))
theorem am_yr_push15 (hn : n ≤ 32) (hA : mA ≤ 16) (H : am_H n mC mA s e p stk) (hk : tk p = 15) (h : am_LY post n tk ta mC mA ph sols fails lK lV lL lA ov lB b L0 a ((p + 1, e, 0, 0, 0) :: (p, e, 1, 0, 0) :: stk) rk rv s) : am_LY post n tk ta mC mA ph sols fails lK lV lL lA ov lB b L0 (a + 1) ((p, e, 0, 0, 0) :: stk) rk rv s := by
  intro m cur gVar gPar gK gV gPos gEnv hP hE hS hK hV h1 h2 h3 h4 h5
  obtain ⟨m, rfl⟩ : ∃ m', m = m' + 1 := ⟨m - 1, by omega⟩
  have hl := H.2.2.2.1
  have hp := H.2.2.1
  obtain ⟨f1, f2, f3, f4, f5, f6, f7, f10, f11, f12, f13, f14, f15, fc⟩ := am_yfacts (tk := tk) (ta := ta) hn (Nat.le_of_lt hp) (by omega) h2 h4
  have f8 : nI p < nI n := nI_lt hp (by omega)
  have f9 : vp_in (nI p) 32 := vp_in_nI (by omega) (by decide)
  rw [wY_runPath_46]
  exact br_t rfl (br_f f1 (nm_r f2 (br_f f3 (nm_r f4 ⟨f5, nm_r f6 (br_f f7 (br_t f8 ⟨f9, nm_r f10 ⟨f9, nm_r f11 ⟨f5, nm_r f12 ⟨f5, nm_r f13 (br_f (by rw [hk]; decide) (br_f (by rw [hk]; decide) (br_f (by rw [hk]; decide) (br_t (by rw [hk]; decide) (br_f (by rw [hk]; decide) (br_f (by rw [hk]; decide) (br_f (by rw [hk]; decide) (br_f (by rw [hk]; decide) (br_f (by rw [hk]; decide) (br_f (by rw [hk]; decide) (br_f (by rw [hk]; decide) (br_f (by rw [hk]; decide) (br_t rfl ⟨f5, nm_r (by rw [fc]) (am_ypush (t := stk.length + 1) (by omega) (nI_1 p) (am_yO (h m cur gVar gPar gK gV gPos gEnv (upd hP (stk.length + 1) (nI (p + 1))) (upd hE (stk.length + 1) e) (upd (upd hS stk.length 1) (stk.length + 1) 0) (upd hK (stk.length + 1) 0) (upd hV (stk.length + 1) 0) (by omega) (by omega) h3 (am_fy_push (am_fy_st h4)) h5)))⟩)))))))))))))⟩⟩⟩⟩))⟩))))
theorem am_yr_push2 (hn : n ≤ 32) (hA : mA ≤ 16) (H : am_H n mC mA s e p stk) (hk : am_bin (tk p)) (h : am_LY post n tk ta mC mA ph sols fails lK lV lL lA ov lB b L0 a ((p + 1, e, 0, 0, 0) :: (p, e, 1, 0, 0) :: stk) rk rv s) : am_LY post n tk ta mC mA ph sols fails lK lV lL lA ov lB b L0 (a + 1) ((p, e, 0, 0, 0) :: stk) rk rv s := by
  intro m cur gVar gPar gK gV gPos gEnv hP hE hS hK hV h1 h2 h3 h4 h5
  obtain ⟨m, rfl⟩ : ∃ m', m = m' + 1 := ⟨m - 1, by omega⟩
  have hl := H.2.2.2.1
  have hp := H.2.2.1
  obtain ⟨f1, f2, f3, f4, f5, f6, f7, f10, f11, f12, f13, f14, f15, fc⟩ := am_yfacts (tk := tk) (ta := ta) hn (Nat.le_of_lt hp) (by omega) h2 h4
  have f8 : nI p < nI n := nI_lt hp (by omega)
  have f9 : vp_in (nI p) 32 := vp_in_nI (by omega) (by decide)
  have k0 : ¬ tk p = 0 := by rcases hk with q | q | q | q | q <;> rw [q] <;> decide
  have k1 : ¬ tk p = 1 := by rcases hk with q | q | q | q | q <;> rw [q] <;> decide
  have k2 : ¬ tk p < 2 := by rcases hk with q | q | q | q | q <;> rw [q] <;> decide
  have k6 : ¬ 6 < tk p := by rcases hk with q | q | q | q | q <;> rw [q] <;> decide
  rw [wY_runPath_46]
  exact br_t rfl (br_f f1 (nm_r f2 (br_f f3 (nm_r f4 ⟨f5, nm_r f6 (br_f f7 (br_t f8 ⟨f9, nm_r f10 ⟨f9, nm_r f11 ⟨f5, nm_r f12 ⟨f5, nm_r f13 (br_f k0 (br_f k1 (br_f k2 (br_f k6 (br_t rfl ⟨f5, nm_r (by rw [fc]) (am_ypush (t := stk.length + 1) (by omega) (nI_1 p) (am_yO (h m cur gVar gPar gK gV gPos gEnv (upd hP (stk.length + 1) (nI (p + 1))) (upd hE (stk.length + 1) e) (upd (upd hS stk.length 1) (stk.length + 1) 0) (upd hK (stk.length + 1) 0) (upd hV (stk.length + 1) 0) (by omega) (by omega) h3 (am_fy_push (am_fy_st h4)) h5)))⟩)))))⟩⟩⟩⟩))⟩))))
theorem am_yr_push (hn : n ≤ 32) (hA : mA ≤ 16) (H : am_H n mC mA s e p stk) (hk : am_psh (tk p)) (h : am_LY post n tk ta mC mA ph sols fails lK lV lL lA ov lB b L0 a ((p + 1, e, 0, 0, 0) :: (p, e, 1, 0, 0) :: stk) rk rv s) : am_LY post n tk ta mC mA ph sols fails lK lV lL lA ov lB b L0 (a + 1) ((p, e, 0, 0, 0) :: stk) rk rv s := by
  rcases hk with q | q | q | q | q | q | q
  · exact am_yr_push7 hn hA H q h
  · exact am_yr_push10 hn hA H q h
  · exact am_yr_push11 hn hA H q h
  · exact am_yr_push13 hn hA H q h
  · exact am_yr_push14 hn hA H q h
  · exact am_yr_push15 hn hA H q h
  · exact am_yr_push2 hn hA H q h
theorem am_y700 {J : Int32 → Int32 → Int32 → Int32 → Int32 → Int32 → Int32 → Int32 → Int32 → Int32 → Int32 → Int32 → Int32 → Int32 → Int32 → Int32 → Int32 → Int32 → Int32 → Int32 → Int32 → (Nat → Int32) → (Nat → Int32) → (Nat → Int32) → (Nat → Int32) → (Nat → Int32) → (Nat → Int32) → (Nat → Int32) → (Nat → Int32) → (Nat → Int32) → (Nat → Int32) → (Nat → Int32) → (Nat → Int32) → (Nat → Int32) → (Nat → Int32) → (Nat → Int32) → Prop} {x2 : Int32} {t q : Nat} {x : Int32} {cu gVar gPar gK gV gPos gEnv hP hE hS hK hV : Nat → Int32} {f_curLen f_used f_allocs f_nf f_nc : Int32} (ht : t < 1000) (ex : x = nI q)
    (h : J (-1) x2 (nI mC) (nI mA) (nI n) ph sols fails lK lV lL lA f_curLen ov f_used f_allocs f_nf f_nc (nI (t + 1 + 1)) rk rv tk ta lB cu gVar gPar gK gV gPos gEnv (upd hP (t + 1) (nI q)) (upd hE (t + 1) e) (upd (upd hS t 1) (t + 1) 0) (upd hK (t + 1) 0) (upd hV (t + 1) 0)) :
    wY_runPath_700 post J (-1) x2 (nI t) e x (nI mC) (nI mA) (nI n) ph sols fails lK lV lL lA f_curLen ov f_used f_allocs f_nf f_nc (nI (t + 1)) rk rv tk ta lB cu gVar gPar gK gV gPos gEnv hP hE hS hK hV := by
  have hc : (nI t).toNatClampNeg = t := nI_clamp (by omega)
  exact ⟨vp_in_nI (by omega) (by decide), nm_r (by rw [hc]) (am_ypush (t := t + 1) (by omega) ex (am_yO h))⟩
theorem am_y659 {J : Int32 → Int32 → Int32 → Int32 → Int32 → Int32 → Int32 → Int32 → Int32 → Int32 → Int32 → Int32 → Int32 → Int32 → Int32 → Int32 → Int32 → Int32 → Int32 → Int32 → Int32 → (Nat → Int32) → (Nat → Int32) → (Nat → Int32) → (Nat → Int32) → (Nat → Int32) → (Nat → Int32) → (Nat → Int32) → (Nat → Int32) → (Nat → Int32) → (Nat → Int32) → (Nat → Int32) → (Nat → Int32) → (Nat → Int32) → (Nat → Int32) → (Nat → Int32) → Prop} {x2 : Int32} {t u : Nat} {cu gVar gPar gK gV gPos gEnv hP hE hS hK hV : Nat → Int32} {f_curLen f_allocs f_nf f_nc : Int32} (hn : n ≤ 32) (hp : p < n) (ht : t < 1000) (hu : u < 6) (hcu : cu u = am_bI (b u))
    (h : J (-1) x2 (nI mC) (nI mA) (nI n) ph sols fails lK lV lL lA f_curLen ov (nI (u + 1)) f_allocs f_nf f_nc (nI (t + 1 + 1)) rk rv tk ta lB cu gVar gPar gK gV gPos gEnv (upd hP (t + 1) (nI (am_q8 n tk p (b u)))) (upd hE (t + 1) e) (upd (upd hS t 1) (t + 1) 0) (upd hK (t + 1) 0) (upd hV (t + 1) 0)) :
    wY_runPath_659 post J (-1) x2 (nI t) (nI p) e (nI u) (nI mC) (nI mA) (nI n) ph sols fails lK lV lL lA f_curLen ov (nI u) f_allocs f_nf f_nc (nI (t + 1)) rk rv tk ta lB cu gVar gPar gK gV gPos gEnv hP hE hS hK hV := by
  have hc : cu (nI u).toNatClampNeg = am_bI (b u) := by rw [nI_clamp (by omega)]; exact hcu
  refine ⟨vp_in_nI hu (by decide), nm_r hc (nm_r (nI_1 u) (nm_r (nI_1 p) ?_))⟩
  unfold am_q8 at h
  cases hb : b u with
  | true =>
    rw [hb, if_pos rfl] at h
    exact br_t rfl (am_yend hn hp (nI_1 p) (am_y700 ht rfl h))
  | false =>
    rw [hb, if_neg (by decide)] at h
    exact br_f (by decide) (am_y700 ht rfl h)
theorem am_yr_amb (hn : n ≤ 32) (hA : mA ≤ 16) (hC : mC ≤ 6) (hL : L0 ≤ 6) (hz : ∀ j, L0 ≤ j → b j = false) (H : am_H n mC mA s e p stk) (hk : tk p = 8) (hu : am_us s < mC) (h : am_LY post n tk ta mC mA ph sols fails lK lV lL lA ov lB b L0 a ((am_q8 n tk p (b (am_us s)), e, 0, 0, 0) :: (p, e, 1, 0, 0) :: stk) rk rv (am_tick s)) : am_LY post n tk ta mC mA ph sols fails lK lV lL lA ov lB b L0 (a + 1) ((p, e, 0, 0, 0) :: stk) rk rv s := by
  intro m cur gVar gPar gK gV gPos gEnv hP hE hS hK hV h1 h2 h3 h4 h5
  obtain ⟨m, rfl⟩ : ∃ m', m = m' + 1 := ⟨m - 1, by omega⟩
  have hl := H.2.2.2.1
  have hp := H.2.2.1
  obtain ⟨f1, f2, f3, f4, f5, f6, f7, f10, f11, f12, f13, f14, f15, fc⟩ := am_yfacts (tk := tk) (ta := ta) hn (Nat.le_of_lt hp) (by omega) h2 h4
  have f8 : nI p < nI n := nI_lt hp (by omega)
  have f9 : vp_in (nI p) 32 := vp_in_nI (by omega) (by decide)
  have at1 := am_al_tick s
  have eu : am_us (am_tick s) = am_us s + 1 := rfl
  have u1 : ¬ nI mC ≤ nI (am_us s) := nI_ge hu (by omega)
  have u2 : ¬ nI (am_us s) < 0 := nI_pos (by omega)
  have u3 : nI (am_us s) < 6 := nI_lt (b := 6) (by omega) (by decide)
  by_cases q : am_us s < L0
  · have em : am_mx L0 (am_us s) = L0 := by unfold am_mx; omega
    have em' : am_mx L0 (am_us s + 1) = L0 := by unfold am_mx; omega
    have c5 : ∀ j, j < am_mx L0 (am_us (am_tick s)) → cur j = am_bI (b j) := by
      rw [eu, em']
      rw [em] at h5
      exact h5
    have hh := h m cur gVar gPar gK gV gPos gEnv (upd hP (stk.length + 1) (nI (am_q8 n tk p (b (am_us s))))) (upd hE (stk.length + 1) e) (upd (upd hS stk.length 1) (stk.length + 1) 0) (upd hK (stk.length + 1) 0) (upd hV (stk.length + 1) 0) (by omega) (by omega) h3 (am_fy_push (am_fy_st h4)) c5
    rw [eu, em'] at hh
    rw [em]
    rw [wY_runPath_46]
    exact br_t rfl (br_f f1 (nm_r f2 (br_f f3 (nm_r f4 ⟨f5, nm_r f6 (br_f f7 (br_t f8 ⟨f9, nm_r f10 ⟨f9, nm_r f11 ⟨f5, nm_r f12 ⟨f5, nm_r f13 (br_f (by rw [hk]; decide) (br_f (by rw [hk]; decide) (br_f (by rw [hk]; decide) (br_t (by rw [hk]; decide) (br_f (by rw [hk]; decide) (br_t hk (br_t rfl (br_f u1 (br_f u2 (br_t u3 (br_t (nI_lt q (by omega)) (am_y659 hn hp (by omega) (by omega) (h5 _ (by omega)) hh))))))))))))⟩⟩⟩⟩))⟩))))
  · have em : am_mx L0 (am_us s) = am_us s := by unfold am_mx; omega
    have em' : am_mx L0 (am_us s + 1) = am_us s + 1 := by unfold am_mx; omega
    have c5 : ∀ j, j < am_mx L0 (am_us (am_tick s)) → upd cur (am_us s) 0 j = am_bI (b j) := by
      rw [eu, em']
      rw [em] at h5
      intro j hj
      by_cases z : j = am_us s
      · rw [z, am_up_s, hz (am_us s) (by omega)]
        rfl
      · rw [am_up_n z]
        exact h5 j (by omega)
    have hh := h m (upd cur (am_us s) 0) gVar gPar gK gV gPos gEnv (upd hP (stk.length + 1) (nI (am_q8 n tk p (b (am_us s))))) (upd hE (stk.length + 1) e) (upd (upd hS stk.length 1) (stk.length + 1) 0) (upd hK (stk.length + 1) 0) (upd hV (stk.length + 1) 0) (by omega) (by omega) h3 (am_fy_push (am_fy_st h4)) c5
    rw [eu, em'] at hh
    rw [em]
    rw [wY_runPath_46]
    exact br_t rfl (br_f f1 (nm_r f2 (br_f f3 (nm_r f4 ⟨f5, nm_r f6 (br_f f7 (br_t f8 ⟨f9, nm_r f10 ⟨f9, nm_r f11 ⟨f5, nm_r f12 ⟨f5, nm_r f13 (br_f (by rw [hk]; decide) (br_f (by rw [hk]; decide) (br_f (by rw [hk]; decide) (br_t (by rw [hk]; decide) (br_f (by rw [hk]; decide) (br_t hk (br_t rfl (br_f u1 (br_f u2 (br_t u3 (br_f (nI_nlt (Nat.le_refl _) (by omega)) ⟨vp_in_nI (by omega) (by decide), nm_r (by rw [nI_clamp (by omega)]) (nm_r (nI_1 _) (am_y659 hn hp (by omega) (by omega) (by rw [am_up_s, hz (am_us s) (by omega)]; rfl) hh))⟩)))))))))))⟩⟩⟩⟩))⟩))))
theorem am_yr_ambF (hn : n ≤ 32) (hA : mA ≤ 16) (H : am_H n mC mA s e p stk) (hC : mC ≤ 6) (hk : tk p = 8) (hu : mC ≤ am_us s) (hq : am_QY post n tk ta mC mA ph sols fails lK lV lL lA ov lB b L0 s) : am_LY post n tk ta mC mA ph sols fails lK lV lL lA ov lB b L0 (a + 1) ((p, e, 0, 0, 0) :: stk) rk rv s := by
  intro m cur gVar gPar gK gV gPos gEnv hP hE hS hK hV h1 h2 h3 h4 h5
  obtain ⟨m, rfl⟩ : ∃ m', m = m' + 1 := ⟨m - 1, by omega⟩
  have hl := H.2.2.2.1
  have hp := H.2.2.1
  obtain ⟨f1, f2, f3, f4, f5, f6, f7, f10, f11, f12, f13, f14, f15, fc⟩ := am_yfacts (tk := tk) (ta := ta) hn (Nat.le_of_lt hp) (by omega) h2 h4
  have f8 : nI p < nI n := nI_lt hp (by omega)
  have f9 : vp_in (nI p) 32 := vp_in_nI (by omega) (by decide)
  rw [wY_runPath_46]
  exact br_t rfl (br_f f1 (nm_r f2 (br_f f3 (nm_r f4 ⟨f5, nm_r f6 (br_f f7 (br_t f8 ⟨f9, nm_r f10 ⟨f9, nm_r f11 ⟨f5, nm_r f12 ⟨f5, nm_r f13 (br_f (by rw [hk]; decide) (br_f (by rw [hk]; decide) (br_f (by rw [hk]; decide) (br_t (by rw [hk]; decide) (br_f (by rw [hk]; decide) (br_t hk (br_t rfl (br_t (nI_le hu (by have := H.1.1; omega)) (am_yF (hq _ _ _ _ _ _ cur gVar gPar gK gV gPos gEnv hP hE hS hK hV h5))))))))))⟩⟩⟩⟩))⟩))))
theorem am_yr_fail (hn : n ≤ 32) (hA : mA ≤ 16) (H : am_H n mC mA s e p stk) (hk : tk p = 9) (hq : am_QY post n tk ta mC mA ph sols fails lK lV lL lA ov lB b L0 s) : am_LY post n tk ta mC mA ph sols fails lK lV lL lA ov lB b L0 (a + 1) ((p, e, 0, 0, 0) :: stk) rk rv s := by
  intro m cur gVar gPar gK gV gPos gEnv hP hE hS hK hV h1 h2 h3 h4 h5
  obtain ⟨m, rfl⟩ : ∃ m', m = m' + 1 := ⟨m - 1, by omega⟩
  have hl := H.2.2.2.1
  have hp := H.2.2.1
  obtain ⟨f1, f2, f3, f4, f5, f6, f7, f10, f11, f12, f13, f14, f15, fc⟩ := am_yfacts (tk := tk) (ta := ta) hn (Nat.le_of_lt hp) (by omega) h2 h4
  have f8 : nI p < nI n := nI_lt hp (by omega)
  have f9 : vp_in (nI p) 32 := vp_in_nI (by omega) (by decide)
  rw [wY_runPath_46]
  exact br_t rfl (br_f f1 (nm_r f2 (br_f f3 (nm_r f4 ⟨f5, nm_r f6 (br_f f7 (br_t f8 ⟨f9, nm_r f10 ⟨f9, nm_r f11 ⟨f5, nm_r f12 ⟨f5, nm_r f13 (br_f (by rw [hk]; decide) (br_f (by rw [hk]; decide) (br_f (by rw [hk]; decide) (br_t (by rw [hk]; decide) (br_f (by rw [hk]; decide) (br_f (by rw [hk]; decide) (br_t hk (am_yF (hq _ _ _ _ _ _ cur gVar gPar gK gV gPos gEnv hP hE hS hK hV h5)))))))))⟩⟩⟩⟩))⟩))))
theorem am_yr_lam (hn : n ≤ 32) (hA : mA ≤ 16) (H : am_H n mC mA s e p stk) (hk : tk p = 12) (ha : am_al s < mA) (h : am_LY post n tk ta mC mA ph sols fails lK lV lL lA ov lB b L0 a stk 2 (nI (am_nc s)) (am_nk p e s)) : am_LY post n tk ta mC mA ph sols fails lK lV lL lA ov lB b L0 (a + 1) ((p, e, 0, 0, 0) :: stk) rk rv s := by
  intro m cur gVar gPar gK gV gPos gEnv hP hE hS hK hV h1 h2 h3 h4 h5
  obtain ⟨m, rfl⟩ : ∃ m', m = m' + 1 := ⟨m - 1, by omega⟩
  have hl := H.2.2.2.1
  have hp := H.2.2.1
  obtain ⟨f1, f2, f3, f4, f5, f6, f7, f10, f11, f12, f13, f14, f15, fc⟩ := am_yfacts (tk := tk) (ta := ta) hn (Nat.le_of_lt hp) (by omega) h2 h4
  have f8 : nI p < nI n := nI_lt hp (by omega)
  have f9 : vp_in (nI p) 32 := vp_in_nI (by omega) (by decide)
  have an := am_al_nk p e s
  have cl : am_nc s < 16 := by unfold am_al at ha; omega
  have c16 : nI (am_nc s) < 16 := nI_lt (b := 16) cl (by decide)
  have vc : vp_in (nI (am_nc s)) 16 := vp_in_nI cl (by decide)
  have cc : (nI (am_nc s)).toNatClampNeg = am_nc s := nI_clamp (by omega)
  rw [wY_runPath_46]
  exact br_t rfl (br_f f1 (nm_r f2 (br_f f3 (nm_r f4 ⟨f5, nm_r f6 (br_f f7 (br_t f8 ⟨f9, nm_r f10 ⟨f9, nm_r f11 ⟨f5, nm_r f12 ⟨f5, nm_r f13 (br_f (by rw [hk]; decide) (br_f (by rw [hk]; decide) (br_f (by rw [hk]; decide) (br_t (by rw [hk]; decide) (br_f (by rw [hk]; decide) (br_f (by rw [hk]; decide) (br_f (by rw [hk]; decide) (br_f (by rw [hk]; decide) (br_f (by rw [hk]; decide) (br_t hk (am_yalT (am_al_nk p e s) ha hA (br_f (by decide) (br_t c16 ⟨vc, nm_r (by rw [cc]) ⟨vc, nm_r (by rw [cc]) (nm_r (nI_1 _) (nm_r f4 (am_yO (h m cur gVar gPar gK gV (upd gPos (am_nc s) (nI p)) (upd gEnv (am_nc s) e) hP hE hS hK hV (by omega) (by omega) (am_sy_nk h3) (am_fy_tl h4) h5))))⟩⟩)))))))))))))⟩⟩⟩⟩))⟩))))
theorem am_yr_lamF (hn : n ≤ 32) (hA : mA ≤ 16) (H : am_H n mC mA s e p stk) (hk : tk p = 12) (ha : mA ≤ am_al s) (hq : am_QY post n tk ta mC mA ph sols fails lK lV lL lA ov lB b L0 s) : am_LY post n tk ta mC mA ph sols fails lK lV lL lA ov lB b L0 (a + 1) ((p, e, 0, 0, 0) :: stk) rk rv s := by
  intro m cur gVar gPar gK gV gPos gEnv hP hE hS hK hV h1 h2 h3 h4 h5
  obtain ⟨m, rfl⟩ : ∃ m', m = m' + 1 := ⟨m - 1, by omega⟩
  have hl := H.2.2.2.1
  have hp := H.2.2.1
  obtain ⟨f1, f2, f3, f4, f5, f6, f7, f10, f11, f12, f13, f14, f15, fc⟩ := am_yfacts (tk := tk) (ta := ta) hn (Nat.le_of_lt hp) (by omega) h2 h4
  have f8 : nI p < nI n := nI_lt hp (by omega)
  have f9 : vp_in (nI p) 32 := vp_in_nI (by omega) (by decide)
  rw [wY_runPath_46]
  exact br_t rfl (br_f f1 (nm_r f2 (br_f f3 (nm_r f4 ⟨f5, nm_r f6 (br_f f7 (br_t f8 ⟨f9, nm_r f10 ⟨f9, nm_r f11 ⟨f5, nm_r f12 ⟨f5, nm_r f13 (br_f (by rw [hk]; decide) (br_f (by rw [hk]; decide) (br_f (by rw [hk]; decide) (br_t (by rw [hk]; decide) (br_f (by rw [hk]; decide) (br_f (by rw [hk]; decide) (br_f (by rw [hk]; decide) (br_f (by rw [hk]; decide) (br_f (by rw [hk]; decide) (br_t hk (am_yalF ha (am_nf16 H.1 hA).2.2 (br_t rfl (am_yF (hq _ _ _ _ _ _ cur gVar gPar gK gV gPos gEnv hP hE hS hK hV h5))))))))))))))⟩⟩⟩⟩))⟩))))
theorem am_yr_hold13 (hn : n ≤ 32) (hA : mA ≤ 16) (H : am_H n mC mA s e p stk) (hk : tk p = 13) (h : am_LY post n tk ta mC mA ph sols fails lK lV lL lA ov lB b L0 a ((am_eN tk n (p + 1), e, 0, 0, 0) :: (p, e, 2, rk, rv) :: stk) rk rv s) : am_LY post n tk ta mC mA ph sols fails lK lV lL lA ov lB b L0 (a + 1) ((p, e, 1, 0, 0) :: stk) rk rv s := by
  intro m cur gVar gPar gK gV gPos gEnv hP hE hS hK hV h1 h2 h3 h4 h5
  obtain ⟨m, rfl⟩ : ∃ m', m = m' + 1 := ⟨m - 1, by omega⟩
  have hl := H.2.2.2.1
  have hp := H.2.2.1
  obtain ⟨f1, f2, f3, f4, f5, f6, f7, f10, f11, f12, f13, f14, f15, fc⟩ := am_yfacts (tk := tk) (ta := ta) hn (Nat.le_of_lt hp) (by omega) h2 h4
  have f8 : nI p < nI n := nI_lt hp (by omega)
  have f9 : vp_in (nI p) 32 := vp_in_nI (by omega) (by decide)
  rw [wY_runPath_46]
  exact br_t rfl (br_f f1 (nm_r f2 (br_f f3 (nm_r f4 ⟨f5, nm_r f6 (br_f f7 (br_t f8 ⟨f9, nm_r f10 ⟨f9, nm_r f11 ⟨f5, nm_r f12 ⟨f5, nm_r f13 (br_f (by rw [hk]; decide) (br_f (by rw [hk]; decide) (br_f (by rw [hk]; decide) (br_t (by rw [hk]; decide) (br_f (by rw [hk]; decide) (br_f (by rw [hk]; decide) (br_f (by rw [hk]; decide) (br_f (by rw [hk]; decide) (br_f (by rw [hk]; decide) (br_f (by rw [hk]; decide) (br_t hk (br_f (by decide) (br_t rfl ⟨f5, nm_r (by rw [fc]) ⟨f5, nm_r (by rw [fc]) ⟨f5, nm_r (by rw [fc]) (am_yend hn hp (nI_1 p) (am_ypush (t := stk.length + 1) (by omega) rfl (am_yO (h m cur gVar gPar gK gV gPos gEnv (upd hP (stk.length + 1) (nI (am_eN tk n (p + 1)))) (upd hE (stk.length + 1) e) (upd (upd hS stk.length 2) (stk.length + 1) 0) (upd (upd hK stk.length rk) (stk.length + 1) 0) (upd (upd hV stk.length rv) (stk.length + 1) 0) (by omega) (by omega) h3 (am_fy_push (am_fy_kv h4)) h5))))⟩⟩⟩)))))))))))))⟩⟩⟩⟩))⟩))))
theorem am_yr_hold2 (hn : n ≤ 32) (hA : mA ≤ 16) (H : am_H n mC mA s e p stk) (hk : am_bin (tk p)) (h : am_LY post n tk ta mC mA ph sols fails lK lV lL lA ov lB b L0 a ((am_eN tk n (p + 1), e, 0, 0, 0) :: (p, e, 2, rk, rv) :: stk) rk rv s) : am_LY post n tk ta mC mA ph sols fails lK lV lL lA ov lB b L0 (a + 1) ((p, e, 1, 0, 0) :: stk) rk rv s := by
  intro m cur gVar gPar gK gV gPos gEnv hP hE hS hK hV h1 h2 h3 h4 h5
  obtain ⟨m, rfl⟩ : ∃ m', m = m' + 1 := ⟨m - 1, by omega⟩
  have hl := H.2.2.2.1
  have hp := H.2.2.1
  obtain ⟨f1, f2, f3, f4, f5, f6, f7, f10, f11, f12, f13, f14, f15, fc⟩ := am_yfacts (tk := tk) (ta := ta) hn (Nat.le_of_lt hp) (by omega) h2 h4
  have f8 : nI p < nI n := nI_lt hp (by omega)
  have f9 : vp_in (nI p) 32 := vp_in_nI (by omega) (by decide)
  have k0 : ¬ tk p = 0 := by rcases hk with q | q | q | q | q <;> rw [q] <;> decide
  have k1 : ¬ tk p = 1 := by rcases hk with q | q | q | q | q <;> rw [q] <;> decide
  have k2 : ¬ tk p < 2 := by rcases hk with q | q | q | q | q <;> rw [q] <;> decide
  have k6 : ¬ 6 < tk p := by rcases hk with q | q | q | q | q <;> rw [q] <;> decide
  rw [wY_runPath_46]
  exact br_t rfl (br_f f1 (nm_r f2 (br_f f3 (nm_r f4 ⟨f5, nm_r f6 (br_f f7 (br_t f8 ⟨f9, nm_r f10 ⟨f9, nm_r f11 ⟨f5, nm_r f12 ⟨f5, nm_r f13 (br_f k0 (br_f k1 (br_f k2 (br_f k6 (br_f (by decide) (br_t rfl ⟨f5, nm_r (by rw [fc]) ⟨f5, nm_r (by rw [fc]) ⟨f5, nm_r (by rw [fc]) (am_yend hn hp (nI_1 p) (am_ypush (t := stk.length + 1) (by omega) rfl (am_yO (h m cur gVar gPar gK gV gPos gEnv (upd hP (stk.length + 1) (nI (am_eN tk n (p + 1)))) (upd hE (stk.length + 1) e) (upd (upd hS stk.length 2) (stk.length + 1) 0) (upd (upd hK stk.length rk) (stk.length + 1) 0) (upd (upd hV stk.length rv) (stk.length + 1) 0) (by omega) (by omega) h3 (am_fy_push (am_fy_kv h4)) h5))))⟩⟩⟩))))))⟩⟩⟩⟩))⟩))))
theorem am_yr_calc2 (hn : n ≤ 32) (hA : mA ≤ 16) (H : am_H n mC mA s e p stk) (hk : tk p = 2) (h : am_LY post n tk ta mC mA ph sols fails lK lV lL lA ov lB b L0 a stk 1 (am_op (tk p) v rv) s) : am_LY post n tk ta mC mA ph sols fails lK lV lL lA ov lB b L0 (a + 1) ((p, e, 2, 1, v) :: stk) 1 rv s := by
  intro m cur gVar gPar gK gV gPos gEnv hP hE hS hK hV h1 h2 h3 h4 h5
  obtain ⟨m, rfl⟩ : ∃ m', m = m' + 1 := ⟨m - 1, by omega⟩
  have hl := H.2.2.2.1
  have hp := H.2.2.1
  obtain ⟨f1, f2, f3, f4, f5, f6, f7, f10, f11, f12, f13, f14, f15, fc⟩ := am_yfacts (tk := tk) (ta := ta) hn (Nat.le_of_lt hp) (by omega) h2 h4
  have f8 : nI p < nI n := nI_lt hp (by omega)
  have f9 : vp_in (nI p) 32 := vp_in_nI (by omega) (by decide)
  have eo : am_op (tk p) v rv = v + rv := by rw [hk]; rfl
  rw [wY_runPath_46]
  exact br_t rfl (br_f f1 (nm_r f2 (br_f f3 (nm_r f4 ⟨f5, nm_r f6 (br_f f7 (br_t f8 ⟨f9, nm_r f10 ⟨f9, nm_r f11 ⟨f5, nm_r f12 ⟨f5, nm_r f13 (br_f (by rw [hk]; decide) (br_f (by rw [hk]; decide) (br_f (by rw [hk]; decide) (br_f (by rw [hk]; decide) (br_f (by decide) (br_f (by decide) ⟨f5, br_t f14 (br_t rfl ⟨f5, nm_r f15 (br_t hk (nm_r eo.symm (nm_r f4 (am_yO (h m cur gVar gPar gK gV gPos gEnv hP hE hS hK hV (by omega) (by omega) h3 (am_fy_tl h4) h5)))))⟩)⟩))))))⟩⟩⟩⟩))⟩))))
theorem am_yr_calc3 (hn : n ≤ 32) (hA : mA ≤ 16) (H : am_H n mC mA s e p stk) (hk : tk p = 3) (h : am_LY post n tk ta mC mA ph sols fails lK lV lL lA ov lB b L0 a stk 1 (am_op (tk p) v rv) s) : am_LY post n tk ta mC mA ph sols fails lK lV lL lA ov lB b L0 (a + 1) ((p, e, 2, 1, v) :: stk) 1 rv s := by
  intro m cur gVar gPar gK gV gPos gEnv hP hE hS hK hV h1 h2 h3 h4 h5
  obtain ⟨m, rfl⟩ : ∃ m', m = m' + 1 := ⟨m - 1, by omega⟩
  have hl := H.2.2.2.1
  have hp := H.2.2.1
  obtain ⟨f1, f2, f3, f4, f5, f6, f7, f10, f11, f12, f13, f14, f15, fc⟩ := am_yfacts (tk := tk) (ta := ta) hn (Nat.le_of_lt hp) (by omega) h2 h4
  have f8 : nI p < nI n := nI_lt hp (by omega)
  have f9 : vp_in (nI p) 32 := vp_in_nI (by omega) (by decide)
  have eo : am_op (tk p) v rv = v - rv := by rw [hk]; rfl
  rw [wY_runPath_46]
  exact br_t rfl (br_f f1 (nm_r f2 (br_f f3 (nm_r f4 ⟨f5, nm_r f6 (br_f f7 (br_t f8 ⟨f9, nm_r f10 ⟨f9, nm_r f11 ⟨f5, nm_r f12 ⟨f5, nm_r f13 (br_f (by rw [hk]; decide) (br_f (by rw [hk]; decide) (br_f (by rw [hk]; decide) (br_f (by rw [hk]; decide) (br_f (by decide) (br_f (by decide) ⟨f5, br_t f14 (br_t rfl ⟨f5, nm_r f15 (br_f (by rw [hk]; decide) (br_t hk (nm_r eo.symm (nm_r f4 (am_yO (h m cur gVar gPar gK gV gPos gEnv hP hE hS hK hV (by omega) (by omega) h3 (am_fy_tl h4) h5))))))⟩)⟩))))))⟩⟩⟩⟩))⟩))))
theorem am_yr_calc4 (hn : n ≤ 32) (hA : mA ≤ 16) (H : am_H n mC mA s e p stk) (hk : tk p = 4) (h : am_LY post n tk ta mC mA ph sols fails lK lV lL lA ov lB b L0 a stk 1 (am_op (tk p) v rv) s) : am_LY post n tk ta mC mA ph sols fails lK lV lL lA ov lB b L0 (a + 1) ((p, e, 2, 1, v) :: stk) 1 rv s := by
  intro m cur gVar gPar gK gV gPos gEnv hP hE hS hK hV h1 h2 h3 h4 h5
  obtain ⟨m, rfl⟩ : ∃ m', m = m' + 1 := ⟨m - 1, by omega⟩
  have hl := H.2.2.2.1
  have hp := H.2.2.1
  obtain ⟨f1, f2, f3, f4, f5, f6, f7, f10, f11, f12, f13, f14, f15, fc⟩ := am_yfacts (tk := tk) (ta := ta) hn (Nat.le_of_lt hp) (by omega) h2 h4
  have f8 : nI p < nI n := nI_lt hp (by omega)
  have f9 : vp_in (nI p) 32 := vp_in_nI (by omega) (by decide)
  have eo : am_op (tk p) v rv = v * rv := by rw [hk]; rfl
  rw [wY_runPath_46]
  exact br_t rfl (br_f f1 (nm_r f2 (br_f f3 (nm_r f4 ⟨f5, nm_r f6 (br_f f7 (br_t f8 ⟨f9, nm_r f10 ⟨f9, nm_r f11 ⟨f5, nm_r f12 ⟨f5, nm_r f13 (br_f (by rw [hk]; decide) (br_f (by rw [hk]; decide) (br_f (by rw [hk]; decide) (br_f (by rw [hk]; decide) (br_f (by decide) (br_f (by decide) ⟨f5, br_t f14 (br_t rfl ⟨f5, nm_r f15 (br_f (by rw [hk]; decide) (br_f (by rw [hk]; decide) (br_t hk (nm_r eo.symm (nm_r f4 (am_yO (h m cur gVar gPar gK gV gPos gEnv hP hE hS hK hV (by omega) (by omega) h3 (am_fy_tl h4) h5)))))))⟩)⟩))))))⟩⟩⟩⟩))⟩))))
theorem am_yr_calc5 (hn : n ≤ 32) (hA : mA ≤ 16) (H : am_H n mC mA s e p stk) (hk : tk p = 5) (h : am_LY post n tk ta mC mA ph sols fails lK lV lL lA ov lB b L0 a stk 1 (am_op (tk p) v rv) s) : am_LY post n tk ta mC mA ph sols fails lK lV lL lA ov lB b L0 (a + 1) ((p, e, 2, 1, v) :: stk) 1 rv s := by
  intro m cur gVar gPar gK gV gPos gEnv hP hE hS hK hV h1 h2 h3 h4 h5
  obtain ⟨m, rfl⟩ : ∃ m', m = m' + 1 := ⟨m - 1, by omega⟩
  have hl := H.2.2.2.1
  have hp := H.2.2.1
  obtain ⟨f1, f2, f3, f4, f5, f6, f7, f10, f11, f12, f13, f14, f15, fc⟩ := am_yfacts (tk := tk) (ta := ta) hn (Nat.le_of_lt hp) (by omega) h2 h4
  have f8 : nI p < nI n := nI_lt hp (by omega)
  have f9 : vp_in (nI p) 32 := vp_in_nI (by omega) (by decide)
  have eo : am_op (tk p) v rv = if v < rv then 1 else 0 := by rw [hk]; rfl
  rw [wY_runPath_46]
  exact br_t rfl (br_f f1 (nm_r f2 (br_f f3 (nm_r f4 ⟨f5, nm_r f6 (br_f f7 (br_t f8 ⟨f9, nm_r f10 ⟨f9, nm_r f11 ⟨f5, nm_r f12 ⟨f5, nm_r f13 (br_f (by rw [hk]; decide) (br_f (by rw [hk]; decide) (br_f (by rw [hk]; decide) (br_f (by rw [hk]; decide) (br_f (by decide) (br_f (by decide) ⟨f5, br_t f14 (br_t rfl ⟨f5, nm_r f15 (br_f (by rw [hk]; decide) (br_f (by rw [hk]; decide) (br_f (by rw [hk]; decide) (br_t hk (br_c (fun q => by rw [eo, if_neg (Int32.not_lt.mpr q)] at h; exact nm_r f4 (am_yO (h m cur gVar gPar gK gV gPos gEnv hP hE hS hK hV (by omega) (by omega) h3 (am_fy_tl h4) h5))) (fun q => by rw [eo, if_pos (Int32.not_le.mp q)] at h; exact nm_r f4 (am_yO (h m cur gVar gPar gK gV gPos gEnv hP hE hS hK hV (by omega) (by omega) h3 (am_fy_tl h4) h5))))))))⟩)⟩))))))⟩⟩⟩⟩))⟩))))
theorem am_yr_calc6 (hn : n ≤ 32) (hA : mA ≤ 16) (H : am_H n mC mA s e p stk) (hk : tk p = 6) (h : am_LY post n tk ta mC mA ph sols fails lK lV lL lA ov lB b L0 a stk 1 (am_op (tk p) v rv) s) : am_LY post n tk ta mC mA ph sols fails lK lV lL lA ov lB b L0 (a + 1) ((p, e, 2, 1, v) :: stk) 1 rv s := by
  intro m cur gVar gPar gK gV gPos gEnv hP hE hS hK hV h1 h2 h3 h4 h5
  obtain ⟨m, rfl⟩ : ∃ m', m = m' + 1 := ⟨m - 1, by omega⟩
  have hl := H.2.2.2.1
  have hp := H.2.2.1
  obtain ⟨f1, f2, f3, f4, f5, f6, f7, f10, f11, f12, f13, f14, f15, fc⟩ := am_yfacts (tk := tk) (ta := ta) hn (Nat.le_of_lt hp) (by omega) h2 h4
  have f8 : nI p < nI n := nI_lt hp (by omega)
  have f9 : vp_in (nI p) 32 := vp_in_nI (by omega) (by decide)
  have eo : am_op (tk p) v rv = if v = rv then 1 else 0 := by rw [hk]; rfl
  rw [wY_runPath_46]
  exact br_t rfl (br_f f1 (nm_r f2 (br_f f3 (nm_r f4 ⟨f5, nm_r f6 (br_f f7 (br_t f8 ⟨f9, nm_r f10 ⟨f9, nm_r f11 ⟨f5, nm_r f12 ⟨f5, nm_r f13 (br_f (by rw [hk]; decide) (br_f (by rw [hk]; decide) (br_f (by rw [hk]; decide) (br_f (by rw [hk]; decide) (br_f (by decide) (br_f (by decide) ⟨f5, br_t f14 (br_t rfl ⟨f5, nm_r f15 (br_f (by rw [hk]; decide) (br_f (by rw [hk]; decide) (br_f (by rw [hk]; decide) (br_f (by rw [hk]; decide) (br_c (fun q => by rw [eo, if_pos q] at h; exact nm_r f4 (am_yO (h m cur gVar gPar gK gV gPos gEnv hP hE hS hK hV (by omega) (by omega) h3 (am_fy_tl h4) h5))) (fun q => by rw [eo, if_neg q] at h; exact nm_r f4 (am_yO (h m cur gVar gPar gK gV gPos gEnv hP hE hS hK hV (by omega) (by omega) h3 (am_fy_tl h4) h5))))))))⟩)⟩))))))⟩⟩⟩⟩))⟩))))
theorem am_yr_calcF (hn : n ≤ 32) (hA : mA ≤ 16) (H : am_H n mC mA s e p stk) (hk : am_bin (tk p)) (hno : ¬ (k = 1 ∧ rk = 1)) (hq : am_QY post n tk ta mC mA ph sols fails lK lV lL lA ov lB b L0 s) : am_LY post n tk ta mC mA ph sols fails lK lV lL lA ov lB b L0 (a + 1) ((p, e, 2, k, v) :: stk) rk rv s := by
  intro m cur gVar gPar gK gV gPos gEnv hP hE hS hK hV h1 h2 h3 h4 h5
  obtain ⟨m, rfl⟩ : ∃ m', m = m' + 1 := ⟨m - 1, by omega⟩
  have hl := H.2.2.2.1
  have hp := H.2.2.1
  obtain ⟨f1, f2, f3, f4, f5, f6, f7, f10, f11, f12, f13, f14, f15, fc⟩ := am_yfacts (tk := tk) (ta := ta) hn (Nat.le_of_lt hp) (by omega) h2 h4
  have f8 : nI p < nI n := nI_lt hp (by omega)
  have f9 : vp_in (nI p) 32 := vp_in_nI (by omega) (by decide)
  have k0 : ¬ tk p = 0 := by rcases hk with q | q | q | q | q <;> rw [q] <;> decide
  have k1 : ¬ tk p = 1 := by rcases hk with q | q | q | q | q <;> rw [q] <;> decide
  have k2 : ¬ tk p < 2 := by rcases hk with q | q | q | q | q <;> rw [q] <;> decide
  have k6 : ¬ 6 < tk p := by rcases hk with q | q | q | q | q <;> rw [q] <;> decide
  rw [wY_runPath_46]
  exact br_t rfl (br_f f1 (nm_r f2 (br_f f3 (nm_r f4 ⟨f5, nm_r f6 (br_f f7 (br_t f8 ⟨f9, nm_r f10 ⟨f9, nm_r f11 ⟨f5, nm_r f12 ⟨f5, nm_r f13 (br_f k0 (br_f k1 (br_f k2 (br_f k6 (br_f (by decide) (br_f (by decide) ⟨f5, br_c (fun q1 => br_f (fun q2 => hno ⟨f14.symm.trans q1, q2⟩) (am_yF (hq _ _ _ _ _ _ cur gVar gPar gK gV gPos gEnv hP hE hS hK hV h5))) (fun _ => am_yF (hq _ _ _ _ _ _ cur gVar gPar gK gV gPos gEnv hP hE hS hK hV h5))⟩))))))⟩⟩⟩⟩))⟩))))
theorem am_yr_if (hn : n ≤ 32) (hA : mA ≤ 16) (H : am_H n mC mA s e p stk) (hk : tk p = 7) (h : am_LY post n tk ta mC mA ph sols fails lK lV lL lA ov lB b L0 a ((am_q7 n tk p rv, e, 0, 0, 0) :: (p, e, 2, 0, 0) :: stk) 1 rv s) : am_LY post n tk ta mC mA ph sols fails lK lV lL lA ov lB b L0 (a + 1) ((p, e, 1, 0, 0) :: stk) 1 rv s := by
  intro m cur gVar gPar gK gV gPos gEnv hP hE hS hK hV h1 h2 h3 h4 h5
  obtain ⟨m, rfl⟩ : ∃ m', m = m' + 1 := ⟨m - 1, by omega⟩
  have hl := H.2.2.2.1
  have hp := H.2.2.1
  obtain ⟨f1, f2, f3, f4, f5, f6, f7, f10, f11, f12, f13, f14, f15, fc⟩ := am_yfacts (tk := tk) (ta := ta) hn (Nat.le_of_lt hp) (by omega) h2 h4
  have f8 : nI p < nI n := nI_lt hp (by omega)
  have f9 : vp_in (nI p) 32 := vp_in_nI (by omega) (by decide)
  rw [wY_runPath_46]
  exact br_t rfl (br_f f1 (nm_r f2 (br_f f3 (nm_r f4 ⟨f5, nm_r f6 (br_f f7 (br_t f8 ⟨f9, nm_r f10 ⟨f9, nm_r f11 ⟨f5, nm_r f12 ⟨f5, nm_r f13 (br_f (by rw [hk]; decide) (br_f (by rw [hk]; decide) (br_f (by rw [hk]; decide) (br_t (by rw [hk]; decide) (br_t hk (br_f (by decide) (br_t rfl (br_t rfl (am_yend hn hp (nI_1 p) (br_c (fun q => am_yend hn (am_eN_le hp) rfl (by unfold am_q7 at h; rw [if_pos q] at h; exact ⟨f5, nm_r (by rw [fc]) (am_ypush (t := stk.length + 1) (by omega) rfl (am_yO (h m cur gVar gPar gK gV gPos gEnv (upd hP (stk.length + 1) (nI (am_eN tk n (am_eN tk n (p + 1))))) (upd hE (stk.length + 1) e) (upd (upd hS stk.length 2) (stk.length + 1) 0) (upd hK (stk.length + 1) 0) (upd hV (stk.length + 1) 0) (by omega) (by omega) h3 (am_fy_push (am_fy_st h4)) h5)))⟩)) (fun q => by unfold am_q7 at h; rw [if_neg q] at h; exact ⟨f5, nm_r (by rw [fc]) (am_ypush (t := stk.length + 1) (by omega) rfl (am_yO (h m cur gVar gPar gK gV gPos gEnv (upd hP (stk.length + 1) (nI (am_eN tk n (p + 1)))) (upd hE (stk.length + 1) e) (upd (upd hS stk.length 2) (stk.length + 1) 0) (upd hK (stk.length + 1) 0) (upd hV (stk.length + 1) 0) (by omega) (by omega) h3 (am_fy_push (am_fy_st h4)) h5)))⟩)))))))))))⟩⟩⟩⟩))⟩))))
theorem am_yr_ifF (hn : n ≤ 32) (hA : mA ≤ 16) (H : am_H n mC mA s e p stk) (hk : tk p = 7) (hno : ¬ rk = 1) (hq : am_QY post n tk ta mC mA ph sols fails lK lV lL lA ov lB b L0 s) : am_LY post n tk ta mC mA ph sols fails lK lV lL lA ov lB b L0 (a + 1) ((p, e, 1, 0, 0) :: stk) rk rv s := by
  intro m cur gVar gPar gK gV gPos gEnv hP hE hS hK hV h1 h2 h3 h4 h5
  obtain ⟨m, rfl⟩ : ∃ m', m = m' + 1 := ⟨m - 1, by omega⟩
  have hl := H.2.2.2.1
  have hp := H.2.2.1
  obtain ⟨f1, f2, f3, f4, f5, f6, f7, f10, f11, f12, f13, f14, f15, fc⟩ := am_yfacts (tk := tk) (ta := ta) hn (Nat.le_of_lt hp) (by omega) h2 h4
  have f8 : nI p < nI n := nI_lt hp (by omega)
  have f9 : vp_in (nI p) 32 := vp_in_nI (by omega) (by decide)
  rw [wY_runPath_46]
  exact br_t rfl (br_f f1 (nm_r f2 (br_f f3 (nm_r f4 ⟨f5, nm_r f6 (br_f f7 (br_t f8 ⟨f9, nm_r f10 ⟨f9, nm_r f11 ⟨f5, nm_r f12 ⟨f5, nm_r f13 (br_f (by rw [hk]; decide) (br_f (by rw [hk]; decide) (br_f (by rw [hk]; decide) (br_t (by rw [hk]; decide) (br_t hk (br_f (by decide) (br_t rfl (br_f hno (am_yF (hq _ _ _ _ _ _ cur gVar gPar gK gV gPos gEnv hP hE hS hK hV h5))))))))))⟩⟩⟩⟩))⟩))))
theorem am_yr_req (hn : n ≤ 32) (hA : mA ≤ 16) (H : am_H n mC mA s e p stk) (hk : tk p = 10) (hv : ¬ rv = 0) (h : am_LY post n tk ta mC mA ph sols fails lK lV lL lA ov lB b L0 a ((am_eN tk n (p + 1), e, 0, 0, 0) :: (p, e, 2, 0, 0) :: stk) 1 rv s) : am_LY post n tk ta mC mA ph sols fails lK lV lL lA ov lB b L0 (a + 1) ((p, e, 1, 0, 0) :: stk) 1 rv s := by
  intro m cur gVar gPar gK gV gPos gEnv hP hE hS hK hV h1 h2 h3 h4 h5
  obtain ⟨m, rfl⟩ : ∃ m', m = m' + 1 := ⟨m - 1, by omega⟩
  have hl := H.2.2.2.1
  have hp := H.2.2.1
  obtain ⟨f1, f2, f3, f4, f5, f6, f7, f10, f11, f12, f13, f14, f15, fc⟩ := am_yfacts (tk := tk) (ta := ta) hn (Nat.le_of_lt hp) (by omega) h2 h4
  have f8 : nI p < nI n := nI_lt hp (by omega)
  have f9 : vp_in (nI p) 32 := vp_in_nI (by omega) (by decide)
  rw [wY_runPath_46]
  exact br_t rfl (br_f f1 (nm_r f2 (br_f f3 (nm_r f4 ⟨f5, nm_r f6 (br_f f7 (br_t f8 ⟨f9, nm_r f10 ⟨f9, nm_r f11 ⟨f5, nm_r f12 ⟨f5, nm_r f13 (br_f (by rw [hk]; decide) (br_f (by rw [hk]; decide) (br_f (by rw [hk]; decide) (br_t (by rw [hk]; decide) (br_f (by rw [hk]; decide) (br_f (by rw [hk]; decide) (br_f (by rw [hk]; decide) (br_t hk (br_f (by decide) (br_t rfl (br_t rfl (br_f hv (am_yend hn hp (nI_1 p) ⟨f5, nm_r (by rw [fc]) (am_ypush (t := stk.length + 1) (by omega) rfl (am_yO (h m cur gVar gPar gK gV gPos gEnv (upd hP (stk.length + 1) (nI (am_eN tk n (p + 1)))) (upd hE (stk.length + 1) e) (upd (upd hS stk.length 2) (stk.length + 1) 0) (upd hK (stk.length + 1) 0) (upd hV (stk.length + 1) 0) (by omega) (by omega) h3 (am_fy_push (am_fy_st h4)) h5)))⟩)))))))))))))⟩⟩⟩⟩))⟩))))
theorem am_yr_reqF (hn : n ≤ 32) (hA : mA ≤ 16) (H : am_H n mC mA s e p stk) (hk : tk p = 10) (hno : ¬ (rk = 1 ∧ ¬ rv = 0)) (hq : am_QY post n tk ta mC mA ph sols fails lK lV lL lA ov lB b L0 s) : am_LY post n tk ta mC mA ph sols fails lK lV lL lA ov lB b L0 (a + 1) ((p, e, 1, 0, 0) :: stk) rk rv s := by
  intro m cur gVar gPar gK gV gPos gEnv hP hE hS hK hV h1 h2 h3 h4 h5
  obtain ⟨m, rfl⟩ : ∃ m', m = m' + 1 := ⟨m - 1, by omega⟩
  have hl := H.2.2.2.1
  have hp := H.2.2.1
  obtain ⟨f1, f2, f3, f4, f5, f6, f7, f10, f11, f12, f13, f14, f15, fc⟩ := am_yfacts (tk := tk) (ta := ta) hn (Nat.le_of_lt hp) (by omega) h2 h4
  have f8 : nI p < nI n := nI_lt hp (by omega)
  have f9 : vp_in (nI p) 32 := vp_in_nI (by omega) (by decide)
  rw [wY_runPath_46]
  exact br_t rfl (br_f f1 (nm_r f2 (br_f f3 (nm_r f4 ⟨f5, nm_r f6 (br_f f7 (br_t f8 ⟨f9, nm_r f10 ⟨f9, nm_r f11 ⟨f5, nm_r f12 ⟨f5, nm_r f13 (br_f (by rw [hk]; decide) (br_f (by rw [hk]; decide) (br_f (by rw [hk]; decide) (br_t (by rw [hk]; decide) (br_f (by rw [hk]; decide) (br_f (by rw [hk]; decide) (br_f (by rw [hk]; decide) (br_t hk (br_f (by decide) (br_t rfl (br_c (fun q => br_c (fun _ => am_yF (hq _ _ _ _ _ _ cur gVar gPar gK gV gPos gEnv hP hE hS hK hV h5)) (fun q2 => absurd ⟨q, q2⟩ hno)) (fun _ => am_yF (hq _ _ _ _ _ _ cur gVar gPar gK gV gPos gEnv hP hE hS hK hV h5)))))))))))))⟩⟩⟩⟩))⟩))))
theorem am_yr_let (hn : n ≤ 32) (hA : mA ≤ 16) (H : am_H n mC mA s e p stk) (hk : tk p = 11) (ha : am_al s < mA) (h : am_LY post n tk ta mC mA ph sols fails lK lV lL lA ov lB b L0 a ((am_eN tk n (p + 1), nI (am_nf s), 0, 0, 0) :: (p, e, 2, 0, 0) :: stk) rk rv (am_nl (ta p) e rk rv s)) : am_LY post n tk ta mC mA ph sols fails lK lV lL lA ov lB b L0 (a + 1) ((p, e, 1, 0, 0) :: stk) rk rv s := by
  intro m cur gVar gPar gK gV gPos gEnv hP hE hS hK hV h1 h2 h3 h4 h5
  obtain ⟨m, rfl⟩ : ∃ m', m = m' + 1 := ⟨m - 1, by omega⟩
  have hl := H.2.2.2.1
  have hp := H.2.2.1
  obtain ⟨f1, f2, f3, f4, f5, f6, f7, f10, f11, f12, f13, f14, f15, fc⟩ := am_yfacts (tk := tk) (ta := ta) hn (Nat.le_of_lt hp) (by omega) h2 h4
  have f8 : nI p < nI n := nI_lt hp (by omega)
  have f9 : vp_in (nI p) 32 := vp_in_nI (by omega) (by decide)
  have an := am_al_nl (ta p) e rk rv s
  have nl : am_nf s < 16 := by unfold am_al at ha; omega
  have n16 : nI (am_nf s) < 16 := nI_lt (b := 16) nl (by decide)
  have vn : vp_in (nI (am_nf s)) 16 := vp_in_nI nl (by decide)
  have nn : (nI (am_nf s)).toNatClampNeg = am_nf s := nI_clamp (by omega)
  rw [wY_runPath_46]
  exact br_t rfl (br_f f1 (nm_r f2 (br_f f3 (nm_r f4 ⟨f5, nm_r f6 (br_f f7 (br_t f8 ⟨f9, nm_r f10 ⟨f9, nm_r f11 ⟨f5, nm_r f12 ⟨f5, nm_r f13 (br_f (by rw [hk]; decide) (br_f (by rw [hk]; decide) (br_f (by rw [hk]; decide) (br_t (by rw [hk]; decide) (br_f (by rw [hk]; decide) (br_f (by rw [hk]; decide) (br_f (by rw [hk]; decide) (br_f (by rw [hk]; decide) (br_t hk (br_f (by decide) (br_t rfl (am_yalT (am_al_nl (ta p) e rk rv s) ha hA (br_f (by decide) (br_t n16 ⟨vn, nm_r (by rw [nn]) ⟨vn, nm_r (by rw [nn]) ⟨vn, nm_r (by rw [nn]) ⟨vn, nm_r (by rw [nn]) (nm_r (nI_1 _) (am_yend hn hp (nI_1 p) ⟨f5, nm_r (by rw [fc]) (am_ypush (t := stk.length + 1) (by omega) rfl (am_yO (h m cur (upd gVar (am_nf s) (ta p)) (upd gPar (am_nf s) e) (upd gK (am_nf s) rk) (upd gV (am_nf s) rv) gPos gEnv (upd hP (stk.length + 1) (nI (am_eN tk n (p + 1)))) (upd hE (stk.length + 1) (nI (am_nf s))) (upd (upd hS stk.length 2) (stk.length + 1) 0) (upd hK (stk.length + 1) 0) (upd hV (stk.length + 1) 0) (by omega) (by omega) (am_sy_nl h3) (am_fy_push (am_fy_st h4)) h5)))⟩))⟩⟩⟩⟩))))))))))))))⟩⟩⟩⟩))⟩))))
theorem am_yr_letF (hn : n ≤ 32) (hA : mA ≤ 16) (H : am_H n mC mA s e p stk) (hk : tk p = 11) (ha : mA ≤ am_al s) (hq : am_QY post n tk ta mC mA ph sols fails lK lV lL lA ov lB b L0 s) : am_LY post n tk ta mC mA ph sols fails lK lV lL lA ov lB b L0 (a + 1) ((p, e, 1, 0, 0) :: stk) rk rv s := by
  intro m cur gVar gPar gK gV gPos gEnv hP hE hS hK hV h1 h2 h3 h4 h5
  obtain ⟨m, rfl⟩ : ∃ m', m = m' + 1 := ⟨m - 1, by omega⟩
  have hl := H.2.2.2.1
  have hp := H.2.2.1
  obtain ⟨f1, f2, f3, f4, f5, f6, f7, f10, f11, f12, f13, f14, f15, fc⟩ := am_yfacts (tk := tk) (ta := ta) hn (Nat.le_of_lt hp) (by omega) h2 h4
  have f8 : nI p < nI n := nI_lt hp (by omega)
  have f9 : vp_in (nI p) 32 := vp_in_nI (by omega) (by decide)
  rw [wY_runPath_46]
  exact br_t rfl (br_f f1 (nm_r f2 (br_f f3 (nm_r f4 ⟨f5, nm_r f6 (br_f f7 (br_t f8 ⟨f9, nm_r f10 ⟨f9, nm_r f11 ⟨f5, nm_r f12 ⟨f5, nm_r f13 (br_f (by rw [hk]; decide) (br_f (by rw [hk]; decide) (br_f (by rw [hk]; decide) (br_t (by rw [hk]; decide) (br_f (by rw [hk]; decide) (br_f (by rw [hk]; decide) (br_f (by rw [hk]; decide) (br_f (by rw [hk]; decide) (br_t hk (br_f (by decide) (br_t rfl (am_yalF ha (am_nf16 H.1 hA).2.2 (br_t rfl (am_yF (hq _ _ _ _ _ _ cur gVar gPar gK gV gPos gEnv hP hE hS hK hV h5)))))))))))))))⟩⟩⟩⟩))⟩))))
theorem am_yr_set (hn : n ≤ 32) (hA : mA ≤ 16) (H : am_H n mC mA s e p stk) (hk : tk p = 14) {f : Nat} (hf : f < am_nf s) (hlk : am_lk s (ta p) 17 e = nI f) (h : am_LY post n tk ta mC mA ph sols fails lK lV lL lA ov lB b L0 a stk rk rv (am_sl f rk rv s)) : am_LY post n tk ta mC mA ph sols fails lK lV lL lA ov lB b L0 (a + 1) ((p, e, 1, 0, 0) :: stk) rk rv s := by
  intro m cur gVar gPar gK gV gPos gEnv hP hE hS hK hV h1 h2 h3 h4 h5
  obtain ⟨m, rfl⟩ : ∃ m', m = m' + 1 := ⟨m - 1, by omega⟩
  have hl := H.2.2.2.1
  have hp := H.2.2.1
  obtain ⟨f1, f2, f3, f4, f5, f6, f7, f10, f11, f12, f13, f14, f15, fc⟩ := am_yfacts (tk := tk) (ta := ta) hn (Nat.le_of_lt hp) (by omega) h2 h4
  have f8 : nI p < nI n := nI_lt hp (by omega)
  have f9 : vp_in (nI p) 32 := vp_in_nI (by omega) (by decide)
  have hb := am_WF_f H.1 hA hf
  have vf : vp_in (nI f) 16 := vp_in_nI hb (by decide)
  have ff : (nI f).toNatClampNeg = f := nI_clamp (by omega)
  have asl : am_al (am_sl f rk rv s) = am_al s := rfl
  rw [wY_runPath_46]
  exact br_t rfl (br_f f1 (nm_r f2 (br_f f3 (nm_r f4 ⟨f5, nm_r f6 (br_f f7 (br_t f8 ⟨f9, nm_r f10 ⟨f9, nm_r f11 ⟨f5, nm_r f12 ⟨f5, nm_r f13 (br_f (by rw [hk]; decide) (br_f (by rw [hk]; decide) (br_f (by rw [hk]; decide) (br_t (by rw [hk]; decide) (br_f (by rw [hk]; decide) (br_f (by rw [hk]; decide) (br_f (by rw [hk]; decide) (br_f (by rw [hk]; decide) (br_f (by rw [hk]; decide) (br_f (by rw [hk]; decide) (br_f (by rw [hk]; decide) (br_t hk (br_f (by decide) (am_ylk H.1 hA h3 H.2.1 hlk (br_t (nI_pos' (by omega)) ⟨vf, nm_r (by rw [ff]) ⟨vf, nm_r (by rw [ff]) (nm_r f4 (am_yO (h m cur gVar gPar (upd gK f rk) (upd gV f rv) gPos gEnv hP hE hS hK hV (by omega) (by omega) (am_sy_sl h3) (am_fy_tl h4) h5)))⟩⟩)))))))))))))))⟩⟩⟩⟩))⟩))))
theorem am_yr_setF (hn : n ≤ 32) (hA : mA ≤ 16) (H : am_H n mC mA s e p stk) (hk : tk p = 14) (hlk : am_lk s (ta p) 17 e = -1) (hq : am_QY post n tk ta mC mA ph sols fails lK lV lL lA ov lB b L0 s) : am_LY post n tk ta mC mA ph sols fails lK lV lL lA ov lB b L0 (a + 1) ((p, e, 1, 0, 0) :: stk) rk rv s := by
  intro m cur gVar gPar gK gV gPos gEnv hP hE hS hK hV h1 h2 h3 h4 h5
  obtain ⟨m, rfl⟩ : ∃ m', m = m' + 1 := ⟨m - 1, by omega⟩
  have hl := H.2.2.2.1
  have hp := H.2.2.1
  obtain ⟨f1, f2, f3, f4, f5, f6, f7, f10, f11, f12, f13, f14, f15, fc⟩ := am_yfacts (tk := tk) (ta := ta) hn (Nat.le_of_lt hp) (by omega) h2 h4
  have f8 : nI p < nI n := nI_lt hp (by omega)
  have f9 : vp_in (nI p) 32 := vp_in_nI (by omega) (by decide)
  rw [wY_runPath_46]
  exact br_t rfl (br_f f1 (nm_r f2 (br_f f3 (nm_r f4 ⟨f5, nm_r f6 (br_f f7 (br_t f8 ⟨f9, nm_r f10 ⟨f9, nm_r f11 ⟨f5, nm_r f12 ⟨f5, nm_r f13 (br_f (by rw [hk]; decide) (br_f (by rw [hk]; decide) (br_f (by rw [hk]; decide) (br_t (by rw [hk]; decide) (br_f (by rw [hk]; decide) (br_f (by rw [hk]; decide) (br_f (by rw [hk]; decide) (br_f (by rw [hk]; decide) (br_f (by rw [hk]; decide) (br_f (by rw [hk]; decide) (br_f (by rw [hk]; decide) (br_t hk (br_f (by decide) (am_ylk H.1 hA h3 H.2.1 hlk (br_f (by decide) (am_yF (hq _ _ _ _ _ _ cur gVar gPar gK gV gPos gEnv hP hE hS hK hV h5)))))))))))))))))⟩⟩⟩⟩))⟩))))
theorem am_yr_seq (hn : n ≤ 32) (hA : mA ≤ 16) (H : am_H n mC mA s e p stk) (hk : tk p = 15) (h : am_LY post n tk ta mC mA ph sols fails lK lV lL lA ov lB b L0 a ((am_eN tk n (p + 1), e, 0, 0, 0) :: (p, e, 2, 0, 0) :: stk) rk rv s) : am_LY post n tk ta mC mA ph sols fails lK lV lL lA ov lB b L0 (a + 1) ((p, e, 1, 0, 0) :: stk) rk rv s := by
  intro m cur gVar gPar gK gV gPos gEnv hP hE hS hK hV h1 h2 h3 h4 h5
  obtain ⟨m, rfl⟩ : ∃ m', m = m' + 1 := ⟨m - 1, by omega⟩
  have hl := H.2.2.2.1
  have hp := H.2.2.1
  obtain ⟨f1, f2, f3, f4, f5, f6, f7, f10, f11, f12, f13, f14, f15, fc⟩ := am_yfacts (tk := tk) (ta := ta) hn (Nat.le_of_lt hp) (by omega) h2 h4
  have f8 : nI p < nI n := nI_lt hp (by omega)
  have f9 : vp_in (nI p) 32 := vp_in_nI (by omega) (by decide)
  rw [wY_runPath_46]
  exact br_t rfl (br_f f1 (nm_r f2 (br_f f3 (nm_r f4 ⟨f5, nm_r f6 (br_f f7 (br_t f8 ⟨f9, nm_r f10 ⟨f9, nm_r f11 ⟨f5, nm_r f12 ⟨f5, nm_r f13 (br_f (by rw [hk]; decide) (br_f (by rw [hk]; decide) (br_f (by rw [hk]; decide) (br_t (by rw [hk]; decide) (br_f (by rw [hk]; decide) (br_f (by rw [hk]; decide) (br_f (by rw [hk]; decide) (br_f (by rw [hk]; decide) (br_f (by rw [hk]; decide) (br_f (by rw [hk]; decide) (br_f (by rw [hk]; decide) (br_f (by rw [hk]; decide) (br_f (by decide) (br_t rfl (am_yend hn hp (nI_1 p) ⟨f5, nm_r (by rw [fc]) (am_ypush (t := stk.length + 1) (by omega) rfl (am_yO (h m cur gVar gPar gK gV gPos gEnv (upd hP (stk.length + 1) (nI (am_eN tk n (p + 1)))) (upd hE (stk.length + 1) e) (upd (upd hS stk.length 2) (stk.length + 1) 0) (upd hK (stk.length + 1) 0) (upd hV (stk.length + 1) 0) (by omega) (by omega) h3 (am_fy_push (am_fy_st h4)) h5)))⟩)))))))))))))))⟩⟩⟩⟩))⟩))))
theorem am_yr_app (hn : n ≤ 32) (hA : mA ≤ 16) (H : am_H n mC mA s e p stk) (hk : tk p = 13) {c lp : Nat} (hc : c < am_nc s) (ha : am_al s < mA) (hlp : lp < n) (elp : am_cPos s c = nI lp) (h : am_LY post n tk ta mC mA ph sols fails lK lV lL lA ov lB b L0 (a + 127) ((lp + 1, nI (am_nf s), 0, 0, 0) :: (p, e, 3, 2, nI c) :: stk) rk rv (am_nl (ta lp) (am_cEnv s c) rk rv s)) : am_LY post n tk ta mC mA ph sols fails lK lV lL lA ov lB b L0 a ((p, e, 2, 2, nI c) :: stk) rk rv s := by
  intro m cur gVar gPar gK gV gPos gEnv hP hE hS hK hV h1 h2 h3 h4 h5
  obtain ⟨m, rfl⟩ : ∃ m', m = m' + 1 := ⟨m - 1, by have := (am_nf16 H.1 hA).2.2; omega⟩
  have hl := H.2.2.2.1
  have hp := H.2.2.1
  obtain ⟨f1, f2, f3, f4, f5, f6, f7, f10, f11, f12, f13, f14, f15, fc⟩ := am_yfacts (tk := tk) (ta := ta) hn (Nat.le_of_lt hp) (by omega) h2 h4
  have f8 : nI p < nI n := nI_lt hp (by omega)
  have f9 : vp_in (nI p) 32 := vp_in_nI (by omega) (by decide)
  have hcb := am_WF_c H.1 hA hc
  have cc : (nI c).toNatClampNeg = c := nI_clamp (by omega)
  have vc : vp_in (nI c) 16 := vp_in_nI hcb (by decide)
  have c0' : ¬ nI c < 0 := nI_pos (by omega)
  have c1' : ¬ nI (am_nc s) ≤ nI c := nI_ge hc (by have := (am_nf16 H.1 hA).2.1; omega)
  have c2' : nI c < 16 := nI_lt (b := 16) hcb (by decide)
  have an := am_al_nl (ta lp) (am_cEnv s c) rk rv s
  have nl : am_nf s < 16 := by unfold am_al at ha; omega
  have n16 : nI (am_nf s) < 16 := nI_lt (b := 16) nl (by decide)
  have vn : vp_in (nI (am_nf s)) 16 := vp_in_nI nl (by decide)
  have nn : (nI (am_nf s)).toNatClampNeg = am_nf s := nI_clamp (by omega)
  have ll : (nI lp).toNatClampNeg = lp := nI_clamp (by omega)
  have ecp : gPos (nI c).toNatClampNeg = nI lp := by rw [cc, (h3.2 c hc).1]; exact elp
  have ece : gEnv (nI c).toNatClampNeg = am_cEnv s c := by rw [cc]; exact (h3.2 c hc).2
  have vl : vp_in (nI lp) 32 := vp_in_nI (by omega) (by decide)
  have l0 : ¬ nI lp < 0 := nI_pos (by omega)
  have l32 : nI lp < 32 := nI_lt (b := 32) (by omega) (by decide)
  rw [wY_runPath_46]
  exact br_t rfl (br_f f1 (nm_r f2 (br_f f3 (nm_r f4 ⟨f5, nm_r f6 (br_f f7 (br_t f8 ⟨f9, nm_r f10 ⟨f9, nm_r f11 ⟨f5, nm_r f12 ⟨f5, nm_r f13 (br_f (by rw [hk]; decide) (br_f (by rw [hk]; decide) (br_f (by rw [hk]; decide) (br_t (by rw [hk]; decide) (br_f (by rw [hk]; decide) (br_f (by rw [hk]; decide) (br_f (by rw [hk]; decide) (br_f (by rw [hk]; decide) (br_f (by rw [hk]; decide) (br_f (by rw [hk]; decide) (br_t hk (br_f (by decide) (br_f (by decide) (br_t rfl ⟨f5, nm_r f15 ⟨f5, br_t f14 (br_f c0' (br_f c1' (br_t c2' (am_yalT (am_al_nl (ta lp) (am_cEnv s c) rk rv s) ha hA (br_f (by decide) (br_t n16 ⟨vc, nm_r ecp (br_f l0 (br_t l32 ⟨vl, vn, nm_r (by rw [nn, ll]) ⟨vc, vn, nm_r (by rw [nn, ece]) ⟨vn, nm_r (by rw [nn]) ⟨vn, nm_r (by rw [nn]) (nm_r (nI_1 _) ⟨f5, nm_r (by rw [fc]) (am_ypush (t := stk.length + 1) (by omega) (nI_1 lp) (am_yO (h m cur (upd gVar (am_nf s) (ta lp)) (upd gPar (am_nf s) (am_cEnv s c)) (upd gK (am_nf s) rk) (upd gV (am_nf s) rv) gPos gEnv (upd hP (stk.length + 1) (nI (lp + 1))) (upd hE (stk.length + 1) (nI (am_nf s))) (upd (upd hS stk.length 3) (stk.length + 1) 0) (upd hK (stk.length + 1) 0) (upd hV (stk.length + 1) 0) (by omega) (by omega) (am_sy_nl h3) (am_fy_push (am_fy_st h4)) h5)))⟩)⟩⟩⟩⟩))⟩))))))⟩⟩))))))))))))))⟩⟩⟩⟩))⟩))))
theorem am_yr_appF1 (hn : n ≤ 32) (hA : mA ≤ 16) (H : am_H n mC mA s e p stk) (hk : tk p = 13) (hno : ¬ k = 2) (hq : am_QY post n tk ta mC mA ph sols fails lK lV lL lA ov lB b L0 s) : am_LY post n tk ta mC mA ph sols fails lK lV lL lA ov lB b L0 (a + 1) ((p, e, 2, k, v) :: stk) rk rv s := by
  intro m cur gVar gPar gK gV gPos gEnv hP hE hS hK hV h1 h2 h3 h4 h5
  obtain ⟨m, rfl⟩ : ∃ m', m = m' + 1 := ⟨m - 1, by omega⟩
  have hl := H.2.2.2.1
  have hp := H.2.2.1
  obtain ⟨f1, f2, f3, f4, f5, f6, f7, f10, f11, f12, f13, f14, f15, fc⟩ := am_yfacts (tk := tk) (ta := ta) hn (Nat.le_of_lt hp) (by omega) h2 h4
  have f8 : nI p < nI n := nI_lt hp (by omega)
  have f9 : vp_in (nI p) 32 := vp_in_nI (by omega) (by decide)
  rw [wY_runPath_46]
  exact br_t rfl (br_f f1 (nm_r f2 (br_f f3 (nm_r f4 ⟨f5, nm_r f6 (br_f f7 (br_t f8 ⟨f9, nm_r f10 ⟨f9, nm_r f11 ⟨f5, nm_r f12 ⟨f5, nm_r f13 (br_f (by rw [hk]; decide) (br_f (by rw [hk]; decide) (br_f (by rw [hk]; decide) (br_t (by rw [hk]; decide) (br_f (by rw [hk]; decide) (br_f (by rw [hk]; decide) (br_f (by rw [hk]; decide) (br_f (by rw [hk]; decide) (br_f (by rw [hk]; decide) (br_f (by rw [hk]; decide) (br_t hk (br_f (by decide) (br_f (by decide) (br_t rfl ⟨f5, nm_r f15 ⟨f5, br_f (fun q => hno (f14.symm.trans q)) (am_yF (hq _ _ _ _ _ _ cur gVar gPar gK gV gPos gEnv hP hE hS hK hV h5))⟩⟩))))))))))))))⟩⟩⟩⟩))⟩))))
theorem am_yr_appF2 (hn : n ≤ 32) (hA : mA ≤ 16) (H : am_H n mC mA s e p stk) (hk : tk p = 13) {c : Nat} (hc : c < am_nc s) (ha : mA ≤ am_al s) (hq : am_QY post n tk ta mC mA ph sols fails lK lV lL lA ov lB b L0 s) : am_LY post n tk ta mC mA ph sols fails lK lV lL lA ov lB b L0 (a + 1) ((p, e, 2, 2, nI c) :: stk) rk rv s := by
  intro m cur gVar gPar gK gV gPos gEnv hP hE hS hK hV h1 h2 h3 h4 h5
  obtain ⟨m, rfl⟩ : ∃ m', m = m' + 1 := ⟨m - 1, by omega⟩
  have hl := H.2.2.2.1
  have hp := H.2.2.1
  obtain ⟨f1, f2, f3, f4, f5, f6, f7, f10, f11, f12, f13, f14, f15, fc⟩ := am_yfacts (tk := tk) (ta := ta) hn (Nat.le_of_lt hp) (by omega) h2 h4
  have f8 : nI p < nI n := nI_lt hp (by omega)
  have f9 : vp_in (nI p) 32 := vp_in_nI (by omega) (by decide)
  have hcb := am_WF_c H.1 hA hc
  have cc : (nI c).toNatClampNeg = c := nI_clamp (by omega)
  have vc : vp_in (nI c) 16 := vp_in_nI hcb (by decide)
  have c0' : ¬ nI c < 0 := nI_pos (by omega)
  have c1' : ¬ nI (am_nc s) ≤ nI c := nI_ge hc (by have := (am_nf16 H.1 hA).2.1; omega)
  have c2' : nI c < 16 := nI_lt (b := 16) hcb (by decide)
  rw [wY_runPath_46]
  exact br_t rfl (br_f f1 (nm_r f2 (br_f f3 (nm_r f4 ⟨f5, nm_r f6 (br_f f7 (br_t f8 ⟨f9, nm_r f10 ⟨f9, nm_r f11 ⟨f5, nm_r f12 ⟨f5, nm_r f13 (br_f (by rw [hk]; decide) (br_f (by rw [hk]; decide) (br_f (by rw [hk]; decide) (br_t (by rw [hk]; decide) (br_f (by rw [hk]; decide) (br_f (by rw [hk]; decide) (br_f (by rw [hk]; decide) (br_f (by rw [hk]; decide) (br_f (by rw [hk]; decide) (br_f (by rw [hk]; decide) (br_t hk (br_f (by decide) (br_f (by decide) (br_t rfl ⟨f5, nm_r f15 ⟨f5, br_t f14 (br_f c0' (br_f c1' (br_t c2' (am_yalF ha (am_nf16 H.1 hA).2.2 (br_t rfl (am_yF (hq _ _ _ _ _ _ cur gVar gPar gK gV gPos gEnv hP hE hS hK hV h5)))))))⟩⟩))))))))))))))⟩⟩⟩⟩))⟩))))
theorem am_yr_pop7 (hn : n ≤ 32) (hA : mA ≤ 16) (H : am_H n mC mA s e p stk) (hk : tk p = 7) (h : am_LY post n tk ta mC mA ph sols fails lK lV lL lA ov lB b L0 a stk rk rv s) : am_LY post n tk ta mC mA ph sols fails lK lV lL lA ov lB b L0 (a + 1) ((p, e, 2, k, v) :: stk) rk rv s := by
  intro m cur gVar gPar gK gV gPos gEnv hP hE hS hK hV h1 h2 h3 h4 h5
  obtain ⟨m, rfl⟩ : ∃ m', m = m' + 1 := ⟨m - 1, by omega⟩
  have hl := H.2.2.2.1
  have hp := H.2.2.1
  obtain ⟨f1, f2, f3, f4, f5, f6, f7, f10, f11, f12, f13, f14, f15, fc⟩ := am_yfacts (tk := tk) (ta := ta) hn (Nat.le_of_lt hp) (by omega) h2 h4
  have f8 : nI p < nI n := nI_lt hp (by omega)
  have f9 : vp_in (nI p) 32 := vp_in_nI (by omega) (by decide)
  rw [wY_runPath_46]
  exact br_t rfl (br_f f1 (nm_r f2 (br_f f3 (nm_r f4 ⟨f5, nm_r f6 (br_f f7 (br_t f8 ⟨f9, nm_r f10 ⟨f9, nm_r f11 ⟨f5, nm_r f12 ⟨f5, nm_r f13 (br_f (by rw [hk]; decide) (br_f (by rw [hk]; decide) (br_f (by rw [hk]; decide) (br_t (by rw [hk]; decide) (br_t hk (br_f (by decide) (br_f (by decide) (nm_r f4 (am_yO (h m cur gVar gPar gK gV gPos gEnv hP hE hS hK hV (by omega) (by omega) h3 (am_fy_tl h4) h5))))))))))⟩⟩⟩⟩))⟩))))
theorem am_yr_pop8 (hn : n ≤ 32) (hA : mA ≤ 16) (H : am_H n mC mA s e p stk) (hk : tk p = 8) (h : am_LY post n tk ta mC mA ph sols fails lK lV lL lA ov lB b L0 a stk rk rv s) : am_LY post n tk ta mC mA ph sols fails lK lV lL lA ov lB b L0 (a + 1) ((p, e, 1, k, v) :: stk) rk rv s := by
  intro m cur gVar gPar gK gV gPos gEnv hP hE hS hK hV h1 h2 h3 h4 h5
  obtain ⟨m, rfl⟩ : ∃ m', m = m' + 1 := ⟨m - 1, by omega⟩
  have hl := H.2.2.2.1
  have hp := H.2.2.1
  obtain ⟨f1, f2, f3, f4, f5, f6, f7, f10, f11, f12, f13, f14, f15, fc⟩ := am_yfacts (tk := tk) (ta := ta) hn (Nat.le_of_lt hp) (by omega) h2 h4
  have f8 : nI p < nI n := nI_lt hp (by omega)
  have f9 : vp_in (nI p) 32 := vp_in_nI (by omega) (by decide)
  rw [wY_runPath_46]
  exact br_t rfl (br_f f1 (nm_r f2 (br_f f3 (nm_r f4 ⟨f5, nm_r f6 (br_f f7 (br_t f8 ⟨f9, nm_r f10 ⟨f9, nm_r f11 ⟨f5, nm_r f12 ⟨f5, nm_r f13 (br_f (by rw [hk]; decide) (br_f (by rw [hk]; decide) (br_f (by rw [hk]; decide) (br_t (by rw [hk]; decide) (br_f (by rw [hk]; decide) (br_t hk (br_f (by decide) (nm_r f4 (am_yO (h m cur gVar gPar gK gV gPos gEnv hP hE hS hK hV (by omega) (by omega) h3 (am_fy_tl h4) h5))))))))))⟩⟩⟩⟩))⟩))))
theorem am_yr_pop10 (hn : n ≤ 32) (hA : mA ≤ 16) (H : am_H n mC mA s e p stk) (hk : tk p = 10) (h : am_LY post n tk ta mC mA ph sols fails lK lV lL lA ov lB b L0 a stk rk rv s) : am_LY post n tk ta mC mA ph sols fails lK lV lL lA ov lB b L0 (a + 1) ((p, e, 2, k, v) :: stk) rk rv s := by
  intro m cur gVar gPar gK gV gPos gEnv hP hE hS hK hV h1 h2 h3 h4 h5
  obtain ⟨m, rfl⟩ : ∃ m', m = m' + 1 := ⟨m - 1, by omega⟩
  have hl := H.2.2.2.1
  have hp := H.2.2.1
  obtain ⟨f1, f2, f3, f4, f5, f6, f7, f10, f11, f12, f13, f14, f15, fc⟩ := am_yfacts (tk := tk) (ta := ta) hn (Nat.le_of_lt hp) (by omega) h2 h4
  have f8 : nI p < nI n := nI_lt hp (by omega)
  have f9 : vp_in (nI p) 32 := vp_in_nI (by omega) (by decide)
  rw [wY_runPath_46]
  exact br_t rfl (br_f f1 (nm_r f2 (br_f f3 (nm_r f4 ⟨f5, nm_r f6 (br_f f7 (br_t f8 ⟨f9, nm_r f10 ⟨f9, nm_r f11 ⟨f5, nm_r f12 ⟨f5, nm_r f13 (br_f (by rw [hk]; decide) (br_f (by rw [hk]; decide) (br_f (by rw [hk]; decide) (br_t (by rw [hk]; decide) (br_f (by rw [hk]; decide) (br_f (by rw [hk]; decide) (br_f (by rw [hk]; decide) (br_t hk (br_f (by decide) (br_f (by decide) (nm_r f4 (am_yO (h m cur gVar gPar gK gV gPos gEnv hP hE hS hK hV (by omega) (by omega) h3 (am_fy_tl h4) h5)))))))))))))⟩⟩⟩⟩))⟩))))
theorem am_yr_pop11 (hn : n ≤ 32) (hA : mA ≤ 16) (H : am_H n mC mA s e p stk) (hk : tk p = 11) (h : am_LY post n tk ta mC mA ph sols fails lK lV lL lA ov lB b L0 a stk rk rv s) : am_LY post n tk ta mC mA ph sols fails lK lV lL lA ov lB b L0 (a + 1) ((p, e, 2, k, v) :: stk) rk rv s := by
  intro m cur gVar gPar gK gV gPos gEnv hP hE hS hK hV h1 h2 h3 h4 h5
  obtain ⟨m, rfl⟩ : ∃ m', m = m' + 1 := ⟨m - 1, by omega⟩
  have hl := H.2.2.2.1
  have hp := H.2.2.1
  obtain ⟨f1, f2, f3, f4, f5, f6, f7, f10, f11, f12, f13, f14, f15, fc⟩ := am_yfacts (tk := tk) (ta := ta) hn (Nat.le_of_lt hp) (by omega) h2 h4
  have f8 : nI p < nI n := nI_lt hp (by omega)
  have f9 : vp_in (nI p) 32 := vp_in_nI (by omega) (by decide)
  rw [wY_runPath_46]
  exact br_t rfl (br_f f1 (nm_r f2 (br_f f3 (nm_r f4 ⟨f5, nm_r f6 (br_f f7 (br_t f8 ⟨f9, nm_r f10 ⟨f9, nm_r f11 ⟨f5, nm_r f12 ⟨f5, nm_r f13 (br_f (by rw [hk]; decide) (br_f (by rw [hk]; decide) (br_f (by rw [hk]; decide) (br_t (by rw [hk]; decide) (br_f (by rw [hk]; decide) (br_f (by rw [hk]; decide) (br_f (by rw [hk]; decide) (br_f (by rw [hk]; decide) (br_t hk (br_f (by decide) (br_f (by decide) (nm_r f4 (am_yO (h m cur gVar gPar gK gV gPos gEnv hP hE hS hK hV (by omega) (by omega) h3 (am_fy_tl h4) h5))))))))))))))⟩⟩⟩⟩))⟩))))
theorem am_yr_pop13 (hn : n ≤ 32) (hA : mA ≤ 16) (H : am_H n mC mA s e p stk) (hk : tk p = 13) (h : am_LY post n tk ta mC mA ph sols fails lK lV lL lA ov lB b L0 a stk rk rv s) : am_LY post n tk ta mC mA ph sols fails lK lV lL lA ov lB b L0 (a + 1) ((p, e, 3, k, v) :: stk) rk rv s := by
  intro m cur gVar gPar gK gV gPos gEnv hP hE hS hK hV h1 h2 h3 h4 h5
  obtain ⟨m, rfl⟩ : ∃ m', m = m' + 1 := ⟨m - 1, by omega⟩
  have hl := H.2.2.2.1
  have hp := H.2.2.1
  obtain ⟨f1, f2, f3, f4, f5, f6, f7, f10, f11, f12, f13, f14, f15, fc⟩ := am_yfacts (tk := tk) (ta := ta) hn (Nat.le_of_lt hp) (by omega) h2 h4
  have f8 : nI p < nI n := nI_lt hp (by omega)
  have f9 : vp_in (nI p) 32 := vp_in_nI (by omega) (by decide)
  rw [wY_runPath_46]
  exact br_t rfl (br_f f1 (nm_r f2 (br_f f3 (nm_r f4 ⟨f5, nm_r f6 (br_f f7 (br_t f8 ⟨f9, nm_r f10 ⟨f9, nm_r f11 ⟨f5, nm_r f12 ⟨f5, nm_r f13 (br_f (by rw [hk]; decide) (br_f (by rw [hk]; decide) (br_f (by rw [hk]; decide) (br_t (by rw [hk]; decide) (br_f (by rw [hk]; decide) (br_f (by rw [hk]; decide) (br_f (by rw [hk]; decide) (br_f (by rw [hk]; decide) (br_f (by rw [hk]; decide) (br_f (by rw [hk]; decide) (br_t hk (br_f (by decide) (br_f (by decide) (br_f (by decide) (nm_r f4 (am_yO (h m cur gVar gPar gK gV gPos gEnv hP hE hS hK hV (by omega) (by omega) h3 (am_fy_tl h4) h5)))))))))))))))))⟩⟩⟩⟩))⟩))))
theorem am_yr_pop15 (hn : n ≤ 32) (hA : mA ≤ 16) (H : am_H n mC mA s e p stk) (hk : tk p = 15) (h : am_LY post n tk ta mC mA ph sols fails lK lV lL lA ov lB b L0 a stk rk rv s) : am_LY post n tk ta mC mA ph sols fails lK lV lL lA ov lB b L0 (a + 1) ((p, e, 2, k, v) :: stk) rk rv s := by
  intro m cur gVar gPar gK gV gPos gEnv hP hE hS hK hV h1 h2 h3 h4 h5
  obtain ⟨m, rfl⟩ : ∃ m', m = m' + 1 := ⟨m - 1, by omega⟩
  have hl := H.2.2.2.1
  have hp := H.2.2.1
  obtain ⟨f1, f2, f3, f4, f5, f6, f7, f10, f11, f12, f13, f14, f15, fc⟩ := am_yfacts (tk := tk) (ta := ta) hn (Nat.le_of_lt hp) (by omega) h2 h4
  have f8 : nI p < nI n := nI_lt hp (by omega)
  have f9 : vp_in (nI p) 32 := vp_in_nI (by omega) (by decide)
  rw [wY_runPath_46]
  exact br_t rfl (br_f f1 (nm_r f2 (br_f f3 (nm_r f4 ⟨f5, nm_r f6 (br_f f7 (br_t f8 ⟨f9, nm_r f10 ⟨f9, nm_r f11 ⟨f5, nm_r f12 ⟨f5, nm_r f13 (br_f (by rw [hk]; decide) (br_f (by rw [hk]; decide) (br_f (by rw [hk]; decide) (br_t (by rw [hk]; decide) (br_f (by rw [hk]; decide) (br_f (by rw [hk]; decide) (br_f (by rw [hk]; decide) (br_f (by rw [hk]; decide) (br_f (by rw [hk]; decide) (br_f (by rw [hk]; decide) (br_f (by rw [hk]; decide) (br_f (by rw [hk]; decide) (br_f (by decide) (br_f (by decide) (nm_r f4 (am_yO (h m cur gVar gPar gK gV gPos gEnv hP hE hS hK hV (by omega) (by omega) h3 (am_fy_tl h4) h5)))))))))))))))))⟩⟩⟩⟩))⟩))))
theorem am_yr_pop {st : Int32} (hn : n ≤ 32) (hA : mA ≤ 16) (H : am_H n mC mA s e p stk) (hk : am_tl (tk p) st) (h : am_LY post n tk ta mC mA ph sols fails lK lV lL lA ov lB b L0 a stk rk rv s) : am_LY post n tk ta mC mA ph sols fails lK lV lL lA ov lB b L0 (a + 1) ((p, e, st, k, v) :: stk) rk rv s := by
  rcases hk with ⟨q, z⟩ | ⟨q, z⟩ | ⟨q, z⟩ | ⟨q, z⟩ | ⟨q, z⟩ | ⟨q, z⟩
  · subst z; exact am_yr_pop7 hn hA H q h
  · subst z; exact am_yr_pop8 hn hA H q h
  · subst z; exact am_yr_pop10 hn hA H q h
  · subst z; exact am_yr_pop11 hn hA H q h
  · subst z; exact am_yr_pop13 hn hA H q h
  · subst z; exact am_yr_pop15 hn hA H q h
theorem am_yI (hn : n ≤ 32) (hA : mA ≤ 16) (hC : mC ≤ 6) (hL : L0 ≤ 6) (hz : ∀ j, L0 ≤ j → b j = false) : am_I n tk ta mC mA b (am_LY post n tk ta mC mA ph sols fails lK lV lL lA ov lB b L0) (am_QY post n tk ta mC mA ph sols fails lK lV lL lA ov lB b L0) := by
  refine ⟨?_, ?_, ?_, ?_, ?_, ?_, ?_, ?_, ?_, ?_, ?_, ?_, ?_, ?_, ?_, ?_, ?_, ?_, ?_, ?_, ?_, ?_, ?_, ?_, ?_, ?_⟩
  · intro a a' stk rk rv s ha h; exact am_yr_mono ha h
  · intro a e stk rk rv s _ _ hl hq; exact am_yr_out hn hl hq
  · intro a p e stk rk rv s H hk h; exact am_yr_num hn hA H hk h
  · intro a p e stk rk rv s f H hk hf hlk h; exact am_yr_var hn hA H hk hf hlk h
  · intro a p e stk rk rv s H hk hlk hq; exact am_yr_varF hn hA H hk hlk hq
  · intro a p e stk rk rv s H hk h; exact am_yr_push hn hA H hk h
  · intro a p e stk rk rv s H hk hu h; exact am_yr_amb hn hA hC hL hz H hk hu h
  · intro a p e stk rk rv s H hk hu hq; exact am_yr_ambF hn hA H hC hk hu hq
  · intro a p e stk rk rv s H hk hq; exact am_yr_fail hn hA H hk hq
  · intro a p e stk rk rv s H hk ha h; exact am_yr_lam hn hA H hk ha h
  · intro a p e stk rk rv s H hk ha hq; exact am_yr_lamF hn hA H hk ha hq
  · intro a p e stk rk rv s H _ hk h
    rcases hk with hk | hk
    · exact am_yr_hold13 hn hA H hk h
    · exact am_yr_hold2 hn hA H hk h
  · intro a p e stk v rv s H hk h
    rcases hk with hk | hk | hk | hk | hk
    · exact am_yr_calc2 hn hA H hk h
    · exact am_yr_calc3 hn hA H hk h
    · exact am_yr_calc4 hn hA H hk h
    · exact am_yr_calc5 hn hA H hk h
    · exact am_yr_calc6 hn hA H hk h
  · intro a p e stk k v rk rv s H hk _ _ hno hq; exact am_yr_calcF hn hA H hk hno hq
  · intro a p e stk rv s H hk h; exact am_yr_if hn hA H hk h
  · intro a p e stk rk rv s H hk _ hno hq; exact am_yr_ifF hn hA H hk hno hq
  · intro a p e stk rv s H hk hv h; exact am_yr_req hn hA H hk hv h
  · intro a p e stk rk rv s H hk _ hno hq; exact am_yr_reqF hn hA H hk hno hq
  · intro a p e stk rk rv s H hk _ ha h; exact am_yr_let hn hA H hk ha h
  · intro a p e stk rk rv s H hk _ ha hq; exact am_yr_letF hn hA H hk ha hq
  · intro a p e stk rk rv s f H hk _ hf hlk h; exact am_yr_set hn hA H hk hf hlk h
  · intro a p e stk rk rv s H hk _ hlk hq; exact am_yr_setF hn hA H hk hlk hq
  · intro a p e stk rk rv s H hk _ h; exact am_yr_seq hn hA H hk h
  · intro a p e stk rk rv s c lp H hk _ hc ha hlp elp h; exact am_yr_app hn hA H hk hc ha hlp elp h
  · intro a p e stk k v rk rv s H hk hkv _ hno hq
    by_cases k2 : k = 2
    · rcases hno with hno | hno
      · exact absurd k2 hno
      · subst k2
        rcases hkv with q | ⟨_, c, hc, q⟩
        · exact absurd q (by decide)
        · subst q
          exact am_yr_appF2 hn hA H hk hc hno hq
    · exact am_yr_appF1 hn hA H hk k2 hq
  · intro a p e stk st k v rk rv s H _ hk h; exact am_yr_pop hn hA H hk h
end
