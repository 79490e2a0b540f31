/-! the component's machine keeps the rules -/
theorem am_fx_open {s : am_S} {fT fE fH fC fW : Nat → Int32} {p : Nat} {e : Int32} {r : List am_F} (he : am_okE s e) (h : am_fx s fT fE fH fC fW r) : am_fx s (upd fT r.length (nI p)) (upd fE r.length (am_xe s e)) (upd fH r.length 0) fC fW ((p, e, 1, 0, 0) :: r) :=
  ⟨am_up_s, he, am_up_s, Or.inl ⟨rfl, am_up_s⟩, am_fx_eq r (fun i hi => ⟨am_up_n (Nat.ne_of_lt hi), am_up_n (Nat.ne_of_lt hi), am_up_n (Nat.ne_of_lt hi), rfl, rfl⟩) h⟩
theorem am_fx_hold {s : am_S} {fT fE fH fC fW : Nat → Int32} {p : Nat} {e k v : Int32} {r : List am_F} (hv : am_okV s k v) (h : am_fx s fT fE fH fC fW ((p, e, 1, 0, 0) :: r)) : am_fx s fT fE (upd fH r.length 1) (upd fC r.length (am_xk k)) (upd fW r.length (am_xv s k v)) ((p, e, 2, k, v) :: r) :=
  ⟨h.1, h.2.1, h.2.2.1, Or.inr ⟨rfl, am_up_s, hv, am_up_s, am_up_s⟩, am_fx_eq r (fun i hi => ⟨rfl, rfl, am_up_n (Nat.ne_of_lt hi), am_up_n (Nat.ne_of_lt hi), am_up_n (Nat.ne_of_lt hi)⟩) h.2.2.2.2⟩
theorem am_xe_nl (x e k v : Int32) {s : am_S} (hb : am_nf s ≤ 16) : am_xe (am_nl x e k v s) (nI (am_nf s)) = nI (am_al s) := by
  rw [am_xe_f _ (by omega)]
  exact congrArg nI am_un_s
theorem am_xv_nk (p : Nat) (e : Int32) {s : am_S} (hb : am_nc s ≤ 16) : am_xv (am_nk p e s) 2 (nI (am_nc s)) = nI (am_al s) := by
  rw [am_xv_2 _ (by omega)]
  exact congrArg nI am_un_s
section
variable {post : St2 → Prop} {n : Nat} {tk ta en : Nat → Int32} {mC mA : Nat} {ph sols fails lK lV lH lL lA pl : Int32} {b : Nat → Bool} {L0 : Nat} {a p : Nat} {e : Int32} {r : List am_F} {k v rk rv : Int32} {s : am_S}
theorem am_xr_monoV {a' : Nat} (ha : a ≤ a') (h : am_LXv post n tk ta en mC mA ph sols fails lK lV lH lL lA pl b L0 a p e r s) : am_LXv post n tk ta en mC mA ph sols fails lK lV lH lL lA pl b L0 a' p e r s :=
  fun m rC rW jV jO jC jW kT kE fT fE fH fC fW h1 h2 h3 h4 => h m rC rW jV jO jC jW kT kE fT fE fH fC fW (by omega) h2 h3 h4
theorem am_xr_monoR {a' : Nat} (ha : a ≤ a') (h : am_LXr post n tk ta en mC mA ph sols fails lK lV lH lL lA pl b L0 a rk rv r s) : am_LXr post n tk ta en mC mA ph sols fails lK lV lH lL lA pl b L0 a' rk rv r s :=
  fun m po ev jV jO jC jW kT kE fT fE fH fC fW h1 h2 h3 h4 => h m po ev jV jO jC jW kT kE fT fE fH fC fW (by omega) h2 h3 h4
theorem am_xr_out (hn : n ≤ 32) (hq : am_QX post n tk ta en mC mA ph sols fails lK lV lH lL lA pl b L0 s) : am_LXv post n tk ta en mC mA ph sols fails lK lV lH lL lA pl b L0 (a + 1) n e r s := by
  intro m rC rW jV jO jC jW kT kE fT fE fH fC fW h1 h2 h3 h4
  obtain ⟨m, rfl⟩ : ∃ m', m = m' + 1 := ⟨m - 1, by omega⟩
  have g1 : ¬ (1000000 : Int32) ≤ nI (1000000 - (m + 1)) := nI_ge (b := 1000000) (by omega) (by decide)
  have g2 : nI (1000000 - (m + 1)) + 1 = nI (1000000 - m) := by rw [nI_1]; exact congrArg nI (by omega)
  rw [wX_runPath_34]
  refine br_f g1 (br_t rfl (br_f (by decide) ?_))
  unfold wpX_visitToken
  exact am_xholdsF (Nat.le_refl n) hn (br_t rfl (am_x62F (hq _ _ _ _ _ _ _ _ _ _ _ _ _ _ _ _ _ _)))
theorem am_xr_num (hn : n ≤ 32) (hA : mA ≤ 16) (hen : ∀ i, i < n → en i = nI (am_eN tk n i)) (w : am_WF n mC mA s) (he : am_okE s e) (hp : p < n) (hl : r.length < 544) (hk : tk p = 0) (h : am_LXr post n tk ta en mC mA ph sols fails lK lV lH lL lA pl b L0 a 1 (ta p) r s) : am_LXv post n tk ta en mC mA ph sols fails lK lV lH lL lA pl b L0 (a + 1) p e r s := by
  intro m rC rW jV jO jC jW kT kE fT fE fH fC fW h1 h2 h3 h4
  obtain ⟨m, rfl⟩ : ∃ m', m = m' + 1 := ⟨m - 1, by omega⟩
  have g1 : ¬ (1000000 : Int32) ≤ nI (1000000 - (m + 1)) := nI_ge (b := 1000000) (by omega) (by decide)
  have g2 : nI (1000000 - (m + 1)) + 1 = nI (1000000 - m) := by rw [nI_1]; exact congrArg nI (by omega)
  have hc : (nI p).toNatClampNeg = p := nI_clamp (by omega)
  have v32 : vp_in (nI p) 32 := vp_in_nI (by omega) (by decide)
  have ek : tk (nI p).toNatClampNeg = tk p := by rw [hc]
  have ea : ta (nI p).toNatClampNeg = ta p := by rw [hc]
  have hh := h m (nI p) (am_xe s e) jV jO jC jW kT kE fT fE fH fC fW (by omega) (by omega) h3 h4
  rw [am_xk_1, am_xv_1] at hh
  rw [wX_runPath_34]
  refine br_f g1 (br_t rfl (br_f (by decide) ?_))
  unfold wpX_visitToken
  exact am_xholdsT hn hp (br_f (by decide) ⟨v32, nm_r ek (br_f (by rw [hk]; decide) (br_f (by rw [hk]; decide) (br_t hk (⟨v32, am_xgi ea (am_x62r r (by omega) g2 hh)⟩))))⟩)
theorem am_xr_var (hn : n ≤ 32) (hA : mA ≤ 16) (hen : ∀ i, i < n → en i = nI (am_eN tk n i)) (w : am_WF n mC mA s) (he : am_okE s e) (hp : p < n) (hl : r.length < 544) (hk : tk p = 1) {f : Nat} (hf : f < am_nf s) (hlk : am_lk s (ta p) 17 e = nI f) (h : am_LXr post n tk ta en mC mA ph sols fails lK lV lH lL lA pl b L0 a (am_fK s f) (am_fV s f) r s) : am_LXv post n tk ta en mC mA ph sols fails lK lV lH lL lA pl b L0 (a + 1) p e r s := by
  intro m rC rW jV jO jC jW kT kE fT fE fH fC fW h1 h2 h3 h4
  obtain ⟨m, rfl⟩ : ∃ m', m = m' + 1 := ⟨m - 1, by omega⟩
  have g1 : ¬ (1000000 : Int32) ≤ nI (1000000 - (m + 1)) := nI_ge (b := 1000000) (by omega) (by decide)
  have g2 : nI (1000000 - (m + 1)) + 1 = nI (1000000 - m) := by rw [nI_1]; exact congrArg nI (by omega)
  have hc : (nI p).toNatClampNeg = p := nI_clamp (by omega)
  have v32 : vp_in (nI p) 32 := vp_in_nI (by omega) (by decide)
  have ek : tk (nI p).toNatClampNeg = tk p := by rw [hc]
  have ea : ta (nI p).toNatClampNeg = ta p := by rw [hc]
  rw [wX_runPath_34]
  refine br_f g1 (br_t rfl (br_f (by decide) ?_))
  unfold wpX_visitToken
  exact am_xholdsT hn hp (br_f (by decide) ⟨v32, nm_r ek (br_f (by rw [hk]; decide) (br_f (by rw [hk]; decide) (br_f (by rw [hk]; decide) (br_t hk (⟨v32, am_xrvT w hA h3 he ea hf hlk (am_x62r r (by omega) g2 (h m (nI p) (am_xe s e) jV jO jC jW kT kE fT fE fH fC fW (by omega) (by omega) h3 h4))⟩)))))⟩)
theorem am_xr_varF (hn : n ≤ 32) (hA : mA ≤ 16) (hen : ∀ i, i < n → en i = nI (am_eN tk n i)) (w : am_WF n mC mA s) (he : am_okE s e) (hp : p < n) (hl : r.length < 544) (hk : tk p = 1) (hlk : am_lk s (ta p) 17 e = -1) (hq : am_QX post n tk ta en mC mA ph sols fails lK lV lH lL lA pl b L0 s) : am_LXv post n tk ta en mC mA ph sols fails lK lV lH lL lA pl b L0 (a + 1) p e r s := by
  intro m rC rW jV jO jC jW kT kE fT fE fH fC fW h1 h2 h3 h4
  obtain ⟨m, rfl⟩ : ∃ m', m = m' + 1 := ⟨m - 1, by omega⟩
  have g1 : ¬ (1000000 : Int32) ≤ nI (1000000 - (m + 1)) := nI_ge (b := 1000000) (by omega) (by decide)
  have g2 : nI (1000000 - (m + 1)) + 1 = nI (1000000 - m) := by rw [nI_1]; exact congrArg nI (by omega)
  have hc : (nI p).toNatClampNeg = p := nI_clamp (by omega)
  have v32 : vp_in (nI p) 32 := vp_in_nI (by omega) (by decide)
  have ek : tk (nI p).toNatClampNeg = tk p := by rw [hc]
  have ea : ta (nI p).toNatClampNeg = ta p := by rw [hc]
  rw [wX_runPath_34]
  refine br_f g1 (br_t rfl (br_f (by decide) ?_))
  unfold wpX_visitToken
  exact am_xholdsT hn hp (br_f (by decide) ⟨v32, nm_r ek (br_f (by rw [hk]; decide) (br_f (by rw [hk]; decide) (br_f (by rw [hk]; decide) (br_t hk (⟨v32, am_xrvF w hA h3 he ea hlk (am_x62F (hq _ _ _ _ _ _ _ _ _ _ _ _ _ _ _ _ _ _))⟩)))))⟩)
theorem am_xr_open2 (hn : n ≤ 32) (hA : mA ≤ 16) (hen : ∀ i, i < n → en i = nI (am_eN tk n i)) (w : am_WF n mC mA s) (he : am_okE s e) (hp : p < n) (hl : r.length < 544) (hk : tk p = 2) (h : am_LXv post n tk ta en mC mA ph sols fails lK lV lH lL lA pl b L0 a (p + 1) e ((p, e, 1, 0, 0) :: r) s) : am_LXv post n tk ta en mC mA ph sols fails lK lV lH lL lA pl b L0 (a + 1) p e r s := by
  intro m rC rW jV jO jC jW kT kE fT fE fH fC fW h1 h2 h3 h4
  obtain ⟨m, rfl⟩ : ∃ m', m = m' + 1 := ⟨m - 1, by omega⟩
  have g1 : ¬ (1000000 : Int32) ≤ nI (1000000 - (m + 1)) := nI_ge (b := 1000000) (by omega) (by decide)
  have g2 : nI (1000000 - (m + 1)) + 1 = nI (1000000 - m) := by rw [nI_1]; exact congrArg nI (by omega)
  have hc : (nI p).toNatClampNeg = p := nI_clamp (by omega)
  have v32 : vp_in (nI p) 32 := vp_in_nI (by omega) (by decide)
  have ek : tk (nI p).toNatClampNeg = tk p := by rw [hc]
  have ea : ta (nI p).toNatClampNeg = ta p := by rw [hc]
  rw [wX_runPath_34]
  refine br_f g1 (br_t rfl (br_f (by decide) ?_))
  unfold wpX_visitToken
  exact am_xholdsT hn hp (br_f (by decide) ⟨v32, nm_r ek (br_f (by rw [hk]; decide) (br_f (by rw [hk]; decide) (br_f (by rw [hk]; decide) (br_f (by rw [hk]; decide) (br_t hk (am_xopen hl (am_x62v g2 (h m rC rW jV jO jC jW kT kE (upd fT r.length (nI p)) (upd fE r.length (am_xe s e)) (upd fH r.length 0) fC fW (by omega) (by omega) h3 (am_fx_open he h4)))))))))⟩)
theorem am_xr_open3 (hn : n ≤ 32) (hA : mA ≤ 16) (hen : ∀ i, i < n → en i = nI (am_eN tk n i)) (w : am_WF n mC mA s) (he : am_okE s e) (hp : p < n) (hl : r.length < 544) (hk : tk p = 3) (h : am_LXv post n tk ta en mC mA ph sols fails lK lV lH lL lA pl b L0 a (p + 1) e ((p, e, 1, 0, 0) :: r) s) : am_LXv post n tk ta en mC mA ph sols fails lK lV lH lL lA pl b L0 (a + 1) p e r s := by
  intro m rC rW jV jO jC jW kT kE fT fE fH fC fW h1 h2 h3 h4
  obtain ⟨m, rfl⟩ : ∃ m', m = m' + 1 := ⟨m - 1, by omega⟩
  have g1 : ¬ (1000000 : Int32) ≤ nI (1000000 - (m + 1)) := nI_ge (b := 1000000) (by omega) (by decide)
  have g2 : nI (1000000 - (m + 1)) + 1 = nI (1000000 - m) := by rw [nI_1]; exact congrArg nI (by omega)
  have hc : (nI p).toNatClampNeg = p := nI_clamp (by omega)
  have v32 : vp_in (nI p) 32 := vp_in_nI (by omega) (by decide)
  have ek : tk (nI p).toNatClampNeg = tk p := by rw [hc]
  have ea : ta (nI p).toNatClampNeg = ta p := by rw [hc]
  rw [wX_runPath_34]
  refine br_f g1 (br_t rfl (br_f (by decide) ?_))
  unfold wpX_visitToken
  exact am_xholdsT hn hp (br_f (by decide) ⟨v32, nm_r ek (br_f (by rw [hk]; decide) (br_f (by rw [hk]; decide) (br_f (by rw [hk]; decide) (br_f (by rw [hk]; decide) (br_f (by rw [hk]; decide) (br_t hk (am_xopen hl (am_x62v g2 (h m rC rW jV jO jC jW kT kE (upd fT r.length (nI p)) (upd fE r.length (am_xe s e)) (upd fH r.length 0) fC fW (by omega) (by omega) h3 (am_fx_open he h4))))))))))⟩)
theorem am_xr_open4 (hn : n ≤ 32) (hA : mA ≤ 16) (hen : ∀ i, i < n → en i = nI (am_eN tk n i)) (w : am_WF n mC mA s) (he : am_okE s e) (hp : p < n) (hl : r.length < 544) (hk : tk p = 4) (h : am_LXv post n tk ta en mC mA ph sols fails lK lV lH lL lA pl b L0 a (p + 1) e ((p, e, 1, 0, 0) :: r) s) : am_LXv post n tk ta en mC mA ph sols fails lK lV lH lL lA pl b L0 (a + 1) p e r s := by
  intro m rC rW jV jO jC jW kT kE fT fE fH fC fW h1 h2 h3 h4
  obtain ⟨m, rfl⟩ : ∃ m', m = m' + 1 := ⟨m - 1, by omega⟩
  have g1 : ¬ (1000000 : Int32) ≤ nI (1000000 - (m + 1)) := nI_ge (b := 1000000) (by omega) (by decide)
  have g2 : nI (1000000 - (m + 1)) + 1 = nI (1000000 - m) := by rw [nI_1]; exact congrArg nI (by omega)
  have hc : (nI p).toNatClampNeg = p := nI_clamp (by omega)
  have v32 : vp_in (nI p) 32 := vp_in_nI (by omega) (by decide)
  have ek : tk (nI p).toNatClampNeg = tk p := by rw [hc]
  have ea : ta (nI p).toNatClampNeg = ta p := by rw [hc]
  rw [wX_runPath_34]
  refine br_f g1 (br_t rfl (br_f (by decide) ?_))
  unfold wpX_visitToken
  exact am_xholdsT hn hp (br_f (by decide) ⟨v32, nm_r ek (br_f (by rw [hk]; decide) (br_f (by rw [hk]; decide) (br_f (by rw [hk]; decide) (br_f (by rw [hk]; decide) (br_f (by rw [hk]; decide) (br_f (by rw [hk]; decide) (br_t hk (am_xopen hl (am_x62v g2 (h m rC rW jV jO jC jW kT kE (upd fT r.length (nI p)) (upd fE r.length (am_xe s e)) (upd fH r.length 0) fC fW (by omega) (by omega) h3 (am_fx_open he h4)))))))))))⟩)
theorem am_xr_open5 (hn : n ≤ 32) (hA : mA ≤ 16) (hen : ∀ i, i < n → en i = nI (am_eN tk n i)) (w : am_WF n mC mA s) (he : am_okE s e) (hp : p < n) (hl : r.length < 544) (hk : tk p = 5) (h : am_LXv post n tk ta en mC mA ph sols fails lK lV lH lL lA pl b L0 a (p + 1) e ((p, e, 1, 0, 0) :: r) s) : am_LXv post n tk ta en mC mA ph sols fails lK lV lH lL lA pl b L0 (a + 1) p e r s := by
  intro m rC rW jV jO jC jW kT kE fT fE fH fC fW h1 h2 h3 h4
  obtain ⟨m, rfl⟩ : ∃ m', m = m' + 1 := ⟨m - 1, by omega⟩
  have g1 : ¬ (1000000 : Int32) ≤ nI (1000000 - (m + 1)) := nI_ge (b := 1000000) (by omega) (by decide)
  have g2 : nI (1000000 - (m + 1)) + 1 = nI (1000000 - m) := by rw [nI_1]; exact congrArg nI (by omega)
  have hc : (nI p).toNatClampNeg = p := nI_clamp (by omega)
  have v32 : vp_in (nI p) 32 := vp_in_nI (by omega) (by decide)
  have ek : tk (nI p).toNatClampNeg = tk p := by rw [hc]
  have ea : ta (nI p).toNatClampNeg = ta p := by rw [hc]
  rw [wX_runPath_34]
  refine br_f g1 (br_t rfl (br_f (by decide) ?_))
  unfold wpX_visitToken
  exact am_xholdsT hn hp (br_f (by decide) ⟨v32, nm_r ek (br_f (by rw [hk]; decide) (br_f (by rw [hk]; decide) (br_f (by rw [hk]; decide) (br_f (by rw [hk]; decide) (br_f (by rw [hk]; decide) (br_f (by rw [hk]; decide) (br_f (by rw [hk]; decide) (br_t hk (am_xopen hl (am_x62v g2 (h m rC rW jV jO jC jW kT kE (upd fT r.length (nI p)) (upd fE r.length (am_xe s e)) (upd fH r.length 0) fC fW (by omega) (by omega) h3 (am_fx_open he h4))))))))))))⟩)
theorem am_xr_open6 (hn : n ≤ 32) (hA : mA ≤ 16) (hen : ∀ i, i < n → en i = nI (am_eN tk n i)) (w : am_WF n mC mA s) (he : am_okE s e) (hp : p < n) (hl : r.length < 544) (hk : tk p = 6) (h : am_LXv post n tk ta en mC mA ph sols fails lK lV lH lL lA pl b L0 a (p + 1) e ((p, e, 1, 0, 0) :: r) s) : am_LXv post n tk ta en mC mA ph sols fails lK lV lH lL lA pl b L0 (a + 1) p e r s := by
  intro m rC rW jV jO jC jW kT kE fT fE fH fC fW h1 h2 h3 h4
  obtain ⟨m, rfl⟩ : ∃ m', m = m' + 1 := ⟨m - 1, by omega⟩
  have g1 : ¬ (1000000 : Int32) ≤ nI (1000000 - (m + 1)) := nI_ge (b := 1000000) (by omega) (by decide)
  have g2 : nI (1000000 - (m + 1)) + 1 = nI (1000000 - m) := by rw [nI_1]; exact congrArg nI (by omega)
  have hc : (nI p).toNatClampNeg = p := nI_clamp (by omega)
  have v32 : vp_in (nI p) 32 := vp_in_nI (by omega) (by decide)
  have ek : tk (nI p).toNatClampNeg = tk p := by rw [hc]
  have ea : ta (nI p).toNatClampNeg = ta p := by rw [hc]
  rw [wX_runPath_34]
  refine br_f g1 (br_t rfl (br_f (by decide) ?_))
  unfold wpX_visitToken
  exact am_xholdsT hn hp (br_f (by decide) ⟨v32, nm_r ek (br_f (by rw [hk]; decide) (br_f (by rw [hk]; decide) (br_f (by rw [hk]; decide) (br_f (by rw [hk]; decide) (br_f (by rw [hk]; decide) (br_f (by rw [hk]; decide) (br_f (by rw [hk]; decide) (br_f (by rw [hk]; decide) (br_t hk (am_xopen hl (am_x62v g2 (h m rC rW jV jO jC jW kT kE (upd fT r.length (nI p)) (upd fE r.length (am_xe s e)) (upd fH r.length 0) fC fW (by omega) (by omega) h3 (am_fx_open he h4)))))))))))))⟩)
theorem am_xr_open7 (hn : n ≤ 32) (hA : mA ≤ 16) (hen : ∀ i, i < n → en i = nI (am_eN tk n i)) (w : am_WF n mC mA s) (he : am_okE s e) (hp : p < n) (hl : r.length < 544) (hk : tk p = 7) (h : am_LXv post n tk ta en mC mA ph sols fails lK lV lH lL lA pl b L0 a (p + 1) e ((p, e, 1, 0, 0) :: r) s) : am_LXv post n tk ta en mC mA ph sols fails lK lV lH lL lA pl b L0 (a + 1) p e r s := by
  intro m rC rW jV jO jC jW kT kE fT fE fH fC fW h1 h2 h3 h4
  obtain ⟨m, rfl⟩ : ∃ m', m = m' + 1 := ⟨m - 1, by omega⟩
  have g1 : ¬ (1000000 : Int32) ≤ nI (1000000 - (m + 1)) := nI_ge (b := 1000000) (by omega) (by decide)
  have g2 : nI (1000000 - (m + 1)) + 1 = nI (1000000 - m) := by rw [nI_1]; exact congrArg nI (by omega)
  have hc : (nI p).toNatClampNeg = p := nI_clamp (by omega)
  have v32 : vp_in (nI p) 32 := vp_in_nI (by omega) (by decide)
  have ek : tk (nI p).toNatClampNeg = tk p := by rw [hc]
  have ea : ta (nI p).toNatClampNeg = ta p := by rw [hc]
  rw [wX_runPath_34]
  refine br_f g1 (br_t rfl (br_f (by decide) ?_))
  unfold wpX_visitToken
  exact am_xholdsT hn hp (br_f (by decide) ⟨v32, nm_r ek (br_f (by rw [hk]; decide) (br_f (by rw [hk]; decide) (br_f (by rw [hk]; decide) (br_f (by rw [hk]; decide) (br_f (by rw [hk]; decide) (br_f (by rw [hk]; decide) (br_f (by rw [hk]; decide) (br_f (by rw [hk]; decide) (br_f (by rw [hk]; decide) (br_t hk (am_xopen hl (am_x62v g2 (h m rC rW jV jO jC jW kT kE (upd fT r.length (nI p)) (upd fE r.length (am_xe s e)) (upd fH r.length 0) fC fW (by omega) (by omega) h3 (am_fx_open he h4))))))))))))))⟩)
theorem am_xr_open10 (hn : n ≤ 32) (hA : mA ≤ 16) (hen : ∀ i, i < n → en i = nI (am_eN tk n i)) (w : am_WF n mC mA s) (he : am_okE s e) (hp : p < n) (hl : r.length < 544) (hk : tk p = 10) (h : am_LXv post n tk ta en mC mA ph sols fails lK lV lH lL lA pl b L0 a (p + 1) e ((p, e, 1, 0, 0) :: r) s) : am_LXv post n tk ta en mC mA ph sols fails lK lV lH lL lA pl b L0 (a + 1) p e r s := by
  intro m rC rW jV jO jC jW kT kE fT fE fH fC fW h1 h2 h3 h4
  obtain ⟨m, rfl⟩ : ∃ m', m = m' + 1 := ⟨m - 1, by omega⟩
  have g1 : ¬ (1000000 : Int32) ≤ nI (1000000 - (m + 1)) := nI_ge (b := 1000000) (by omega) (by decide)
  have g2 : nI (1000000 - (m + 1)) + 1 = nI (1000000 - m) := by rw [nI_1]; exact congrArg nI (by omega)
  have hc : (nI p).toNatClampNeg = p := nI_clamp (by omega)
  have v32 : vp_in (nI p) 32 := vp_in_nI (by omega) (by decide)
  have ek : tk (nI p).toNatClampNeg = tk p := by rw [hc]
  have ea : ta (nI p).toNatClampNeg = ta p := by rw [hc]
  rw [wX_runPath_34]
  refine br_f g1 (br_t rfl (br_f (by decide) ?_))
  unfold wpX_visitToken
  exact am_xholdsT hn hp (br_f (by decide) ⟨v32, nm_r ek (br_f (by rw [hk]; decide) (br_f (by rw [hk]; decide) (br_f (by rw [hk]; decide) (br_f (by rw [hk]; decide) (br_f (by rw [hk]; decide) (br_f (by rw [hk]; decide) (br_f (by rw [hk]; decide) (br_f (by rw [hk]; decide) (br_f (by rw [hk]; decide) (br_f (by rw [hk]; decide) (br_f (by rw [hk]; decide) (br_f (by rw [hk]; decide) (br_t hk (am_xopen hl (am_x62v g2 (h m rC rW jV jO jC jW kT kE (upd fT r.length (nI p)) (upd fE r.length (am_xe s e)) (upd fH r.length 0) fC fW (by omega) (by omega) h3 (am_fx_open he h4)))))))))))))))))⟩)
theorem am_xr_open11 (hn : n ≤ 32) (hA : mA ≤ 16) (hen : ∀ i, i < n → en i = nI (am_eN tk n i)) (w : am_WF n mC mA s) (he : am_okE s e) (hp : p < n) (hl : r.length < 544) (hk : tk p = 11) (h : am_LXv post n tk ta en mC mA ph sols fails lK lV lH lL lA pl b L0 a (p + 1) e ((p, e, 1, 0, 0) :: r) s) : am_LXv post n tk ta en mC mA ph sols fails lK lV lH lL lA pl b L0 (a + 1) p e r s := by
  intro m rC rW jV jO jC jW kT kE fT fE fH fC fW h1 h2 h3 h4
  obtain ⟨m, rfl⟩ : ∃ m', m = m' + 1 := ⟨m - 1, by omega⟩
  have g1 : ¬ (1000000 : Int32) ≤ nI (1000000 - (m + 1)) := nI_ge (b := 1000000) (by omega) (by decide)
  have g2 : nI (1000000 - (m + 1)) + 1 = nI (1000000 - m) := by rw [nI_1]; exact congrArg nI (by omega)
  have hc : (nI p).toNatClampNeg = p := nI_clamp (by omega)
  have v32 : vp_in (nI p) 32 := vp_in_nI (by omega) (by decide)
  have ek : tk (nI p).toNatClampNeg = tk p := by rw [hc]
  have ea : ta (nI p).toNatClampNeg = ta p := by rw [hc]
  rw [wX_runPath_34]
  refine br_f g1 (br_t rfl (br_f (by decide) ?_))
  unfold wpX_visitToken
  exact am_xholdsT hn hp (br_f (by decide) ⟨v32, nm_r ek (br_f (by rw [hk]; decide) (br_f (by rw [hk]; decide) (br_f (by rw [hk]; decide) (br_f (by rw [hk]; decide) (br_f (by rw [hk]; decide) (br_f (by rw [hk]; decide) (br_f (by rw [hk]; decide) (br_f (by rw [hk]; decide) (br_f (by rw [hk]; decide) (br_f (by rw [hk]; decide) (br_f (by rw [hk]; decide) (br_f (by rw [hk]; decide) (br_f (by rw [hk]; decide) (br_t hk (am_xopen hl (am_x62v g2 (h m rC rW jV jO jC jW kT kE (upd fT r.length (nI p)) (upd fE r.length (am_xe s e)) (upd fH r.length 0) fC fW (by omega) (by omega) h3 (am_fx_open he h4))))))))))))))))))⟩)
theorem am_xr_open13 (hn : n ≤ 32) (hA : mA ≤ 16) (hen : ∀ i, i < n → en i = nI (am_eN tk n i)) (w : am_WF n mC mA s) (he : am_okE s e) (hp : p < n) (hl : r.length < 544) (hk : tk p = 13) (h : am_LXv post n tk ta en mC mA ph sols fails lK lV lH lL lA pl b L0 a (p + 1) e ((p, e, 1, 0, 0) :: r) s) : am_LXv post n tk ta en mC mA ph sols fails lK lV lH lL lA pl b L0 (a + 1) p e r s := by
  intro m rC rW jV jO jC jW kT kE fT fE fH fC fW h1 h2 h3 h4
  obtain ⟨m, rfl⟩ : ∃ m', m = m' + 1 := ⟨m - 1, by omega⟩
  have g1 : ¬ (1000000 : Int32) ≤ nI (1000000 - (m + 1)) := nI_ge (b := 1000000) (by omega) (by decide)
  have g2 : nI (1000000 - (m + 1)) + 1 = nI (1000000 - m) := by rw [nI_1]; exact congrArg nI (by omega)
  have hc : (nI p).toNatClampNeg = p := nI_clamp (by omega)
  have v32 : vp_in (nI p) 32 := vp_in_nI (by omega) (by decide)
  have ek : tk (nI p).toNatClampNeg = tk p := by rw [hc]
  have ea : ta (nI p).toNatClampNeg = ta p := by rw [hc]
  rw [wX_runPath_34]
  refine br_f g1 (br_t rfl (br_f (by decide) ?_))
  unfold wpX_visitToken
  exact am_xholdsT hn hp (br_f (by decide) ⟨v32, nm_r ek (br_f (by rw [hk]; decide) (br_t (by rw [hk]; decide) (am_xopen hl (am_x62v g2 (h m rC rW jV jO jC jW kT kE (upd fT r.length (nI p)) (upd fE r.length (am_xe s e)) (upd fH r.length 0) fC fW (by omega) (by omega) h3 (am_fx_open he h4))))))⟩)
theorem am_xr_open14 (hn : n ≤ 32) (hA : mA ≤ 16) (hen : ∀ i, i < n → en i = nI (am_eN tk n i)) (w : am_WF n mC mA s) (he : am_okE s e) (hp : p < n) (hl : r.length < 544) (hk : tk p = 14) (h : am_LXv post n tk ta en mC mA ph sols fails lK lV lH lL lA pl b L0 a (p + 1) e ((p, e, 1, 0, 0) :: r) s) : am_LXv post n tk ta en mC mA ph sols fails lK lV lH lL lA pl b L0 (a + 1) p e r s := by
  intro m rC rW jV jO jC jW kT kE fT fE fH fC fW h1 h2 h3 h4
  obtain ⟨m, rfl⟩ : ∃ m', m = m' + 1 := ⟨m - 1, by omega⟩
  have g1 : ¬ (1000000 : Int32) ≤ nI (1000000 - (m + 1)) := nI_ge (b := 1000000) (by omega) (by decide)
  have g2 : nI (1000000 - (m + 1)) + 1 = nI (1000000 - m) := by rw [nI_1]; exact congrArg nI (by omega)
  have hc : (nI p).toNatClampNeg = p := nI_clamp (by omega)
  have v32 : vp_in (nI p) 32 := vp_in_nI (by omega) (by decide)
  have ek : tk (nI p).toNatClampNeg = tk p := by rw [hc]
  have ea : ta (nI p).toNatClampNeg = ta p := by rw [hc]
  rw [wX_runPath_34]
  refine br_f g1 (br_t rfl (br_f (by decide) ?_))
  unfold wpX_visitToken
  exact am_xholdsT hn hp (br_f (by decide) ⟨v32, nm_r ek (br_f (by rw [hk]; decide) (br_t (by rw [hk]; decide) (am_xopen hl (am_x62v g2 (h m rC rW jV jO jC jW kT kE (upd fT r.length (nI p)) (upd fE r.length (am_xe s e)) (upd fH r.length 0) fC fW (by omega) (by omega) h3 (am_fx_open he h4))))))⟩)
theorem am_xr_open15 (hn : n ≤ 32) (hA : mA ≤ 16) (hen : ∀ i, i < n → en i = nI (am_eN tk n i)) (w : am_WF n mC mA s) (he : am_okE s e) (hp : p < n) (hl : r.length < 544) (hk : tk p = 15) (h : am_LXv post n tk ta en mC mA ph sols fails lK lV lH lL lA pl b L0 a (p + 1) e ((p, e, 1, 0, 0) :: r) s) : am_LXv post n tk ta en mC mA ph sols fails lK lV lH lL lA pl b L0 (a + 1) p e r s := by
  intro m rC rW jV jO jC jW kT kE fT fE fH fC fW h1 h2 h3 h4
  obtain ⟨m, rfl⟩ : ∃ m', m = m' + 1 := ⟨m - 1, by omega⟩
  have g1 : ¬ (1000000 : Int32) ≤ nI (1000000 - (m + 1)) := nI_ge (b := 1000000) (by omega) (by decide)
  have g2 : nI (1000000 - (m + 1)) + 1 = nI (1000000 - m) := by rw [nI_1]; exact congrArg nI (by omega)
  have hc : (nI p).toNatClampNeg = p := nI_clamp (by omega)
  have v32 : vp_in (nI p) 32 := vp_in_nI (by omega) (by decide)
  have ek : tk (nI p).toNatClampNeg = tk p := by rw [hc]
  have ea : ta (nI p).toNatClampNeg = ta p := by rw [hc]
  rw [wX_runPath_34]
  refine br_f g1 (br_t rfl (br_f (by decide) ?_))
  unfold wpX_visitToken
  exact am_xholdsT hn hp (br_f (by decide) ⟨v32, nm_r ek (br_f (by rw [hk]; decide) (br_t (by rw [hk]; decide) (am_xopen hl (am_x62v g2 (h m rC rW jV jO jC jW kT kE (upd fT r.length (nI p)) (upd fE r.length (am_xe s e)) (upd fH r.length 0) fC fW (by omega) (by omega) h3 (am_fx_open he h4))))))⟩)
theorem am_xr_open (hn : n ≤ 32) (hA : mA ≤ 16) (hen : ∀ i, i < n → en i = nI (am_eN tk n i)) (w : am_WF n mC mA s) (he : am_okE s e) (hp : p < n) (hl : r.length < 544) (hk : am_psh (tk p)) (h : am_LXv post n tk ta en mC mA ph sols fails lK lV lH lL lA pl b L0 a (p + 1) e ((p, e, 1, 0, 0) :: r) s) : am_LXv post n tk ta en mC mA ph sols fails lK lV lH lL lA pl b L0 (a + 1) p e r s := by
  rcases hk with q | q | q | q | q | q | q | q | q | q | q
  · exact am_xr_open7 hn hA hen w he hp hl q h
  · exact am_xr_open10 hn hA hen w he hp hl q h
  · exact am_xr_open11 hn hA hen w he hp hl q h
  · exact am_xr_open13 hn hA hen w he hp hl q h
  · exact am_xr_open14 hn hA hen w he hp hl q h
  · exact am_xr_open15 hn hA hen w he hp hl q h
  · exact am_xr_open2 hn hA hen w he hp hl q h
  · exact am_xr_open3 hn hA hen w he hp hl q h
  · exact am_xr_open4 hn hA hen w he hp hl q h
  · exact am_xr_open5 hn hA hen w he hp hl q h
  · exact am_xr_open6 hn hA hen w he hp hl q h
theorem am_xr_amb (hn : n ≤ 32) (hA : mA ≤ 16) (hen : ∀ i, i < n → en i = nI (am_eN tk n i)) (w : am_WF n mC mA s) (he : am_okE s e) (hp : p < n) (hl : r.length < 544) (hC : mC ≤ 6) (hL : L0 ≤ 6) (hz : ∀ j, L0 ≤ j → b j = false) (hk : tk p = 8) (hu : am_us s < mC) (h : am_LXv post n tk ta en mC mA ph sols fails lK lV lH lL lA pl b L0 a (am_q8 n tk p (b (am_us s))) e r (am_tick s)) : am_LXv post n tk ta en mC mA ph sols fails lK lV lH lL lA pl b L0 (a + 1) p e r s := by
  intro m rC rW jV jO jC jW kT kE fT fE fH fC fW h1 h2 h3 h4
  obtain ⟨m, rfl⟩ : ∃ m', m = m' + 1 := ⟨m - 1, by omega⟩
  have g1 : ¬ (1000000 : Int32) ≤ nI (1000000 - (m + 1)) := nI_ge (b := 1000000) (by omega) (by decide)
  have g2 : nI (1000000 - (m + 1)) + 1 = nI (1000000 - m) := by rw [nI_1]; exact congrArg nI (by omega)
  have hc : (nI p).toNatClampNeg = p := nI_clamp (by omega)
  have v32 : vp_in (nI p) 32 := vp_in_nI (by omega) (by decide)
  have ek : tk (nI p).toNatClampNeg = tk p := by rw [hc]
  have ea : ta (nI p).toNatClampNeg = ta p := by rw [hc]
  have at1 := am_al_tick s
  have b12 := am_nf16 w hA
  rw [wX_runPath_34]
  refine br_f g1 (br_t rfl (br_f (by decide) ?_))
  unfold wpX_visitToken
  exact am_xholdsT hn hp (br_f (by decide) ⟨v32, nm_r ek (br_f (by rw [hk]; decide) (br_f (by rw [hk]; decide) (br_f (by rw [hk]; decide) (br_f (by rw [hk]; decide) (br_f (by rw [hk]; decide) (br_f (by rw [hk]; decide) (br_f (by rw [hk]; decide) (br_f (by rw [hk]; decide) (br_f (by rw [hk]; decide) (br_f (by rw [hk]; decide) (br_t hk (am_xchoose hn hp hen hu hC hL hz (am_x62v g2 (h m rC rW jV jO jC jW kT kE fT fE fH fC fW (by omega) (by omega) h3 (am_fx_x (am_ext_tick s) b12.1 b12.2.1 r h4)))))))))))))))⟩)
theorem am_xr_ambF (hn : n ≤ 32) (hA : mA ≤ 16) (hen : ∀ i, i < n → en i = nI (am_eN tk n i)) (w : am_WF n mC mA s) (he : am_okE s e) (hp : p < n) (hl : r.length < 544) (hC : mC ≤ 6) (hk : tk p = 8) (hu : mC ≤ am_us s) (hq : am_QX post n tk ta en mC mA ph sols fails lK lV lH lL lA pl b L0 s) : am_LXv post n tk ta en mC mA ph sols fails lK lV lH lL lA pl b L0 (a + 1) p e r s := by
  intro m rC rW jV jO jC jW kT kE fT fE fH fC fW h1 h2 h3 h4
  obtain ⟨m, rfl⟩ : ∃ m', m = m' + 1 := ⟨m - 1, by omega⟩
  have g1 : ¬ (1000000 : Int32) ≤ nI (1000000 - (m + 1)) := nI_ge (b := 1000000) (by omega) (by decide)
  have g2 : nI (1000000 - (m + 1)) + 1 = nI (1000000 - m) := by rw [nI_1]; exact congrArg nI (by omega)
  have hc : (nI p).toNatClampNeg = p := nI_clamp (by omega)
  have v32 : vp_in (nI p) 32 := vp_in_nI (by omega) (by decide)
  have ek : tk (nI p).toNatClampNeg = tk p := by rw [hc]
  have ea : ta (nI p).toNatClampNeg = ta p := by rw [hc]
  have hu2 := w.1
  rw [wX_runPath_34]
  refine br_f g1 (br_t rfl (br_f (by decide) ?_))
  unfold wpX_visitToken
  exact am_xholdsT hn hp (br_f (by decide) ⟨v32, nm_r ek (br_f (by rw [hk]; decide) (br_f (by rw [hk]; decide) (br_f (by rw [hk]; decide) (br_f (by rw [hk]; decide) (br_f (by rw [hk]; decide) (br_f (by rw [hk]; decide) (br_f (by rw [hk]; decide) (br_f (by rw [hk]; decide) (br_f (by rw [hk]; decide) (br_f (by rw [hk]; decide) (br_t hk (br_f (nI_nlt hu (by omega)) (am_x62F (hq _ _ _ _ _ _ _ _ _ _ _ _ _ _ _ _ _ _))))))))))))))⟩)
theorem am_xr_fail (hn : n ≤ 32) (hA : mA ≤ 16) (hen : ∀ i, i < n → en i = nI (am_eN tk n i)) (w : am_WF n mC mA s) (he : am_okE s e) (hp : p < n) (hl : r.length < 544) (hk : tk p = 9) (hq : am_QX post n tk ta en mC mA ph sols fails lK lV lH lL lA pl b L0 s) : am_LXv post n tk ta en mC mA ph sols fails lK lV lH lL lA pl b L0 (a + 1) p e r s := by
  intro m rC rW jV jO jC jW kT kE fT fE fH fC fW h1 h2 h3 h4
  obtain ⟨m, rfl⟩ : ∃ m', m = m' + 1 := ⟨m - 1, by omega⟩
  have g1 : ¬ (1000000 : Int32) ≤ nI (1000000 - (m + 1)) := nI_ge (b := 1000000) (by omega) (by decide)
  have g2 : nI (1000000 - (m + 1)) + 1 = nI (1000000 - m) := by rw [nI_1]; exact congrArg nI (by omega)
  have hc : (nI p).toNatClampNeg = p := nI_clamp (by omega)
  have v32 : vp_in (nI p) 32 := vp_in_nI (by omega) (by decide)
  have ek : tk (nI p).toNatClampNeg = tk p := by rw [hc]
  have ea : ta (nI p).toNatClampNeg = ta p := by rw [hc]
  rw [wX_runPath_34]
  refine br_f g1 (br_t rfl (br_f (by decide) ?_))
  unfold wpX_visitToken
  exact am_xholdsT hn hp (br_f (by decide) ⟨v32, nm_r ek (br_f (by rw [hk]; decide) (br_f (by rw [hk]; decide) (br_f (by rw [hk]; decide) (br_f (by rw [hk]; decide) (br_f (by rw [hk]; decide) (br_f (by rw [hk]; decide) (br_f (by rw [hk]; decide) (br_f (by rw [hk]; decide) (br_f (by rw [hk]; decide) (br_f (by rw [hk]; decide) (br_f (by rw [hk]; decide) (br_t hk (am_x62F (hq _ _ _ _ _ _ _ _ _ _ _ _ _ _ _ _ _ _))))))))))))))⟩)
theorem am_xr_lam (hn : n ≤ 32) (hA : mA ≤ 16) (hen : ∀ i, i < n → en i = nI (am_eN tk n i)) (w : am_WF n mC mA s) (he : am_okE s e) (hp : p < n) (hl : r.length < 544) (hk : tk p = 12) (ha : am_al s < mA) (h : am_LXr post n tk ta en mC mA ph sols fails lK lV lH lL lA pl b L0 a 2 (nI (am_nc s)) r (am_nk p e s)) : am_LXv post n tk ta en mC mA ph sols fails lK lV lH lL lA pl b L0 (a + 1) p e r s := by
  intro m rC rW jV jO jC jW kT kE fT fE fH fC fW h1 h2 h3 h4
  obtain ⟨m, rfl⟩ : ∃ m', m = m' + 1 := ⟨m - 1, by omega⟩
  have g1 : ¬ (1000000 : Int32) ≤ nI (1000000 - (m + 1)) := nI_ge (b := 1000000) (by omega) (by decide)
  have g2 : nI (1000000 - (m + 1)) + 1 = nI (1000000 - m) := by rw [nI_1]; exact congrArg nI (by omega)
  have hc : (nI p).toNatClampNeg = p := nI_clamp (by omega)
  have v32 : vp_in (nI p) 32 := vp_in_nI (by omega) (by decide)
  have ek : tk (nI p).toNatClampNeg = tk p := by rw [hc]
  have ea : ta (nI p).toNatClampNeg = ta p := by rw [hc]
  have an := am_al_nk p e s
  have b12 := am_nf16 w hA
  have hh := h m (nI p) (am_xe s e) jV jO jC jW (upd kT (am_al s) (nI p)) (upd kE (am_al s) (am_xe s e)) fT fE fH fC fW (by omega) (by omega) (am_sx_nk w hA he h3) (am_fx_x (am_ext_nk p e s) b12.1 b12.2.1 r h4)
  rw [am_xk_2, am_xv_nk p e b12.2.1] at hh
  rw [wX_runPath_34]
  refine br_f g1 (br_t rfl (br_f (by decide) ?_))
  unfold wpX_visitToken
  exact am_xholdsT hn hp (br_f (by decide) ⟨v32, nm_r ek (br_f (by rw [hk]; decide) (br_f (by rw [hk]; decide) (br_f (by rw [hk]; decide) (br_f (by rw [hk]; decide) (br_f (by rw [hk]; decide) (br_f (by rw [hk]; decide) (br_f (by rw [hk]; decide) (br_f (by rw [hk]; decide) (br_f (by rw [hk]; decide) (br_f (by rw [hk]; decide) (br_f (by rw [hk]; decide) (br_f (by rw [hk]; decide) (br_f (by rw [hk]; decide) (br_f (by rw [hk]; decide) (br_t hk (am_xmcT ha hA (am_x62r r (by omega) g2 hh)))))))))))))))))⟩)
theorem am_xr_lamF (hn : n ≤ 32) (hA : mA ≤ 16) (hen : ∀ i, i < n → en i = nI (am_eN tk n i)) (w : am_WF n mC mA s) (he : am_okE s e) (hp : p < n) (hl : r.length < 544) (hk : tk p = 12) (ha : mA ≤ am_al s) (hq : am_QX post n tk ta en mC mA ph sols fails lK lV lH lL lA pl b L0 s) : am_LXv post n tk ta en mC mA ph sols fails lK lV lH lL lA pl b L0 (a + 1) p e r s := by
  intro m rC rW jV jO jC jW kT kE fT fE fH fC fW h1 h2 h3 h4
  obtain ⟨m, rfl⟩ : ∃ m', m = m' + 1 := ⟨m - 1, by omega⟩
  have g1 : ¬ (1000000 : Int32) ≤ nI (1000000 - (m + 1)) := nI_ge (b := 1000000) (by omega) (by decide)
  have g2 : nI (1000000 - (m + 1)) + 1 = nI (1000000 - m) := by rw [nI_1]; exact congrArg nI (by omega)
  have hc : (nI p).toNatClampNeg = p := nI_clamp (by omega)
  have v32 : vp_in (nI p) 32 := vp_in_nI (by omega) (by decide)
  have ek : tk (nI p).toNatClampNeg = tk p := by rw [hc]
  have ea : ta (nI p).toNatClampNeg = ta p := by rw [hc]
  rw [wX_runPath_34]
  refine br_f g1 (br_t rfl (br_f (by decide) ?_))
  unfold wpX_visitToken
  exact am_xholdsT hn hp (br_f (by decide) ⟨v32, nm_r ek (br_f (by rw [hk]; decide) (br_f (by rw [hk]; decide) (br_f (by rw [hk]; decide) (br_f (by rw [hk]; decide) (br_f (by rw [hk]; decide) (br_f (by rw [hk]; decide) (br_f (by rw [hk]; decide) (br_f (by rw [hk]; decide) (br_f (by rw [hk]; decide) (br_f (by rw [hk]; decide) (br_f (by rw [hk]; decide) (br_f (by rw [hk]; decide) (br_f (by rw [hk]; decide) (br_f (by rw [hk]; decide) (br_t hk (am_xmcF ha (am_nf16 w hA).2.2 (am_x62F (hq _ _ _ _ _ _ _ _ _ _ _ _ _ _ _ _ _ _))))))))))))))))))⟩)
theorem am_xr_hold2 (hn : n ≤ 32) (hA : mA ≤ 16) (hen : ∀ i, i < n → en i = nI (am_eN tk n i)) (w : am_WF n mC mA s) (he : am_okE s e) (hp : p < n) (hl : r.length < 544) (hv : am_okV s rk rv) (hk : tk p = 2) (h : am_LXv post n tk ta en mC mA ph sols fails lK lV lH lL lA pl b L0 a (am_eN tk n (p + 1)) e ((p, e, 2, rk, rv) :: r) s) : am_LXr post n tk ta en mC mA ph sols fails lK lV lH lL lA pl b L0 (a + 1) rk rv ((p, e, 1, 0, 0) :: r) s := by
  intro m po ev jV jO jC jW kT kE fT fE fH fC fW h1 h2 h3 h4
  obtain ⟨m, rfl⟩ : ∃ m', m = m' + 1 := ⟨m - 1, by omega⟩
  have g1 : ¬ (1000000 : Int32) ≤ nI (1000000 - (m + 1)) := nI_ge (b := 1000000) (by omega) (by decide)
  have g2 : nI (1000000 - (m + 1)) + 1 = nI (1000000 - m) := by rw [nI_1]; exact congrArg nI (by omega)
  have hf0 := h4
  obtain ⟨q1, q2, q3, q4, q5⟩ := h4
  have hc : (nI r.length).toNatClampNeg = r.length := nI_clamp (by omega)
  have v544 : vp_in (nI r.length) 544 := vp_in_nI hl (by decide)
  have et : fT (nI r.length).toNatClampNeg = nI p := by rw [hc]; exact q1
  have ee : fE (nI r.length).toNatClampNeg = am_xe s e := by rw [hc]; exact q3
  have d0 : (0 : Int32) < nI (r.length + 1) := nI_lt (a := 0) (by omega) (by omega)
  have hh0 : fH (nI r.length).toNatClampNeg = 0 := by
    rw [hc]
    rcases q4 with ⟨_, z⟩ | ⟨z, _⟩
    · exact z
    · exact absurd z (by decide)
  rw [wX_runPath_34]
  refine br_f g1 (br_t rfl (br_t rfl ?_))
  exact br_t d0 (nm_r (nI_pred r.length) ⟨v544, nm_r et (am_xtk hn hp (am_xta hn hp (am_xend hn hp hen (nI_1 p) ⟨v544, nm_r ee (br_t (by rw [hk]; decide) (⟨v544, br_t hh0 (am_xhf hl (am_nark rk) (am_x62v g2 (h m (am_xk rk) (am_xv s rk rv) jV jO jC jW kT kE fT fE (upd fH r.length 1) (upd fC r.length (am_xk rk)) (upd fW r.length (am_xv s rk rv)) (by omega) (by omega) h3 (am_fx_hold hv hf0))))⟩))⟩)))⟩)
theorem am_xr_hold3 (hn : n ≤ 32) (hA : mA ≤ 16) (hen : ∀ i, i < n → en i = nI (am_eN tk n i)) (w : am_WF n mC mA s) (he : am_okE s e) (hp : p < n) (hl : r.length < 544) (hv : am_okV s rk rv) (hk : tk p = 3) (h : am_LXv post n tk ta en mC mA ph sols fails lK lV lH lL lA pl b L0 a (am_eN tk n (p + 1)) e ((p, e, 2, rk, rv) :: r) s) : am_LXr post n tk ta en mC mA ph sols fails lK lV lH lL lA pl b L0 (a + 1) rk rv ((p, e, 1, 0, 0) :: r) s := by
  intro m po ev jV jO jC jW kT kE fT fE fH fC fW h1 h2 h3 h4
  obtain ⟨m, rfl⟩ : ∃ m', m = m' + 1 := ⟨m - 1, by omega⟩
  have g1 : ¬ (1000000 : Int32) ≤ nI (1000000 - (m + 1)) := nI_ge (b := 1000000) (by omega) (by decide)
  have g2 : nI (1000000 - (m + 1)) + 1 = nI (1000000 - m) := by rw [nI_1]; exact congrArg nI (by omega)
  have hf0 := h4
  obtain ⟨q1, q2, q3, q4, q5⟩ := h4
  have hc : (nI r.length).toNatClampNeg = r.length := nI_clamp (by omega)
  have v544 : vp_in (nI r.length) 544 := vp_in_nI hl (by decide)
  have et : fT (nI r.length).toNatClampNeg = nI p := by rw [hc]; exact q1
  have ee : fE (nI r.length).toNatClampNeg = am_xe s e := by rw [hc]; exact q3
  have d0 : (0 : Int32) < nI (r.length + 1) := nI_lt (a := 0) (by omega) (by omega)
  have hh0 : fH (nI r.length).toNatClampNeg = 0 := by
    rw [hc]
    rcases q4 with ⟨_, z⟩ | ⟨z, _⟩
    · exact z
    · exact absurd z (by decide)
  rw [wX_runPath_34]
  refine br_f g1 (br_t rfl (br_t rfl ?_))
  exact br_t d0 (nm_r (nI_pred r.length) ⟨v544, nm_r et (am_xtk hn hp (am_xta hn hp (am_xend hn hp hen (nI_1 p) ⟨v544, nm_r ee (br_t (by rw [hk]; decide) (⟨v544, br_t hh0 (am_xhf hl (am_nark rk) (am_x62v g2 (h m (am_xk rk) (am_xv s rk rv) jV jO jC jW kT kE fT fE (upd fH r.length 1) (upd fC r.length (am_xk rk)) (upd fW r.length (am_xv s rk rv)) (by omega) (by omega) h3 (am_fx_hold hv hf0))))⟩))⟩)))⟩)
theorem am_xr_hold4 (hn : n ≤ 32) (hA : mA ≤ 16) (hen : ∀ i, i < n → en i = nI (am_eN tk n i)) (w : am_WF n mC mA s) (he : am_okE s e) (hp : p < n) (hl : r.length < 544) (hv : am_okV s rk rv) (hk : tk p = 4) (h : am_LXv post n tk ta en mC mA ph sols fails lK lV lH lL lA pl b L0 a (am_eN tk n (p + 1)) e ((p, e, 2, rk, rv) :: r) s) : am_LXr post n tk ta en mC mA ph sols fails lK lV lH lL lA pl b L0 (a + 1) rk rv ((p, e, 1, 0, 0) :: r) s := by
  intro m po ev jV jO jC jW kT kE fT fE fH fC fW h1 h2 h3 h4
  obtain ⟨m, rfl⟩ : ∃ m', m = m' + 1 := ⟨m - 1, by omega⟩
  have g1 : ¬ (1000000 : Int32) ≤ nI (1000000 - (m + 1)) := nI_ge (b := 1000000) (by omega) (by decide)
  have g2 : nI (1000000 - (m + 1)) + 1 = nI (1000000 - m) := by rw [nI_1]; exact congrArg nI (by omega)
  have hf0 := h4
  obtain ⟨q1, q2, q3, q4, q5⟩ := h4
  have hc : (nI r.length).toNatClampNeg = r.length := nI_clamp (by omega)
  have v544 : vp_in (nI r.length) 544 := vp_in_nI hl (by decide)
  have et : fT (nI r.length).toNatClampNeg = nI p := by rw [hc]; exact q1
  have ee : fE (nI r.length).toNatClampNeg = am_xe s e := by rw [hc]; exact q3
  have d0 : (0 : Int32) < nI (r.length + 1) := nI_lt (a := 0) (by omega) (by omega)
  have hh0 : fH (nI r.length).toNatClampNeg = 0 := by
    rw [hc]
    rcases q4 with ⟨_, z⟩ | ⟨z, _⟩
    · exact z
    · exact absurd z (by decide)
  rw [wX_runPath_34]
  refine br_f g1 (br_t rfl (br_t rfl ?_))
  exact br_t d0 (nm_r (nI_pred r.length) ⟨v544, nm_r et (am_xtk hn hp (am_xta hn hp (am_xend hn hp hen (nI_1 p) ⟨v544, nm_r ee (br_t (by rw [hk]; decide) (⟨v544, br_t hh0 (am_xhf hl (am_nark rk) (am_x62v g2 (h m (am_xk rk) (am_xv s rk rv) jV jO jC jW kT kE fT fE (upd fH r.length 1) (upd fC r.length (am_xk rk)) (upd fW r.length (am_xv s rk rv)) (by omega) (by omega) h3 (am_fx_hold hv hf0))))⟩))⟩)))⟩)
theorem am_xr_hold5 (hn : n ≤ 32) (hA : mA ≤ 16) (hen : ∀ i, i < n → en i = nI (am_eN tk n i)) (w : am_WF n mC mA s) (he : am_okE s e) (hp : p < n) (hl : r.length < 544) (hv : am_okV s rk rv) (hk : tk p = 5) (h : am_LXv post n tk ta en mC mA ph sols fails lK lV lH lL lA pl b L0 a (am_eN tk n (p + 1)) e ((p, e, 2, rk, rv) :: r) s) : am_LXr post n tk ta en mC mA ph sols fails lK lV lH lL lA pl b L0 (a + 1) rk rv ((p, e, 1, 0, 0) :: r) s := by
  intro m po ev jV jO jC jW kT kE fT fE fH fC fW h1 h2 h3 h4
  obtain ⟨m, rfl⟩ : ∃ m', m = m' + 1 := ⟨m - 1, by omega⟩
  have g1 : ¬ (1000000 : Int32) ≤ nI (1000000 - (m + 1)) := nI_ge (b := 1000000) (by omega) (by decide)
  have g2 : nI (1000000 - (m + 1)) + 1 = nI (1000000 - m) := by rw [nI_1]; exact congrArg nI (by omega)
  have hf0 := h4
  obtain ⟨q1, q2, q3, q4, q5⟩ := h4
  have hc : (nI r.length).toNatClampNeg = r.length := nI_clamp (by omega)
  have v544 : vp_in (nI r.length) 544 := vp_in_nI hl (by decide)
  have et : fT (nI r.length).toNatClampNeg = nI p := by rw [hc]; exact q1
  have ee : fE (nI r.length).toNatClampNeg = am_xe s e := by rw [hc]; exact q3
  have d0 : (0 : Int32) < nI (r.length + 1) := nI_lt (a := 0) (by omega) (by omega)
  have hh0 : fH (nI r.length).toNatClampNeg = 0 := by
    rw [hc]
    rcases q4 with ⟨_, z⟩ | ⟨z, _⟩
    · exact z
    · exact absurd z (by decide)
  rw [wX_runPath_34]
  refine br_f g1 (br_t rfl (br_t rfl ?_))
  exact br_t d0 (nm_r (nI_pred r.length) ⟨v544, nm_r et (am_xtk hn hp (am_xta hn hp (am_xend hn hp hen (nI_1 p) ⟨v544, nm_r ee (br_t (by rw [hk]; decide) (⟨v544, br_t hh0 (am_xhf hl (am_nark rk) (am_x62v g2 (h m (am_xk rk) (am_xv s rk rv) jV jO jC jW kT kE fT fE (upd fH r.length 1) (upd fC r.length (am_xk rk)) (upd fW r.length (am_xv s rk rv)) (by omega) (by omega) h3 (am_fx_hold hv hf0))))⟩))⟩)))⟩)
theorem am_xr_hold6 (hn : n ≤ 32) (hA : mA ≤ 16) (hen : ∀ i, i < n → en i = nI (am_eN tk n i)) (w : am_WF n mC mA s) (he : am_okE s e) (hp : p < n) (hl : r.length < 544) (hv : am_okV s rk rv) (hk : tk p = 6) (h : am_LXv post n tk ta en mC mA ph sols fails lK lV lH lL lA pl b L0 a (am_eN tk n (p + 1)) e ((p, e, 2, rk, rv) :: r) s) : am_LXr post n tk ta en mC mA ph sols fails lK lV lH lL lA pl b L0 (a + 1) rk rv ((p, e, 1, 0, 0) :: r) s := by
  intro m po ev jV jO jC jW kT kE fT fE fH fC fW h1 h2 h3 h4
  obtain ⟨m, rfl⟩ : ∃ m', m = m' + 1 := ⟨m - 1, by omega⟩
  have g1 : ¬ (1000000 : Int32) ≤ nI (1000000 - (m + 1)) := nI_ge (b := 1000000) (by omega) (by decide)
  have g2 : nI (1000000 - (m + 1)) + 1 = nI (1000000 - m) := by rw [nI_1]; exact congrArg nI (by omega)
  have hf0 := h4
  obtain ⟨q1, q2, q3, q4, q5⟩ := h4
  have hc : (nI r.length).toNatClampNeg = r.length := nI_clamp (by omega)
  have v544 : vp_in (nI r.length) 544 := vp_in_nI hl (by decide)
  have et : fT (nI r.length).toNatClampNeg = nI p := by rw [hc]; exact q1
  have ee : fE (nI r.length).toNatClampNeg = am_xe s e := by rw [hc]; exact q3
  have d0 : (0 : Int32) < nI (r.length + 1) := nI_lt (a := 0) (by omega) (by omega)
  have hh0 : fH (nI r.length).toNatClampNeg = 0 := by
    rw [hc]
    rcases q4 with ⟨_, z⟩ | ⟨z, _⟩
    · exact z
    · exact absurd z (by decide)
  rw [wX_runPath_34]
  refine br_f g1 (br_t rfl (br_t rfl ?_))
  exact br_t d0 (nm_r (nI_pred r.length) ⟨v544, nm_r et (am_xtk hn hp (am_xta hn hp (am_xend hn hp hen (nI_1 p) ⟨v544, nm_r ee (br_t (by rw [hk]; decide) (⟨v544, br_t hh0 (am_xhf hl (am_nark rk) (am_x62v g2 (h m (am_xk rk) (am_xv s rk rv) jV jO jC jW kT kE fT fE (upd fH r.length 1) (upd fC r.length (am_xk rk)) (upd fW r.length (am_xv s rk rv)) (by omega) (by omega) h3 (am_fx_hold hv hf0))))⟩))⟩)))⟩)
theorem am_xr_hold13 (hn : n ≤ 32) (hA : mA ≤ 16) (hen : ∀ i, i < n → en i = nI (am_eN tk n i)) (w : am_WF n mC mA s) (he : am_okE s e) (hp : p < n) (hl : r.length < 544) (hv : am_okV s rk rv) (hk : tk p = 13) (h : am_LXv post n tk ta en mC mA ph sols fails lK lV lH lL lA pl b L0 a (am_eN tk n (p + 1)) e ((p, e, 2, rk, rv) :: r) s) : am_LXr post n tk ta en mC mA ph sols fails lK lV lH lL lA pl b L0 (a + 1) rk rv ((p, e, 1, 0, 0) :: r) s := by
  intro m po ev jV jO jC jW kT kE fT fE fH fC fW h1 h2 h3 h4
  obtain ⟨m, rfl⟩ : ∃ m', m = m' + 1 := ⟨m - 1, by omega⟩
  have g1 : ¬ (1000000 : Int32) ≤ nI (1000000 - (m + 1)) := nI_ge (b := 1000000) (by omega) (by decide)
  have g2 : nI (1000000 - (m + 1)) + 1 = nI (1000000 - m) := by rw [nI_1]; exact congrArg nI (by omega)
  have hf0 := h4
  obtain ⟨q1, q2, q3, q4, q5⟩ := h4
  have hc : (nI r.length).toNatClampNeg = r.length := nI_clamp (by omega)
  have v544 : vp_in (nI r.length) 544 := vp_in_nI hl (by decide)
  have et : fT (nI r.length).toNatClampNeg = nI p := by rw [hc]; exact q1
  have ee : fE (nI r.length).toNatClampNeg = am_xe s e := by rw [hc]; exact q3
  have d0 : (0 : Int32) < nI (r.length + 1) := nI_lt (a := 0) (by omega) (by omega)
  have hh0 : fH (nI r.length).toNatClampNeg = 0 := by
    rw [hc]
    rcases q4 with ⟨_, z⟩ | ⟨z, _⟩
    · exact z
    · exact absurd z (by decide)
  rw [wX_runPath_34]
  refine br_f g1 (br_t rfl (br_t rfl ?_))
  exact br_t d0 (nm_r (nI_pred r.length) ⟨v544, nm_r et (am_xtk hn hp (am_xta hn hp (am_xend hn hp hen (nI_1 p) ⟨v544, nm_r ee (br_f (by rw [hk]; decide) (br_f (by rw [hk]; decide) (br_f (by rw [hk]; decide) (br_f (by rw [hk]; decide) (br_f (by rw [hk]; decide) (br_f (by rw [hk]; decide) (br_f (by rw [hk]; decide) (br_f (by rw [hk]; decide) (br_t hk (⟨v544, br_t hh0 (am_xhf hl (am_nark rk) (am_x62v g2 (h m (am_xk rk) (am_xv s rk rv) jV jO jC jW kT kE fT fE (upd fH r.length 1) (upd fC r.length (am_xk rk)) (upd fW r.length (am_xv s rk rv)) (by omega) (by omega) h3 (am_fx_hold hv hf0))))⟩))))))))))⟩)))⟩)
theorem am_xr_calc2 (hn : n ≤ 32) (hA : mA ≤ 16) (hen : ∀ i, i < n → en i = nI (am_eN tk n i)) (w : am_WF n mC mA s) (he : am_okE s e) (hp : p < n) (hl : r.length < 544) (hk : tk p = 2) (h : am_LXr post n tk ta en mC mA ph sols fails lK lV lH lL lA pl b L0 a 1 (am_op (tk p) v rv) r s) : am_LXr post n tk ta en mC mA ph sols fails lK lV lH lL lA pl b L0 (a + 1) 1 rv ((p, e, 2, 1, v) :: r) s := by
  intro m po ev jV jO jC jW kT kE fT fE fH fC fW h1 h2 h3 h4
  obtain ⟨m, rfl⟩ : ∃ m', m = m' + 1 := ⟨m - 1, by omega⟩
  have g1 : ¬ (1000000 : Int32) ≤ nI (1000000 - (m + 1)) := nI_ge (b := 1000000) (by omega) (by decide)
  have g2 : nI (1000000 - (m + 1)) + 1 = nI (1000000 - m) := by rw [nI_1]; exact congrArg nI (by omega)
  have hf0 := h4
  obtain ⟨q1, q2, q3, q4, q5⟩ := h4
  have hc : (nI r.length).toNatClampNeg = r.length := nI_clamp (by omega)
  have v544 : vp_in (nI r.length) 544 := vp_in_nI hl (by decide)
  have et : fT (nI r.length).toNatClampNeg = nI p := by rw [hc]; exact q1
  have ee : fE (nI r.length).toNatClampNeg = am_xe s e := by rw [hc]; exact q3
  have d0 : (0 : Int32) < nI (r.length + 1) := nI_lt (a := 0) (by omega) (by omega)
  obtain ⟨z1, z2, z3, z4⟩ : fH r.length = 1 ∧ am_okV s 1 v ∧ fC r.length = am_xk 1 ∧ fW r.length = am_xv s 1 v := by
    rcases q4 with ⟨z, _⟩ | ⟨_, z⟩
    · exact absurd z (by decide)
    · exact z
  have hh1 : ¬ fH (nI r.length).toNatClampNeg = 0 := by rw [hc, z1]; decide
  have ec : fC (nI r.length).toNatClampNeg = am_xk 1 := by rw [hc]; exact z3
  have ew : fW (nI r.length).toNatClampNeg = am_xv s 1 v := by rw [hc]; exact z4
  rw [am_xk_1] at ec
  rw [am_xv_1] at ew
  have hh := h m po (am_xe s e) jV jO jC jW kT kE fT fE fH fC fW (by omega) (by omega) h3 q5
  rw [am_xk_1, am_xv_1] at hh
  have hb : am_bin (tk p) := by rw [hk]; unfold am_bin; decide
  rw [am_xk_1, am_xv_1]
  rw [wX_runPath_34]
  refine br_f g1 (br_t rfl (br_t rfl ?_))
  exact br_t d0 (nm_r (nI_pred r.length) ⟨v544, nm_r et (am_xtk hn hp (am_xta hn hp (am_xend hn hp hen (nI_1 p) ⟨v544, nm_r ee (br_t (by rw [hk]; decide) (⟨v544, br_f hh1 (br_f (by rw [hk]; decide) ⟨v544, br_t ec (br_t rfl ⟨v544, am_xcomb hb ew (am_xgi rfl (am_x62r r (by omega) g2 hh))⟩)⟩)⟩))⟩)))⟩)
theorem am_xr_calcF2 (hn : n ≤ 32) (hA : mA ≤ 16) (hen : ∀ i, i < n → en i = nI (am_eN tk n i)) (w : am_WF n mC mA s) (he : am_okE s e) (hp : p < n) (hl : r.length < 544) (hv : am_okV s rk rv) (hk : tk p = 2) (hno : ¬ (k = 1 ∧ rk = 1)) (hq : am_QX post n tk ta en mC mA ph sols fails lK lV lH lL lA pl b L0 s) : am_LXr post n tk ta en mC mA ph sols fails lK lV lH lL lA pl b L0 (a + 1) rk rv ((p, e, 2, k, v) :: r) s := by
  intro m po ev jV jO jC jW kT kE fT fE fH fC fW h1 h2 h3 h4
  obtain ⟨m, rfl⟩ : ∃ m', m = m' + 1 := ⟨m - 1, by omega⟩
  have g1 : ¬ (1000000 : Int32) ≤ nI (1000000 - (m + 1)) := nI_ge (b := 1000000) (by omega) (by decide)
  have g2 : nI (1000000 - (m + 1)) + 1 = nI (1000000 - m) := by rw [nI_1]; exact congrArg nI (by omega)
  have hf0 := h4
  obtain ⟨q1, q2, q3, q4, q5⟩ := h4
  have hc : (nI r.length).toNatClampNeg = r.length := nI_clamp (by omega)
  have v544 : vp_in (nI r.length) 544 := vp_in_nI hl (by decide)
  have et : fT (nI r.length).toNatClampNeg = nI p := by rw [hc]; exact q1
  have ee : fE (nI r.length).toNatClampNeg = am_xe s e := by rw [hc]; exact q3
  have d0 : (0 : Int32) < nI (r.length + 1) := nI_lt (a := 0) (by omega) (by omega)
  obtain ⟨z1, z2, z3, z4⟩ : fH r.length = 1 ∧ am_okV s k v ∧ fC r.length = am_xk k ∧ fW r.length = am_xv s k v := by
    rcases q4 with ⟨z, _⟩ | ⟨_, z⟩
    · exact absurd z (by decide)
    · exact z
  have hh1 : ¬ fH (nI r.length).toNatClampNeg = 0 := by rw [hc, z1]; decide
  have ec : fC (nI r.length).toNatClampNeg = am_xk k := by rw [hc]; exact z3
  have ew : fW (nI r.length).toNatClampNeg = am_xv s k v := by rw [hc]; exact z4
  rcases z2 with y | ⟨y, _⟩
  · rcases hv with y2 | ⟨y2, _⟩
    · exact absurd ⟨y, y2⟩ hno
    · rw [y, am_xk_1] at ec
      rw [y2, am_xk_2]
      rw [wX_runPath_34]
      refine br_f g1 (br_t rfl (br_t rfl ?_))
      exact br_t d0 (nm_r (nI_pred r.length) ⟨v544, nm_r et (am_xtk hn hp (am_xta hn hp (am_xend hn hp hen (nI_1 p) ⟨v544, nm_r ee (br_t (by rw [hk]; decide) (⟨v544, br_f hh1 (br_f (by rw [hk]; decide) ⟨v544, br_t ec (br_f (by decide) (am_x62F (hq _ _ _ _ _ _ _ _ _ _ _ _ _ _ _ _ _ _)))⟩)⟩))⟩)))⟩)
  · have nc : ¬ fC (nI r.length).toNatClampNeg = 0 := by rw [ec, y, am_xk_2]; decide
    rw [wX_runPath_34]
    refine br_f g1 (br_t rfl (br_t rfl ?_))
    exact br_t d0 (nm_r (nI_pred r.length) ⟨v544, nm_r et (am_xtk hn hp (am_xta hn hp (am_xend hn hp hen (nI_1 p) ⟨v544, nm_r ee (br_t (by rw [hk]; decide) (⟨v544, br_f hh1 (br_f (by rw [hk]; decide) ⟨v544, br_f nc (am_x62F (hq _ _ _ _ _ _ _ _ _ _ _ _ _ _ _ _ _ _))⟩)⟩))⟩)))⟩)
theorem am_xr_calc3 (hn : n ≤ 32) (hA : mA ≤ 16) (hen : ∀ i, i < n → en i = nI (am_eN tk n i)) (w : am_WF n mC mA s) (he : am_okE s e) (hp : p < n) (hl : r.length < 544) (hk : tk p = 3) (h : am_LXr post n tk ta en mC mA ph sols fails lK lV lH lL lA pl b L0 a 1 (am_op (tk p) v rv) r s) : am_LXr post n tk ta en mC mA ph sols fails lK lV lH lL lA pl b L0 (a + 1) 1 rv ((p, e, 2, 1, v) :: r) s := by
  intro m po ev jV jO jC jW kT kE fT fE fH fC fW h1 h2 h3 h4
  obtain ⟨m, rfl⟩ : ∃ m', m = m' + 1 := ⟨m - 1, by omega⟩
  have g1 : ¬ (1000000 : Int32) ≤ nI (1000000 - (m + 1)) := nI_ge (b := 1000000) (by omega) (by decide)
  have g2 : nI (1000000 - (m + 1)) + 1 = nI (1000000 - m) := by rw [nI_1]; exact congrArg nI (by omega)
  have hf0 := h4
  obtain ⟨q1, q2, q3, q4, q5⟩ := h4
  have hc : (nI r.length).toNatClampNeg = r.length := nI_clamp (by omega)
  have v544 : vp_in (nI r.length) 544 := vp_in_nI hl (by decide)
  have et : fT (nI r.length).toNatClampNeg = nI p := by rw [hc]; exact q1
  have ee : fE (nI r.length).toNatClampNeg = am_xe s e := by rw [hc]; exact q3
  have d0 : (0 : Int32) < nI (r.length + 1) := nI_lt (a := 0) (by omega) (by omega)
  obtain ⟨z1, z2, z3, z4⟩ : fH r.length = 1 ∧ am_okV s 1 v ∧ fC r.length = am_xk 1 ∧ fW r.length = am_xv s 1 v := by
    rcases q4 with ⟨z, _⟩ | ⟨_, z⟩
    · exact absurd z (by decide)
    · exact z
  have hh1 : ¬ fH (nI r.length).toNatClampNeg = 0 := by rw [hc, z1]; decide
  have ec : fC (nI r.length).toNatClampNeg = am_xk 1 := by rw [hc]; exact z3
  have ew : fW (nI r.length).toNatClampNeg = am_xv s 1 v := by rw [hc]; exact z4
  rw [am_xk_1] at ec
  rw [am_xv_1] at ew
  have hh := h m po (am_xe s e) jV jO jC jW kT kE fT fE fH fC fW (by omega) (by omega) h3 q5
  rw [am_xk_1, am_xv_1] at hh
  have hb : am_bin (tk p) := by rw [hk]; unfold am_bin; decide
  rw [am_xk_1, am_xv_1]
  rw [wX_runPath_34]
  refine br_f g1 (br_t rfl (br_t rfl ?_))
  exact br_t d0 (nm_r (nI_pred r.length) ⟨v544, nm_r et (am_xtk hn hp (am_xta hn hp (am_xend hn hp hen (nI_1 p) ⟨v544, nm_r ee (br_t (by rw [hk]; decide) (⟨v544, br_f hh1 (br_f (by rw [hk]; decide) ⟨v544, br_t ec (br_t rfl ⟨v544, am_xcomb hb ew (am_xgi rfl (am_x62r r (by omega) g2 hh))⟩)⟩)⟩))⟩)))⟩)
theorem am_xr_calcF3 (hn : n ≤ 32) (hA : mA ≤ 16) (hen : ∀ i, i < n → en i = nI (am_eN tk n i)) (w : am_WF n mC mA s) (he : am_okE s e) (hp : p < n) (hl : r.length < 544) (hv : am_okV s rk rv) (hk : tk p = 3) (hno : ¬ (k = 1 ∧ rk = 1)) (hq : am_QX post n tk ta en mC mA ph sols fails lK lV lH lL lA pl b L0 s) : am_LXr post n tk ta en mC mA ph sols fails lK lV lH lL lA pl b L0 (a + 1) rk rv ((p, e, 2, k, v) :: r) s := by
  intro m po ev jV jO jC jW kT kE fT fE fH fC fW h1 h2 h3 h4
  obtain ⟨m, rfl⟩ : ∃ m', m = m' + 1 := ⟨m - 1, by omega⟩
  have g1 : ¬ (1000000 : Int32) ≤ nI (1000000 - (m + 1)) := nI_ge (b := 1000000) (by omega) (by decide)
  have g2 : nI (1000000 - (m + 1)) + 1 = nI (1000000 - m) := by rw [nI_1]; exact congrArg nI (by omega)
  have hf0 := h4
  obtain ⟨q1, q2, q3, q4, q5⟩ := h4
  have hc : (nI r.length).toNatClampNeg = r.length := nI_clamp (by omega)
  have v544 : vp_in (nI r.length) 544 := vp_in_nI hl (by decide)
  have et : fT (nI r.length).toNatClampNeg = nI p := by rw [hc]; exact q1
  have ee : fE (nI r.length).toNatClampNeg = am_xe s e := by rw [hc]; exact q3
  have d0 : (0 : Int32) < nI (r.length + 1) := nI_lt (a := 0) (by omega) (by omega)
  obtain ⟨z1, z2, z3, z4⟩ : fH r.length = 1 ∧ am_okV s k v ∧ fC r.length = am_xk k ∧ fW r.length = am_xv s k v := by
    rcases q4 with ⟨z, _⟩ | ⟨_, z⟩
    · exact absurd z (by decide)
    · exact z
  have hh1 : ¬ fH (nI r.length).toNatClampNeg = 0 := by rw [hc, z1]; decide
  have ec : fC (nI r.length).toNatClampNeg = am_xk k := by rw [hc]; exact z3
  have ew : fW (nI r.length).toNatClampNeg = am_xv s k v := by rw [hc]; exact z4
  rcases z2 with y | ⟨y, _⟩
  · rcases hv with y2 | ⟨y2, _⟩
    · exact absurd ⟨y, y2⟩ hno
    · rw [y, am_xk_1] at ec
      rw [y2, am_xk_2]
      rw [wX_runPath_34]
      refine br_f g1 (br_t rfl (br_t rfl ?_))
      exact br_t d0 (nm_r (nI_pred r.length) ⟨v544, nm_r et (am_xtk hn hp (am_xta hn hp (am_xend hn hp hen (nI_1 p) ⟨v544, nm_r ee (br_t (by rw [hk]; decide) (⟨v544, br_f hh1 (br_f (by rw [hk]; decide) ⟨v544, br_t ec (br_f (by decide) (am_x62F (hq _ _ _ _ _ _ _ _ _ _ _ _ _ _ _ _ _ _)))⟩)⟩))⟩)))⟩)
  · have nc : ¬ fC (nI r.length).toNatClampNeg = 0 := by rw [ec, y, am_xk_2]; decide
    rw [wX_runPath_34]
    refine br_f g1 (br_t rfl (br_t rfl ?_))
    exact br_t d0 (nm_r (nI_pred r.length) ⟨v544, nm_r et (am_xtk hn hp (am_xta hn hp (am_xend hn hp hen (nI_1 p) ⟨v544, nm_r ee (br_t (by rw [hk]; decide) (⟨v544, br_f hh1 (br_f (by rw [hk]; decide) ⟨v544, br_f nc (am_x62F (hq _ _ _ _ _ _ _ _ _ _ _ _ _ _ _ _ _ _))⟩)⟩))⟩)))⟩)
theorem am_xr_calc4 (hn : n ≤ 32) (hA : mA ≤ 16) (hen : ∀ i, i < n → en i = nI (am_eN tk n i)) (w : am_WF n mC mA s) (he : am_okE s e) (hp : p < n) (hl : r.length < 544) (hk : tk p = 4) (h : am_LXr post n tk ta en mC mA ph sols fails lK lV lH lL lA pl b L0 a 1 (am_op (tk p) v rv) r s) : am_LXr post n tk ta en mC mA ph sols fails lK lV lH lL lA pl b L0 (a + 1) 1 rv ((p, e, 2, 1, v) :: r) s := by
  intro m po ev jV jO jC jW kT kE fT fE fH fC fW h1 h2 h3 h4
  obtain ⟨m, rfl⟩ : ∃ m', m = m' + 1 := ⟨m - 1, by omega⟩
  have g1 : ¬ (1000000 : Int32) ≤ nI (1000000 - (m + 1)) := nI_ge (b := 1000000) (by omega) (by decide)
  have g2 : nI (1000000 - (m + 1)) + 1 = nI (1000000 - m) := by rw [nI_1]; exact congrArg nI (by omega)
  have hf0 := h4
  obtain ⟨q1, q2, q3, q4, q5⟩ := h4
  have hc : (nI r.length).toNatClampNeg = r.length := nI_clamp (by omega)
  have v544 : vp_in (nI r.length) 544 := vp_in_nI hl (by decide)
  have et : fT (nI r.length).toNatClampNeg = nI p := by rw [hc]; exact q1
  have ee : fE (nI r.length).toNatClampNeg = am_xe s e := by rw [hc]; exact q3
  have d0 : (0 : Int32) < nI (r.length + 1) := nI_lt (a := 0) (by omega) (by omega)
  obtain ⟨z1, z2, z3, z4⟩ : fH r.length = 1 ∧ am_okV s 1 v ∧ fC r.length = am_xk 1 ∧ fW r.length = am_xv s 1 v := by
    rcases q4 with ⟨z, _⟩ | ⟨_, z⟩
    · exact absurd z (by decide)
    · exact z
  have hh1 : ¬ fH (nI r.length).toNatClampNeg = 0 := by rw [hc, z1]; decide
  have ec : fC (nI r.length).toNatClampNeg = am_xk 1 := by rw [hc]; exact z3
  have ew : fW (nI r.length).toNatClampNeg = am_xv s 1 v := by rw [hc]; exact z4
  rw [am_xk_1] at ec
  rw [am_xv_1] at ew
  have hh := h m po (am_xe s e) jV jO jC jW kT kE fT fE fH fC fW (by omega) (by omega) h3 q5
  rw [am_xk_1, am_xv_1] at hh
  have hb : am_bin (tk p) := by rw [hk]; unfold am_bin; decide
  rw [am_xk_1, am_xv_1]
  rw [wX_runPath_34]
  refine br_f g1 (br_t rfl (br_t rfl ?_))
  exact br_t d0 (nm_r (nI_pred r.length) ⟨v544, nm_r et (am_xtk hn hp (am_xta hn hp (am_xend hn hp hen (nI_1 p) ⟨v544, nm_r ee (br_t (by rw [hk]; decide) (⟨v544, br_f hh1 (br_f (by rw [hk]; decide) ⟨v544, br_t ec (br_t rfl ⟨v544, am_xcomb hb ew (am_xgi rfl (am_x62r r (by omega) g2 hh))⟩)⟩)⟩))⟩)))⟩)
theorem am_xr_calcF4 (hn : n ≤ 32) (hA : mA ≤ 16) (hen : ∀ i, i < n → en i = nI (am_eN tk n i)) (w : am_WF n mC mA s) (he : am_okE s e) (hp : p < n) (hl : r.length < 544) (hv : am_okV s rk rv) (hk : tk p = 4) (hno : ¬ (k = 1 ∧ rk = 1)) (hq : am_QX post n tk ta en mC mA ph sols fails lK lV lH lL lA pl b L0 s) : am_LXr post n tk ta en mC mA ph sols fails lK lV lH lL lA pl b L0 (a + 1) rk rv ((p, e, 2, k, v) :: r) s := by
  intro m po ev jV jO jC jW kT kE fT fE fH fC fW h1 h2 h3 h4
  obtain ⟨m, rfl⟩ : ∃ m', m = m' + 1 := ⟨m - 1, by omega⟩
  have g1 : ¬ (1000000 : Int32) ≤ nI (1000000 - (m + 1)) := nI_ge (b := 1000000) (by omega) (by decide)
  have g2 : nI (1000000 - (m + 1)) + 1 = nI (1000000 - m) := by rw [nI_1]; exact congrArg nI (by omega)
  have hf0 := h4
  obtain ⟨q1, q2, q3, q4, q5⟩ := h4
  have hc : (nI r.length).toNatClampNeg = r.length := nI_clamp (by omega)
  have v544 : vp_in (nI r.length) 544 := vp_in_nI hl (by decide)
  have et : fT (nI r.length).toNatClampNeg = nI p := by rw [hc]; exact q1
  have ee : fE (nI r.length).toNatClampNeg = am_xe s e := by rw [hc]; exact q3
  have d0 : (0 : Int32) < nI (r.length + 1) := nI_lt (a := 0) (by omega) (by omega)
  obtain ⟨z1, z2, z3, z4⟩ : fH r.length = 1 ∧ am_okV s k v ∧ fC r.length = am_xk k ∧ fW r.length = am_xv s k v := by
    rcases q4 with ⟨z, _⟩ | ⟨_, z⟩
    · exact absurd z (by decide)
    · exact z
  have hh1 : ¬ fH (nI r.length).toNatClampNeg = 0 := by rw [hc, z1]; decide
  have ec : fC (nI r.length).toNatClampNeg = am_xk k := by rw [hc]; exact z3
  have ew : fW (nI r.length).toNatClampNeg = am_xv s k v := by rw [hc]; exact z4
  rcases z2 with y | ⟨y, _⟩
  · rcases hv with y2 | ⟨y2, _⟩
    · exact absurd ⟨y, y2⟩ hno
    · rw [y, am_xk_1] at ec
      rw [y2, am_xk_2]
      rw [wX_runPath_34]
      refine br_f g1 (br_t rfl (br_t rfl ?_))
      exact br_t d0 (nm_r (nI_pred r.length) ⟨v544, nm_r et (am_xtk hn hp (am_xta hn hp (am_xend hn hp hen (nI_1 p) ⟨v544, nm_r ee (br_t (by rw [hk]; decide) (⟨v544, br_f hh1 (br_f (by rw [hk]; decide) ⟨v544, br_t ec (br_f (by decide) (am_x62F (hq _ _ _ _ _ _ _ _ _ _ _ _ _ _ _ _ _ _)))⟩)⟩))⟩)))⟩)
  · have nc : ¬ fC (nI r.length).toNatClampNeg = 0 := by rw [ec, y, am_xk_2]; decide
    rw [wX_runPath_34]
    refine br_f g1 (br_t rfl (br_t rfl ?_))
    exact br_t d0 (nm_r (nI_pred r.length) ⟨v544, nm_r et (am_xtk hn hp (am_xta hn hp (am_xend hn hp hen (nI_1 p) ⟨v544, nm_r ee (br_t (by rw [hk]; decide) (⟨v544, br_f hh1 (br_f (by rw [hk]; decide) ⟨v544, br_f nc (am_x62F (hq _ _ _ _ _ _ _ _ _ _ _ _ _ _ _ _ _ _))⟩)⟩))⟩)))⟩)
theorem am_xr_calc5 (hn : n ≤ 32) (hA : mA ≤ 16) (hen : ∀ i, i < n → en i = nI (am_eN tk n i)) (w : am_WF n mC mA s) (he : am_okE s e) (hp : p < n) (hl : r.length < 544) (hk : tk p = 5) (h : am_LXr post n tk ta en mC mA ph sols fails lK lV lH lL lA pl b L0 a 1 (am_op (tk p) v rv) r s) : am_LXr post n tk ta en mC mA ph sols fails lK lV lH lL lA pl b L0 (a + 1) 1 rv ((p, e, 2, 1, v) :: r) s := by
  intro m po ev jV jO jC jW kT kE fT fE fH fC fW h1 h2 h3 h4
  obtain ⟨m, rfl⟩ : ∃ m', m = m' + 1 := ⟨m - 1, by omega⟩
  have g1 : ¬ (1000000 : Int32) ≤ nI (1000000 - (m + 1)) := nI_ge (b := 1000000) (by omega) (by decide)
  have g2 : nI (1000000 - (m + 1)) + 1 = nI (1000000 - m) := by rw [nI_1]; exact congrArg nI (by omega)
  have hf0 := h4
  obtain ⟨q1, q2, q3, q4, q5⟩ := h4
  have hc : (nI r.length).toNatClampNeg = r.length := nI_clamp (by omega)
  have v544 : vp_in (nI r.length) 544 := vp_in_nI hl (by decide)
  have et : fT (nI r.length).toNatClampNeg = nI p := by rw [hc]; exact q1
  have ee : fE (nI r.length).toNatClampNeg = am_xe s e := by rw [hc]; exact q3
  have d0 : (0 : Int32) < nI (r.length + 1) := nI_lt (a := 0) (by omega) (by omega)
  obtain ⟨z1, z2, z3, z4⟩ : fH r.length = 1 ∧ am_okV s 1 v ∧ fC r.length = am_xk 1 ∧ fW r.length = am_xv s 1 v := by
    rcases q4 with ⟨z, _⟩ | ⟨_, z⟩
    · exact absurd z (by decide)
    · exact z
  have hh1 : ¬ fH (nI r.length).toNatClampNeg = 0 := by rw [hc, z1]; decide
  have ec : fC (nI r.length).toNatClampNeg = am_xk 1 := by rw [hc]; exact z3
  have ew : fW (nI r.length).toNatClampNeg = am_xv s 1 v := by rw [hc]; exact z4
  rw [am_xk_1] at ec
  rw [am_xv_1] at ew
  have hh := h m po (am_xe s e) jV jO jC jW kT kE fT fE fH fC fW (by omega) (by omega) h3 q5
  rw [am_xk_1, am_xv_1] at hh
  have hb : am_bin (tk p) := by rw [hk]; unfold am_bin; decide
  rw [am_xk_1, am_xv_1]
  rw [wX_runPath_34]
  refine br_f g1 (br_t rfl (br_t rfl ?_))
  exact br_t d0 (nm_r (nI_pred r.length) ⟨v544, nm_r et (am_xtk hn hp (am_xta hn hp (am_xend hn hp hen (nI_1 p) ⟨v544, nm_r ee (br_t (by rw [hk]; decide) (⟨v544, br_f hh1 (br_f (by rw [hk]; decide) ⟨v544, br_t ec (br_t rfl ⟨v544, am_xcomb hb ew (am_xgi rfl (am_x62r r (by omega) g2 hh))⟩)⟩)⟩))⟩)))⟩)
theorem am_xr_calcF5 (hn : n ≤ 32) (hA : mA ≤ 16) (hen : ∀ i, i < n → en i = nI (am_eN tk n i)) (w : am_WF n mC mA s) (he : am_okE s e) (hp : p < n) (hl : r.length < 544) (hv : am_okV s rk rv) (hk : tk p = 5) (hno : ¬ (k = 1 ∧ rk = 1)) (hq : am_QX post n tk ta en mC mA ph sols fails lK lV lH lL lA pl b L0 s) : am_LXr post n tk ta en mC mA ph sols fails lK lV lH lL lA pl b L0 (a + 1) rk rv ((p, e, 2, k, v) :: r) s := by
  intro m po ev jV jO jC jW kT kE fT fE fH fC fW h1 h2 h3 h4
  obtain ⟨m, rfl⟩ : ∃ m', m = m' + 1 := ⟨m - 1, by omega⟩
  have g1 : ¬ (1000000 : Int32) ≤ nI (1000000 - (m + 1)) := nI_ge (b := 1000000) (by omega) (by decide)
  have g2 : nI (1000000 - (m + 1)) + 1 = nI (1000000 - m) := by rw [nI_1]; exact congrArg nI (by omega)
  have hf0 := h4
  obtain ⟨q1, q2, q3, q4, q5⟩ := h4
  have hc : (nI r.length).toNatClampNeg = r.length := nI_clamp (by omega)
  have v544 : vp_in (nI r.length) 544 := vp_in_nI hl (by decide)
  have et : fT (nI r.length).toNatClampNeg = nI p := by rw [hc]; exact q1
  have ee : fE (nI r.length).toNatClampNeg = am_xe s e := by rw [hc]; exact q3
  have d0 : (0 : Int32) < nI (r.length + 1) := nI_lt (a := 0) (by omega) (by omega)
  obtain ⟨z1, z2, z3, z4⟩ : fH r.length = 1 ∧ am_okV s k v ∧ fC r.length = am_xk k ∧ fW r.length = am_xv s k v := by
    rcases q4 with ⟨z, _⟩ | ⟨_, z⟩
    · exact absurd z (by decide)
    · exact z
  have hh1 : ¬ fH (nI r.length).toNatClampNeg = 0 := by rw [hc, z1]; decide
  have ec : fC (nI r.length).toNatClampNeg = am_xk k := by rw [hc]; exact z3
  have ew : fW (nI r.length).toNatClampNeg = am_xv s k v := by rw [hc]; exact z4
  rcases z2 with y | ⟨y, _⟩
  · rcases hv with y2 | ⟨y2, _⟩
    · exact absurd ⟨y, y2⟩ hno
    · rw [y, am_xk_1] at ec
      rw [y2, am_xk_2]
      rw [wX_runPath_34]
      refine br_f g1 (br_t rfl (br_t rfl ?_))
      exact br_t d0 (nm_r (nI_pred r.length) ⟨v544, nm_r et (am_xtk hn hp (am_xta hn hp (am_xend hn hp hen (nI_1 p) ⟨v544, nm_r ee (br_t (by rw [hk]; decide) (⟨v544, br_f hh1 (br_f (by rw [hk]; decide) ⟨v544, br_t ec (br_f (by decide) (am_x62F (hq _ _ _ _ _ _ _ _ _ _ _ _ _ _ _ _ _ _)))⟩)⟩))⟩)))⟩)
  · have nc : ¬ fC (nI r.length).toNatClampNeg = 0 := by rw [ec, y, am_xk_2]; decide
    rw [wX_runPath_34]
    refine br_f g1 (br_t rfl (br_t rfl ?_))
    exact br_t d0 (nm_r (nI_pred r.length) ⟨v544, nm_r et (am_xtk hn hp (am_xta hn hp (am_xend hn hp hen (nI_1 p) ⟨v544, nm_r ee (br_t (by rw [hk]; decide) (⟨v544, br_f hh1 (br_f (by rw [hk]; decide) ⟨v544, br_f nc (am_x62F (hq _ _ _ _ _ _ _ _ _ _ _ _ _ _ _ _ _ _))⟩)⟩))⟩)))⟩)
theorem am_xr_calc6 (hn : n ≤ 32) (hA : mA ≤ 16) (hen : ∀ i, i < n → en i = nI (am_eN tk n i)) (w : am_WF n mC mA s) (he : am_okE s e) (hp : p < n) (hl : r.length < 544) (hk : tk p = 6) (h : am_LXr post n tk ta en mC mA ph sols fails lK lV lH lL lA pl b L0 a 1 (am_op (tk p) v rv) r s) : am_LXr post n tk ta en mC mA ph sols fails lK lV lH lL lA pl b L0 (a + 1) 1 rv ((p, e, 2, 1, v) :: r) s := by
  intro m po ev jV jO jC jW kT kE fT fE fH fC fW h1 h2 h3 h4
  obtain ⟨m, rfl⟩ : ∃ m', m = m' + 1 := ⟨m - 1, by omega⟩
  have g1 : ¬ (1000000 : Int32) ≤ nI (1000000 - (m + 1)) := nI_ge (b := 1000000) (by omega) (by decide)
  have g2 : nI (1000000 - (m + 1)) + 1 = nI (1000000 - m) := by rw [nI_1]; exact congrArg nI (by omega)
  have hf0 := h4
  obtain ⟨q1, q2, q3, q4, q5⟩ := h4
  have hc : (nI r.length).toNatClampNeg = r.length := nI_clamp (by omega)
  have v544 : vp_in (nI r.length) 544 := vp_in_nI hl (by decide)
  have et : fT (nI r.length).toNatClampNeg = nI p := by rw [hc]; exact q1
  have ee : fE (nI r.length).toNatClampNeg = am_xe s e := by rw [hc]; exact q3
  have d0 : (0 : Int32) < nI (r.length + 1) := nI_lt (a := 0) (by omega) (by omega)
  obtain ⟨z1, z2, z3, z4⟩ : fH r.length = 1 ∧ am_okV s 1 v ∧ fC r.length = am_xk 1 ∧ fW r.length = am_xv s 1 v := by
    rcases q4 with ⟨z, _⟩ | ⟨_, z⟩
    · exact absurd z (by decide)
    · exact z
  have hh1 : ¬ fH (nI r.length).toNatClampNeg = 0 := by rw [hc, z1]; decide
  have ec : fC (nI r.length).toNatClampNeg = am_xk 1 := by rw [hc]; exact z3
  have ew : fW (nI r.length).toNatClampNeg = am_xv s 1 v := by rw [hc]; exact z4
  rw [am_xk_1] at ec
  rw [am_xv_1] at ew
  have hh := h m po (am_xe s e) jV jO jC jW kT kE fT fE fH fC fW (by omega) (by omega) h3 q5
  rw [am_xk_1, am_xv_1] at hh
  have hb : am_bin (tk p) := by rw [hk]; unfold am_bin; decide
  rw [am_xk_1, am_xv_1]
  rw [wX_runPath_34]
  refine br_f g1 (br_t rfl (br_t rfl ?_))
  exact br_t d0 (nm_r (nI_pred r.length) ⟨v544, nm_r et (am_xtk hn hp (am_xta hn hp (am_xend hn hp hen (nI_1 p) ⟨v544, nm_r ee (br_t (by rw [hk]; decide) (⟨v544, br_f hh1 (br_f (by rw [hk]; decide) ⟨v544, br_t ec (br_t rfl ⟨v544, am_xcomb hb ew (am_xgi rfl (am_x62r r (by omega) g2 hh))⟩)⟩)⟩))⟩)))⟩)
theorem am_xr_calcF6 (hn : n ≤ 32) (hA : mA ≤ 16) (hen : ∀ i, i < n → en i = nI (am_eN tk n i)) (w : am_WF n mC mA s) (he : am_okE s e) (hp : p < n) (hl : r.length < 544) (hv : am_okV s rk rv) (hk : tk p = 6) (hno : ¬ (k = 1 ∧ rk = 1)) (hq : am_QX post n tk ta en mC mA ph sols fails lK lV lH lL lA pl b L0 s) : am_LXr post n tk ta en mC mA ph sols fails lK lV lH lL lA pl b L0 (a + 1) rk rv ((p, e, 2, k, v) :: r) s := by
  intro m po ev jV jO jC jW kT kE fT fE fH fC fW h1 h2 h3 h4
  obtain ⟨m, rfl⟩ : ∃ m', m = m' + 1 := ⟨m - 1, by omega⟩
  have g1 : ¬ (1000000 : Int32) ≤ nI (1000000 - (m + 1)) := nI_ge (b := 1000000) (by omega) (by decide)
  have g2 : nI (1000000 - (m + 1)) + 1 = nI (1000000 - m) := by rw [nI_1]; exact congrArg nI (by omega)
  have hf0 := h4
  obtain ⟨q1, q2, q3, q4, q5⟩ := h4
  have hc : (nI r.length).toNatClampNeg = r.length := nI_clamp (by omega)
  have v544 : vp_in (nI r.length) 544 := vp_in_nI hl (by decide)
  have et : fT (nI r.length).toNatClampNeg = nI p := by rw [hc]; exact q1
  have ee : fE (nI r.length).toNatClampNeg = am_xe s e := by rw [hc]; exact q3
  have d0 : (0 : Int32) < nI (r.length + 1) := nI_lt (a := 0) (by omega) (by omega)
  obtain ⟨z1, z2, z3, z4⟩ : fH r.length = 1 ∧ am_okV s k v ∧ fC r.length = am_xk k ∧ fW r.length = am_xv s k v := by
    rcases q4 with ⟨z, _⟩ | ⟨_, z⟩
    · exact absurd z (by decide)
    · exact z
  have hh1 : ¬ fH (nI r.length).toNatClampNeg = 0 := by rw [hc, z1]; decide
  have ec : fC (nI r.length).toNatClampNeg = am_xk k := by rw [hc]; exact z3
  have ew : fW (nI r.length).toNatClampNeg = am_xv s k v := by rw [hc]; exact z4
  rcases z2 with y | ⟨y, _⟩
  · rcases hv with y2 | ⟨y2, _⟩
    · exact absurd ⟨y, y2⟩ hno
    · rw [y, am_xk_1] at ec
      rw [y2, am_xk_2]
      rw [wX_runPath_34]
      refine br_f g1 (br_t rfl (br_t rfl ?_))
      exact br_t d0 (nm_r (nI_pred r.length) ⟨v544, nm_r et (am_xtk hn hp (am_xta hn hp (am_xend hn hp hen (nI_1 p) ⟨v544, nm_r ee (br_t (by rw [hk]; decide) (⟨v544, br_f hh1 (br_f (by rw [hk]; decide) ⟨v544, br_t ec (br_f (by decide) (am_x62F (hq _ _ _ _ _ _ _ _ _ _ _ _ _ _ _ _ _ _)))⟩)⟩))⟩)))⟩)
  · have nc : ¬ fC (nI r.length).toNatClampNeg = 0 := by rw [ec, y, am_xk_2]; decide
    rw [wX_runPath_34]
    refine br_f g1 (br_t rfl (br_t rfl ?_))
    exact br_t d0 (nm_r (nI_pred r.length) ⟨v544, nm_r et (am_xtk hn hp (am_xta hn hp (am_xend hn hp hen (nI_1 p) ⟨v544, nm_r ee (br_t (by rw [hk]; decide) (⟨v544, br_f hh1 (br_f (by rw [hk]; decide) ⟨v544, br_f nc (am_x62F (hq _ _ _ _ _ _ _ _ _ _ _ _ _ _ _ _ _ _))⟩)⟩))⟩)))⟩)
theorem am_xr_if (hn : n ≤ 32) (hA : mA ≤ 16) (hen : ∀ i, i < n → en i = nI (am_eN tk n i)) (w : am_WF n mC mA s) (he : am_okE s e) (hp : p < n) (hl : r.length < 544) (hk : tk p = 7) (h : am_LXv post n tk ta en mC mA ph sols fails lK lV lH lL lA pl b L0 a (am_q7 n tk p rv) e r s) : am_LXr post n tk ta en mC mA ph sols fails lK lV lH lL lA pl b L0 (a + 1) 1 rv ((p, e, 1, 0, 0) :: r) s := by
  intro m po ev jV jO jC jW kT kE fT fE fH fC fW h1 h2 h3 h4
  obtain ⟨m, rfl⟩ : ∃ m', m = m' + 1 := ⟨m - 1, by omega⟩
  have g1 : ¬ (1000000 : Int32) ≤ nI (1000000 - (m + 1)) := nI_ge (b := 1000000) (by omega) (by decide)
  have g2 : nI (1000000 - (m + 1)) + 1 = nI (1000000 - m) := by rw [nI_1]; exact congrArg nI (by omega)
  have hf0 := h4
  obtain ⟨q1, q2, q3, q4, q5⟩ := h4
  have hc : (nI r.length).toNatClampNeg = r.length := nI_clamp (by omega)
  have v544 : vp_in (nI r.length) 544 := vp_in_nI hl (by decide)
  have et : fT (nI r.length).toNatClampNeg = nI p := by rw [hc]; exact q1
  have ee : fE (nI r.length).toNatClampNeg = am_xe s e := by rw [hc]; exact q3
  have d0 : (0 : Int32) < nI (r.length + 1) := nI_lt (a := 0) (by omega) (by omega)
  rw [am_xk_1, am_xv_1]
  have hh := h m 0 rv jV jO jC jW kT kE fT fE fH fC fW (by omega) (by omega) h3 q5
  unfold am_q7 at hh
  rw [wX_runPath_34]
  refine br_f g1 (br_t rfl (br_t rfl ?_))
  exact br_t d0 (nm_r (nI_pred r.length) ⟨v544, nm_r et (am_xtk hn hp (am_xta hn hp (am_xend hn hp hen (nI_1 p) ⟨v544, nm_r ee (br_f (by rw [hk]; decide) (br_f (by rw [hk]; decide) (br_t hk (br_t rfl (am_xend hn (am_eN_le hp) hen rfl (br_c (fun q => by rw [if_pos q] at hh; exact am_xvn rfl (am_x62v g2 hh)) (fun q => by rw [if_neg q] at hh; exact am_xvn rfl (am_x62v g2 hh))))))))⟩)))⟩)
theorem am_xr_ifF (hn : n ≤ 32) (hA : mA ≤ 16) (hen : ∀ i, i < n → en i = nI (am_eN tk n i)) (w : am_WF n mC mA s) (he : am_okE s e) (hp : p < n) (hl : r.length < 544) (hv : am_okV s rk rv) (hk : tk p = 7) (hno : ¬ rk = 1) (hq : am_QX post n tk ta en mC mA ph sols fails lK lV lH lL lA pl b L0 s) : am_LXr post n tk ta en mC mA ph sols fails lK lV lH lL lA pl b L0 (a + 1) rk rv ((p, e, 1, 0, 0) :: r) s := by
  intro m po ev jV jO jC jW kT kE fT fE fH fC fW h1 h2 h3 h4
  obtain ⟨m, rfl⟩ : ∃ m', m = m' + 1 := ⟨m - 1, by omega⟩
  have g1 : ¬ (1000000 : Int32) ≤ nI (1000000 - (m + 1)) := nI_ge (b := 1000000) (by omega) (by decide)
  have g2 : nI (1000000 - (m + 1)) + 1 = nI (1000000 - m) := by rw [nI_1]; exact congrArg nI (by omega)
  have hf0 := h4
  obtain ⟨q1, q2, q3, q4, q5⟩ := h4
  have hc : (nI r.length).toNatClampNeg = r.length := nI_clamp (by omega)
  have v544 : vp_in (nI r.length) 544 := vp_in_nI hl (by decide)
  have et : fT (nI r.length).toNatClampNeg = nI p := by rw [hc]; exact q1
  have ee : fE (nI r.length).toNatClampNeg = am_xe s e := by rw [hc]; exact q3
  have d0 : (0 : Int32) < nI (r.length + 1) := nI_lt (a := 0) (by omega) (by omega)
  have y : rk = 2 := by
    rcases hv with y | ⟨y, _⟩
    · exact absurd y hno
    · exact y
  have nk : ¬ am_xk rk = 0 := by rw [y, am_xk_2]; decide
  rw [wX_runPath_34]
  refine br_f g1 (br_t rfl (br_t rfl ?_))
  exact br_t d0 (nm_r (nI_pred r.length) ⟨v544, nm_r et (am_xtk hn hp (am_xta hn hp (am_xend hn hp hen (nI_1 p) ⟨v544, nm_r ee (br_f (by rw [hk]; decide) (br_f (by rw [hk]; decide) (br_t hk (br_f nk (am_x62F (hq _ _ _ _ _ _ _ _ _ _ _ _ _ _ _ _ _ _))))))⟩)))⟩)
theorem am_xr_req (hn : n ≤ 32) (hA : mA ≤ 16) (hen : ∀ i, i < n → en i = nI (am_eN tk n i)) (w : am_WF n mC mA s) (he : am_okE s e) (hp : p < n) (hl : r.length < 544) (hk : tk p = 10) (hv : ¬ rv = 0) (h : am_LXv post n tk ta en mC mA ph sols fails lK lV lH lL lA pl b L0 a (am_eN tk n (p + 1)) e r s) : am_LXr post n tk ta en mC mA ph sols fails lK lV lH lL lA pl b L0 (a + 1) 1 rv ((p, e, 1, 0, 0) :: r) s := by
  intro m po ev jV jO jC jW kT kE fT fE fH fC fW h1 h2 h3 h4
  obtain ⟨m, rfl⟩ : ∃ m', m = m' + 1 := ⟨m - 1, by omega⟩
  have g1 : ¬ (1000000 : Int32) ≤ nI (1000000 - (m + 1)) := nI_ge (b := 1000000) (by omega) (by decide)
  have g2 : nI (1000000 - (m + 1)) + 1 = nI (1000000 - m) := by rw [nI_1]; exact congrArg nI (by omega)
  have hf0 := h4
  obtain ⟨q1, q2, q3, q4, q5⟩ := h4
  have hc : (nI r.length).toNatClampNeg = r.length := nI_clamp (by omega)
  have v544 : vp_in (nI r.length) 544 := vp_in_nI hl (by decide)
  have et : fT (nI r.length).toNatClampNeg = nI p := by rw [hc]; exact q1
  have ee : fE (nI r.length).toNatClampNeg = am_xe s e := by rw [hc]; exact q3
  have d0 : (0 : Int32) < nI (r.length + 1) := nI_lt (a := 0) (by omega) (by omega)
  rw [am_xk_1, am_xv_1]
  rw [wX_runPath_34]
  refine br_f g1 (br_t rfl (br_t rfl ?_))
  exact br_t d0 (nm_r (nI_pred r.length) ⟨v544, nm_r et (am_xtk hn hp (am_xta hn hp (am_xend hn hp hen (nI_1 p) ⟨v544, nm_r ee (br_f (by rw [hk]; decide) (br_f (by rw [hk]; decide) (br_f (by rw [hk]; decide) (br_f (by rw [hk]; decide) (br_f (by rw [hk]; decide) (br_t hk (br_t rfl (br_f hv (am_xvn rfl (am_x62v g2 (h m 0 rv jV jO jC jW kT kE fT fE fH fC fW (by omega) (by omega) h3 q5)))))))))))⟩)))⟩)
theorem am_xr_reqF (hn : n ≤ 32) (hA : mA ≤ 16) (hen : ∀ i, i < n → en i = nI (am_eN tk n i)) (w : am_WF n mC mA s) (he : am_okE s e) (hp : p < n) (hl : r.length < 544) (hv : am_okV s rk rv) (hk : tk p = 10) (hno : ¬ (rk = 1 ∧ ¬ rv = 0)) (hq : am_QX post n tk ta en mC mA ph sols fails lK lV lH lL lA pl b L0 s) : am_LXr post n tk ta en mC mA ph sols fails lK lV lH lL lA pl b L0 (a + 1) rk rv ((p, e, 1, 0, 0) :: r) s := by
  intro m po ev jV jO jC jW kT kE fT fE fH fC fW h1 h2 h3 h4
  obtain ⟨m, rfl⟩ : ∃ m', m = m' + 1 := ⟨m - 1, by omega⟩
  have g1 : ¬ (1000000 : Int32) ≤ nI (1000000 - (m + 1)) := nI_ge (b := 1000000) (by omega) (by decide)
  have g2 : nI (1000000 - (m + 1)) + 1 = nI (1000000 - m) := by rw [nI_1]; exact congrArg nI (by omega)
  have hf0 := h4
  obtain ⟨q1, q2, q3, q4, q5⟩ := h4
  have hc : (nI r.length).toNatClampNeg = r.length := nI_clamp (by omega)
  have v544 : vp_in (nI r.length) 544 := vp_in_nI hl (by decide)
  have et : fT (nI r.length).toNatClampNeg = nI p := by rw [hc]; exact q1
  have ee : fE (nI r.length).toNatClampNeg = am_xe s e := by rw [hc]; exact q3
  have d0 : (0 : Int32) < nI (r.length + 1) := nI_lt (a := 0) (by omega) (by omega)
  have nk : am_xk rk = 0 → am_xv s rk rv = 0 := by
    intro z
    rcases hv with y | ⟨y, _⟩
    · rw [y, am_xv_1]
      exact Classical.byContradiction (fun u => hno ⟨y, u⟩)
    · rw [y, am_xk_2] at z
      exact absurd z (by decide)
  rw [wX_runPath_34]
  refine br_f g1 (br_t rfl (br_t rfl ?_))
  exact br_t d0 (nm_r (nI_pred r.length) ⟨v544, nm_r et (am_xtk hn hp (am_xta hn hp (am_xend hn hp hen (nI_1 p) ⟨v544, nm_r ee (br_f (by rw [hk]; decide) (br_f (by rw [hk]; decide) (br_f (by rw [hk]; decide) (br_f (by rw [hk]; decide) (br_f (by rw [hk]; decide) (br_t hk (br_c (fun z => br_t (nk z) (am_x62F (hq _ _ _ _ _ _ _ _ _ _ _ _ _ _ _ _ _ _))) (fun _ => am_x62F (hq _ _ _ _ _ _ _ _ _ _ _ _ _ _ _ _ _ _)))))))))⟩)))⟩)
theorem am_xr_let (hn : n ≤ 32) (hA : mA ≤ 16) (hen : ∀ i, i < n → en i = nI (am_eN tk n i)) (w : am_WF n mC mA s) (he : am_okE s e) (hp : p < n) (hl : r.length < 544) (hv : am_okV s rk rv) (hk : tk p = 11) (ha : am_al s < mA) (h : am_LXv post n tk ta en mC mA ph sols fails lK lV lH lL lA pl b L0 a (am_eN tk n (p + 1)) (nI (am_nf s)) r (am_nl (ta p) e rk rv s)) : am_LXr post n tk ta en mC mA ph sols fails lK lV lH lL lA pl b L0 (a + 1) rk rv ((p, e, 1, 0, 0) :: r) s := by
  intro m po ev jV jO jC jW kT kE fT fE fH fC fW h1 h2 h3 h4
  obtain ⟨m, rfl⟩ : ∃ m', m = m' + 1 := ⟨m - 1, by omega⟩
  have g1 : ¬ (1000000 : Int32) ≤ nI (1000000 - (m + 1)) := nI_ge (b := 1000000) (by omega) (by decide)
  have g2 : nI (1000000 - (m + 1)) + 1 = nI (1000000 - m) := by rw [nI_1]; exact congrArg nI (by omega)
  have hf0 := h4
  obtain ⟨q1, q2, q3, q4, q5⟩ := h4
  have hc : (nI r.length).toNatClampNeg = r.length := nI_clamp (by omega)
  have v544 : vp_in (nI r.length) 544 := vp_in_nI hl (by decide)
  have et : fT (nI r.length).toNatClampNeg = nI p := by rw [hc]; exact q1
  have ee : fE (nI r.length).toNatClampNeg = am_xe s e := by rw [hc]; exact q3
  have d0 : (0 : Int32) < nI (r.length + 1) := nI_lt (a := 0) (by omega) (by omega)
  have an := am_al_nl (ta p) e rk rv s
  have b12 := am_nf16 w hA
  have hh := h m (am_xk rk) (am_xv s rk rv) (upd jV (am_al s) (ta p)) (upd jO (am_al s) (am_xe s e)) (upd jC (am_al s) (am_xk rk)) (upd jW (am_al s) (am_xv s rk rv)) kT kE fT fE fH fC fW (by omega) (by omega) (am_sx_nl w hA he hv h3) (am_fx_x (am_ext_nl (ta p) e rk rv s) b12.1 b12.2.1 r q5)
  rw [am_al_nl, am_xe_nl _ _ _ _ b12.1] at hh
  rw [wX_runPath_34]
  refine br_f g1 (br_t rfl (br_t rfl ?_))
  exact br_t d0 (nm_r (nI_pred r.length) ⟨v544, nm_r et (am_xtk hn hp (am_xta hn hp (am_xend hn hp hen (nI_1 p) ⟨v544, nm_r ee (br_f (by rw [hk]; decide) (br_f (by rw [hk]; decide) (br_f (by rw [hk]; decide) (br_f (by rw [hk]; decide) (br_f (by rw [hk]; decide) (br_f (by rw [hk]; decide) (br_t hk (am_xbindT ha hA (am_nark rk) rfl rfl (am_xvn rfl (am_x62v g2 hh))))))))))⟩)))⟩)
theorem am_xr_letF (hn : n ≤ 32) (hA : mA ≤ 16) (hen : ∀ i, i < n → en i = nI (am_eN tk n i)) (w : am_WF n mC mA s) (he : am_okE s e) (hp : p < n) (hl : r.length < 544) (hk : tk p = 11) (ha : mA ≤ am_al s) (hq : am_QX post n tk ta en mC mA ph sols fails lK lV lH lL lA pl b L0 s) : am_LXr post n tk ta en mC mA ph sols fails lK lV lH lL lA pl b L0 (a + 1) rk rv ((p, e, 1, 0, 0) :: r) s := by
  intro m po ev jV jO jC jW kT kE fT fE fH fC fW h1 h2 h3 h4
  obtain ⟨m, rfl⟩ : ∃ m', m = m' + 1 := ⟨m - 1, by omega⟩
  have g1 : ¬ (1000000 : Int32) ≤ nI (1000000 - (m + 1)) := nI_ge (b := 1000000) (by omega) (by decide)
  have g2 : nI (1000000 - (m + 1)) + 1 = nI (1000000 - m) := by rw [nI_1]; exact congrArg nI (by omega)
  have hf0 := h4
  obtain ⟨q1, q2, q3, q4, q5⟩ := h4
  have hc : (nI r.length).toNatClampNeg = r.length := nI_clamp (by omega)
  have v544 : vp_in (nI r.length) 544 := vp_in_nI hl (by decide)
  have et : fT (nI r.length).toNatClampNeg = nI p := by rw [hc]; exact q1
  have ee : fE (nI r.length).toNatClampNeg = am_xe s e := by rw [hc]; exact q3
  have d0 : (0 : Int32) < nI (r.length + 1) := nI_lt (a := 0) (by omega) (by omega)
  rw [wX_runPath_34]
  refine br_f g1 (br_t rfl (br_t rfl ?_))
  exact br_t d0 (nm_r (nI_pred r.length) ⟨v544, nm_r et (am_xtk hn hp (am_xta hn hp (am_xend hn hp hen (nI_1 p) ⟨v544, nm_r ee (br_f (by rw [hk]; decide) (br_f (by rw [hk]; decide) (br_f (by rw [hk]; decide) (br_f (by rw [hk]; decide) (br_f (by rw [hk]; decide) (br_f (by rw [hk]; decide) (br_t hk (am_xbindF ha (am_nf16 w hA).2.2 (am_xvn rfl (am_x62F (hq _ _ _ _ _ _ _ _ _ _ _ _ _ _ _ _ _ _)))))))))))⟩)))⟩)
theorem am_xr_set (hn : n ≤ 32) (hA : mA ≤ 16) (hen : ∀ i, i < n → en i = nI (am_eN tk n i)) (w : am_WF n mC mA s) (he : am_okE s e) (hp : p < n) (hl : r.length < 544) (hk : tk p = 14) {f : Nat} (hf : f < am_nf s) (hlk : am_lk s (ta p) 17 e = nI f) (h : am_LXr post n tk ta en mC mA ph sols fails lK lV lH lL lA pl b L0 a rk rv r (am_sl f rk rv s)) : am_LXr post n tk ta en mC mA ph sols fails lK lV lH lL lA pl b L0 (a + 1) rk rv ((p, e, 1, 0, 0) :: r) s := by
  intro m po ev jV jO jC jW kT kE fT fE fH fC fW h1 h2 h3 h4
  obtain ⟨m, rfl⟩ : ∃ m', m = m' + 1 := ⟨m - 1, by omega⟩
  have g1 : ¬ (1000000 : Int32) ≤ nI (1000000 - (m + 1)) := nI_ge (b := 1000000) (by omega) (by decide)
  have g2 : nI (1000000 - (m + 1)) + 1 = nI (1000000 - m) := by rw [nI_1]; exact congrArg nI (by omega)
  have hf0 := h4
  obtain ⟨q1, q2, q3, q4, q5⟩ := h4
  have hc : (nI r.length).toNatClampNeg = r.length := nI_clamp (by omega)
  have v544 : vp_in (nI r.length) 544 := vp_in_nI hl (by decide)
  have et : fT (nI r.length).toNatClampNeg = nI p := by rw [hc]; exact q1
  have ee : fE (nI r.length).toNatClampNeg = am_xe s e := by rw [hc]; exact q3
  have d0 : (0 : Int32) < nI (r.length + 1) := nI_lt (a := 0) (by omega) (by omega)
  have asl : am_al (am_sl f rk rv s) = am_al s := rfl
  have b12 := am_nf16 w hA
  have hh := h m po (am_xe s e) jV jO (upd jC (am_xl s f) (am_xk rk)) (upd jW (am_xl s f) (am_xv s rk rv)) kT kE fT fE fH fC fW (by omega) (by omega) (am_sx_sl w hf h3) (am_fx_x (am_ext_sl f rk rv s) b12.1 b12.2.1 r q5)
  rw [wX_runPath_34]
  refine br_f g1 (br_t rfl (br_t rfl ?_))
  exact br_t d0 (nm_r (nI_pred r.length) ⟨v544, nm_r et (am_xtk hn hp (am_xta hn hp (am_xend hn hp hen (nI_1 p) ⟨v544, nm_r ee (br_f (by rw [hk]; decide) (br_f (by rw [hk]; decide) (br_f (by rw [hk]; decide) (br_f (by rw [hk]; decide) (br_f (by rw [hk]; decide) (br_f (by rw [hk]; decide) (br_f (by rw [hk]; decide) (br_f (by rw [hk]; decide) (br_f (by rw [hk]; decide) (br_t hk (am_xasT w hA h3 he hf hlk (am_nark rk) (am_x62r r (by omega) g2 hh))))))))))))⟩)))⟩)
theorem am_xr_setF (hn : n ≤ 32) (hA : mA ≤ 16) (hen : ∀ i, i < n → en i = nI (am_eN tk n i)) (w : am_WF n mC mA s) (he : am_okE s e) (hp : p < n) (hl : r.length < 544) (hk : tk p = 14) (hlk : am_lk s (ta p) 17 e = -1) (hq : am_QX post n tk ta en mC mA ph sols fails lK lV lH lL lA pl b L0 s) : am_LXr post n tk ta en mC mA ph sols fails lK lV lH lL lA pl b L0 (a + 1) rk rv ((p, e, 1, 0, 0) :: r) s := by
  intro m po ev jV jO jC jW kT kE fT fE fH fC fW h1 h2 h3 h4
  obtain ⟨m, rfl⟩ : ∃ m', m = m' + 1 := ⟨m - 1, by omega⟩
  have g1 : ¬ (1000000 : Int32) ≤ nI (1000000 - (m + 1)) := nI_ge (b := 1000000) (by omega) (by decide)
  have g2 : nI (1000000 - (m + 1)) + 1 = nI (1000000 - m) := by rw [nI_1]; exact congrArg nI (by omega)
  have hf0 := h4
  obtain ⟨q1, q2, q3, q4, q5⟩ := h4
  have hc : (nI r.length).toNatClampNeg = r.length := nI_clamp (by omega)
  have v544 : vp_in (nI r.length) 544 := vp_in_nI hl (by decide)
  have et : fT (nI r.length).toNatClampNeg = nI p := by rw [hc]; exact q1
  have ee : fE (nI r.length).toNatClampNeg = am_xe s e := by rw [hc]; exact q3
  have d0 : (0 : Int32) < nI (r.length + 1) := nI_lt (a := 0) (by omega) (by omega)
  rw [wX_runPath_34]
  refine br_f g1 (br_t rfl (br_t rfl ?_))
  exact br_t d0 (nm_r (nI_pred r.length) ⟨v544, nm_r et (am_xtk hn hp (am_xta hn hp (am_xend hn hp hen (nI_1 p) ⟨v544, nm_r ee (br_f (by rw [hk]; decide) (br_f (by rw [hk]; decide) (br_f (by rw [hk]; decide) (br_f (by rw [hk]; decide) (br_f (by rw [hk]; decide) (br_f (by rw [hk]; decide) (br_f (by rw [hk]; decide) (br_f (by rw [hk]; decide) (br_f (by rw [hk]; decide) (br_t hk (am_xasF w hA h3 he hlk (am_x62F (hq _ _ _ _ _ _ _ _ _ _ _ _ _ _ _ _ _ _)))))))))))))⟩)))⟩)
theorem am_xr_seq (hn : n ≤ 32) (hA : mA ≤ 16) (hen : ∀ i, i < n → en i = nI (am_eN tk n i)) (w : am_WF n mC mA s) (he : am_okE s e) (hp : p < n) (hl : r.length < 544) (hk : tk p = 15) (h : am_LXv post n tk ta en mC mA ph sols fails lK lV lH lL lA pl b L0 a (am_eN tk n (p + 1)) e r s) : am_LXr post n tk ta en mC mA ph sols fails lK lV lH lL lA pl b L0 (a + 1) rk rv ((p, e, 1, 0, 0) :: r) s := by
  intro m po ev jV jO jC jW kT kE fT fE fH fC fW h1 h2 h3 h4
  obtain ⟨m, rfl⟩ : ∃ m', m = m' + 1 := ⟨m - 1, by omega⟩
  have g1 : ¬ (1000000 : Int32) ≤ nI (1000000 - (m + 1)) := nI_ge (b := 1000000) (by omega) (by decide)
  have g2 : nI (1000000 - (m + 1)) + 1 = nI (1000000 - m) := by rw [nI_1]; exact congrArg nI (by omega)
  have hf0 := h4
  obtain ⟨q1, q2, q3, q4, q5⟩ := h4
  have hc : (nI r.length).toNatClampNeg = r.length := nI_clamp (by omega)
  have v544 : vp_in (nI r.length) 544 := vp_in_nI hl (by decide)
  have et : fT (nI r.length).toNatClampNeg = nI p := by rw [hc]; exact q1
  have ee : fE (nI r.length).toNatClampNeg = am_xe s e := by rw [hc]; exact q3
  have d0 : (0 : Int32) < nI (r.length + 1) := nI_lt (a := 0) (by omega) (by omega)
  rw [wX_runPath_34]
  refine br_f g1 (br_t rfl (br_t rfl ?_))
  exact br_t d0 (nm_r (nI_pred r.length) ⟨v544, nm_r et (am_xtk hn hp (am_xta hn hp (am_xend hn hp hen (nI_1 p) ⟨v544, nm_r ee (br_f (by rw [hk]; decide) (br_f (by rw [hk]; decide) (br_f (by rw [hk]; decide) (br_f (by rw [hk]; decide) (br_f (by rw [hk]; decide) (br_f (by rw [hk]; decide) (br_f (by rw [hk]; decide) (br_f (by rw [hk]; decide) (br_f (by rw [hk]; decide) (br_f (by rw [hk]; decide) (br_t hk (am_xvn rfl (am_x62v g2 (h m (am_xk rk) (am_xv s rk rv) jV jO jC jW kT kE fT fE fH fC fW (by omega) (by omega) h3 q5))))))))))))))⟩)))⟩)
theorem am_xr_app (hn : n ≤ 32) (hA : mA ≤ 16) (hen : ∀ i, i < n → en i = nI (am_eN tk n i)) (w : am_WF n mC mA s) (he : am_okE s e) (hp : p < n) (hl : r.length < 544) (hv : am_okV s rk rv) (hk : tk p = 13) {c lq : Nat} (hcc : c < am_nc s) (ha : am_al s < mA) (hlq : lq < n) (elq : am_cPos s c = nI lq) (h : am_LXv post n tk ta en mC mA ph sols fails lK lV lH lL lA pl b L0 (a + 127) (lq + 1) (nI (am_nf s)) r (am_nl (ta lq) (am_cEnv s c) rk rv s)) : am_LXr post n tk ta en mC mA ph sols fails lK lV lH lL lA pl b L0 a rk rv ((p, e, 2, 2, nI c) :: r) s := by
  intro m po ev jV jO jC jW kT kE fT fE fH fC fW h1 h2 h3 h4
  obtain ⟨m, rfl⟩ : ∃ m', m = m' + 1 := ⟨m - 1, by omega⟩
  have g1 : ¬ (1000000 : Int32) ≤ nI (1000000 - (m + 1)) := nI_ge (b := 1000000) (by omega) (by decide)
  have g2 : nI (1000000 - (m + 1)) + 1 = nI (1000000 - m) := by rw [nI_1]; exact congrArg nI (by omega)
  have hf0 := h4
  obtain ⟨q1, q2, q3, q4, q5⟩ := h4
  have hc : (nI r.length).toNatClampNeg = r.length := nI_clamp (by omega)
  have v544 : vp_in (nI r.length) 544 := vp_in_nI hl (by decide)
  have et : fT (nI r.length).toNatClampNeg = nI p := by rw [hc]; exact q1
  have ee : fE (nI r.length).toNatClampNeg = am_xe s e := by rw [hc]; exact q3
  have d0 : (0 : Int32) < nI (r.length + 1) := nI_lt (a := 0) (by omega) (by omega)
  obtain ⟨z1, z2, z3, z4⟩ : fH r.length = 1 ∧ am_okV s 2 (nI c) ∧ fC r.length = am_xk 2 ∧ fW r.length = am_xv s 2 (nI c) := by
    rcases q4 with ⟨z, _⟩ | ⟨_, z⟩
    · exact absurd z (by decide)
    · exact z
  have hh1 : ¬ fH (nI r.length).toNatClampNeg = 0 := by rw [hc, z1]; decide
  have ec : fC (nI r.length).toNatClampNeg = am_xk 2 := by rw [hc]; exact z3
  have ew : fW (nI r.length).toNatClampNeg = am_xv s 2 (nI c) := by rw [hc]; exact z4
  have hcb := am_WF_c w hA hcc
  have b12 := am_nf16 w hA
  have wc := w.2.2.2 c hcc
  have hx : am_xc s c < 16 := by
    have h5 := wc.2.2
    have h6 := w.2.1
    omega
  rw [am_xv_2 s (by omega)] at ew
  rw [am_xk_2] at ec
  have nc : ¬ fC (nI r.length).toNatClampNeg = 0 := by rw [ec]; decide
  have vx : vp_in (nI (am_xc s c)) 16 := vp_in_nI hx (by decide)
  have x0 : ¬ nI (am_xc s c) < 0 := nI_pos (by omega)
  have x16 : nI (am_xc s c) < 16 := nI_lt (b := 16) hx (by decide)
  have hd : (nI (am_xc s c)).toNatClampNeg = am_xc s c := nI_clamp (by omega)
  obtain ⟨lp, hlp, elp⟩ := wc.1
  have e5 : kT (nI (am_xc s c)).toNatClampNeg = nI lp := by rw [hd, (h3.2 c hcc).1]; exact elp
  have e6 : kE (nI (am_xc s c)).toNatClampNeg = am_xe s (am_cEnv s c) := by rw [hd]; exact (h3.2 c hcc).2
  have ell : lp = lq := (nI_eq (by omega) (by omega)).mp (elp.symm.trans elq)
  subst ell
  have an := am_al_nl (ta lp) (am_cEnv s c) rk rv s
  have hh := h m (am_xk rk) (am_xv s rk rv) (upd jV (am_al s) (ta lp)) (upd jO (am_al s) (am_xe s (am_cEnv s c))) (upd jC (am_al s) (am_xk rk)) (upd jW (am_al s) (am_xv s rk rv)) kT kE fT fE fH fC fW (by omega) (by omega) (am_sx_nl w hA wc.2.1 hv h3) (am_fx_x (am_ext_nl (ta lp) (am_cEnv s c) rk rv s) b12.1 b12.2.1 r q5)
  rw [am_al_nl, am_xe_nl _ _ _ _ b12.1] at hh
  rw [wX_runPath_34]
  refine br_f g1 (br_t rfl (br_t rfl ?_))
  exact br_t d0 (nm_r (nI_pred r.length) ⟨v544, nm_r et (am_xtk hn hp (am_xta hn hp (am_xend hn hp hen (nI_1 p) ⟨v544, nm_r ee (br_f (by rw [hk]; decide) (br_f (by rw [hk]; decide) (br_f (by rw [hk]; decide) (br_f (by rw [hk]; decide) (br_f (by rw [hk]; decide) (br_f (by rw [hk]; decide) (br_f (by rw [hk]; decide) (br_f (by rw [hk]; decide) (br_t hk (⟨v544, br_f hh1 (br_t hk ⟨v544, nm_r ew ⟨v544, br_f nc (br_f x0 (br_t x16 ⟨vx, nm_r e5 (am_xta hn hlp ⟨vx, am_xbindT ha hA (am_nark rk) rfl e6 (am_xvn (nI_1 lp) (am_x62v g2 hh))⟩)⟩))⟩⟩)⟩))))))))))⟩)))⟩)
theorem am_xr_appF2 (hn : n ≤ 32) (hA : mA ≤ 16) (hen : ∀ i, i < n → en i = nI (am_eN tk n i)) (w : am_WF n mC mA s) (he : am_okE s e) (hp : p < n) (hl : r.length < 544) (hk : tk p = 13) {c : Nat} (hcc : c < am_nc s) (ha : mA ≤ am_al s) (hq : am_QX post n tk ta en mC mA ph sols fails lK lV lH lL lA pl b L0 s) : am_LXr post n tk ta en mC mA ph sols fails lK lV lH lL lA pl b L0 (a + 1) rk rv ((p, e, 2, 2, nI c) :: r) s := by
  intro m po ev jV jO jC jW kT kE fT fE fH fC fW h1 h2 h3 h4
  obtain ⟨m, rfl⟩ : ∃ m', m = m' + 1 := ⟨m - 1, by omega⟩
  have g1 : ¬ (1000000 : Int32) ≤ nI (1000000 - (m + 1)) := nI_ge (b := 1000000) (by omega) (by decide)
  have g2 : nI (1000000 - (m + 1)) + 1 = nI (1000000 - m) := by rw [nI_1]; exact congrArg nI (by omega)
  have hf0 := h4
  obtain ⟨q1, q2, q3, q4, q5⟩ := h4
  have hc : (nI r.length).toNatClampNeg = r.length := nI_clamp (by omega)
  have v544 : vp_in (nI r.length) 544 := vp_in_nI hl (by decide)
  have et : fT (nI r.length).toNatClampNeg = nI p := by rw [hc]; exact q1
  have ee : fE (nI r.length).toNatClampNeg = am_xe s e := by rw [hc]; exact q3
  have d0 : (0 : Int32) < nI (r.length + 1) := nI_lt (a := 0) (by omega) (by omega)
  obtain ⟨z1, z2, z3, z4⟩ : fH r.length = 1 ∧ am_okV s 2 (nI c) ∧ fC r.length = am_xk 2 ∧ fW r.length = am_xv s 2 (nI c) := by
    rcases q4 with ⟨z, _⟩ | ⟨_, z⟩
    · exact absurd z (by decide)
    · exact z
  have hh1 : ¬ fH (nI r.length).toNatClampNeg = 0 := by rw [hc, z1]; decide
  have ec : fC (nI r.length).toNatClampNeg = am_xk 2 := by rw [hc]; exact z3
  have ew : fW (nI r.length).toNatClampNeg = am_xv s 2 (nI c) := by rw [hc]; exact z4
  have hcb := am_WF_c w hA hcc
  have b12 := am_nf16 w hA
  have wc := w.2.2.2 c hcc
  have hx : am_xc s c < 16 := by
    have h5 := wc.2.2
    have h6 := w.2.1
    omega
  rw [am_xv_2 s (by omega)] at ew
  rw [am_xk_2] at ec
  have nc : ¬ fC (nI r.length).toNatClampNeg = 0 := by rw [ec]; decide
  have vx : vp_in (nI (am_xc s c)) 16 := vp_in_nI hx (by decide)
  have x0 : ¬ nI (am_xc s c) < 0 := nI_pos (by omega)
  have x16 : nI (am_xc s c) < 16 := nI_lt (b := 16) hx (by decide)
  have hd : (nI (am_xc s c)).toNatClampNeg = am_xc s c := nI_clamp (by omega)
  obtain ⟨lp, hlp, elp⟩ := wc.1
  have e5 : kT (nI (am_xc s c)).toNatClampNeg = nI lp := by rw [hd, (h3.2 c hcc).1]; exact elp
  have e6 : kE (nI (am_xc s c)).toNatClampNeg = am_xe s (am_cEnv s c) := by rw [hd]; exact (h3.2 c hcc).2
  rw [wX_runPath_34]
  refine br_f g1 (br_t rfl (br_t rfl ?_))
  exact br_t d0 (nm_r (nI_pred r.length) ⟨v544, nm_r et (am_xtk hn hp (am_xta hn hp (am_xend hn hp hen (nI_1 p) ⟨v544, nm_r ee (br_f (by rw [hk]; decide) (br_f (by rw [hk]; decide) (br_f (by rw [hk]; decide) (br_f (by rw [hk]; decide) (br_f (by rw [hk]; decide) (br_f (by rw [hk]; decide) (br_f (by rw [hk]; decide) (br_f (by rw [hk]; decide) (br_t hk (⟨v544, br_f hh1 (br_t hk ⟨v544, nm_r ew ⟨v544, br_f nc (br_f x0 (br_t x16 ⟨vx, nm_r e5 (am_xta hn hlp ⟨vx, am_xbindF ha b12.2.2 (am_xvn rfl (am_x62F (hq _ _ _ _ _ _ _ _ _ _ _ _ _ _ _ _ _ _)))⟩)⟩))⟩⟩)⟩))))))))))⟩)))⟩)
theorem am_xr_appF1 (hn : n ≤ 32) (hA : mA ≤ 16) (hen : ∀ i, i < n → en i = nI (am_eN tk n i)) (w : am_WF n mC mA s) (he : am_okE s e) (hp : p < n) (hl : r.length < 544) (hk : tk p = 13) (hno : ¬ k = 2) (hq : am_QX post n tk ta en mC mA ph sols fails lK lV lH lL lA pl b L0 s) : am_LXr post n tk ta en mC mA ph sols fails lK lV lH lL lA pl b L0 (a + 1) rk rv ((p, e, 2, k, v) :: r) s := by
  intro m po ev jV jO jC jW kT kE fT fE fH fC fW h1 h2 h3 h4
  obtain ⟨m, rfl⟩ : ∃ m', m = m' + 1 := ⟨m - 1, by omega⟩
  have g1 : ¬ (1000000 : Int32) ≤ nI (1000000 - (m + 1)) := nI_ge (b := 1000000) (by omega) (by decide)
  have g2 : nI (1000000 - (m + 1)) + 1 = nI (1000000 - m) := by rw [nI_1]; exact congrArg nI (by omega)
  have hf0 := h4
  obtain ⟨q1, q2, q3, q4, q5⟩ := h4
  have hc : (nI r.length).toNatClampNeg = r.length := nI_clamp (by omega)
  have v544 : vp_in (nI r.length) 544 := vp_in_nI hl (by decide)
  have et : fT (nI r.length).toNatClampNeg = nI p := by rw [hc]; exact q1
  have ee : fE (nI r.length).toNatClampNeg = am_xe s e := by rw [hc]; exact q3
  have d0 : (0 : Int32) < nI (r.length + 1) := nI_lt (a := 0) (by omega) (by omega)
  obtain ⟨z1, z2, z3, z4⟩ : fH r.length = 1 ∧ am_okV s k v ∧ fC r.length = am_xk k ∧ fW r.length = am_xv s k v := by
    rcases q4 with ⟨z, _⟩ | ⟨_, z⟩
    · exact absurd z (by decide)
    · exact z
  have hh1 : ¬ fH (nI r.length).toNatClampNeg = 0 := by rw [hc, z1]; decide
  have ec : fC (nI r.length).toNatClampNeg = am_xk k := by rw [hc]; exact z3
  have ew : fW (nI r.length).toNatClampNeg = am_xv s k v := by rw [hc]; exact z4
  have ec0 : fC (nI r.length).toNatClampNeg = 0 := by rw [ec]; exact if_neg hno
  rw [wX_runPath_34]
  refine br_f g1 (br_t rfl (br_t rfl ?_))
  exact br_t d0 (nm_r (nI_pred r.length) ⟨v544, nm_r et (am_xtk hn hp (am_xta hn hp (am_xend hn hp hen (nI_1 p) ⟨v544, nm_r ee (br_f (by rw [hk]; decide) (br_f (by rw [hk]; decide) (br_f (by rw [hk]; decide) (br_f (by rw [hk]; decide) (br_f (by rw [hk]; decide) (br_f (by rw [hk]; decide) (br_f (by rw [hk]; decide) (br_f (by rw [hk]; decide) (br_t hk (⟨v544, br_f hh1 (br_t hk ⟨v544, nm_r ew ⟨v544, br_t ec0 (am_x62F (hq _ _ _ _ _ _ _ _ _ _ _ _ _ _ _ _ _ _))⟩⟩)⟩))))))))))⟩)))⟩)
theorem am_LX_v {kx vx : Int32} {stk : List am_F} (h : am_LXv post n tk ta en mC mA ph sols fails lK lV lH lL lA pl b L0 a p e (am_er tk stk) s) : am_LX post n tk ta en mC mA ph sols fails lK lV lH lL lA pl b L0 a ((p, e, 0, kx, vx) :: stk) rk rv s := by
  have h2 : (if (0 : Int32) = 0 then am_LXv post n tk ta en mC mA ph sols fails lK lV lH lL lA pl b L0 a p e (am_er tk stk) s else am_LXr post n tk ta en mC mA ph sols fails lK lV lH lL lA pl b L0 a rk rv (am_er tk ((p, e, 0, kx, vx) :: stk)) s) := by
    rw [if_pos rfl]
    exact h
  exact h2
theorem am_LX_v' {kx vx : Int32} {stk : List am_F} (h : am_LX post n tk ta en mC mA ph sols fails lK lV lH lL lA pl b L0 a ((p, e, 0, kx, vx) :: stk) rk rv s) : am_LXv post n tk ta en mC mA ph sols fails lK lV lH lL lA pl b L0 a p e (am_er tk stk) s := by
  have h2 : (if (0 : Int32) = 0 then am_LXv post n tk ta en mC mA ph sols fails lK lV lH lL lA pl b L0 a p e (am_er tk stk) s else am_LXr post n tk ta en mC mA ph sols fails lK lV lH lL lA pl b L0 a rk rv (am_er tk ((p, e, 0, kx, vx) :: stk)) s) := h
  rw [if_pos rfl] at h2
  exact h2
theorem am_LX_r {stk : List am_F} (hz : am_nz stk) (h : am_LXr post n tk ta en mC mA ph sols fails lK lV lH lL lA pl b L0 a rk rv (am_er tk stk) s) : am_LX post n tk ta en mC mA ph sols fails lK lV lH lL lA pl b L0 a stk rk rv s := by
  cases stk with
  | nil => exact h
  | cons f stk =>
    obtain ⟨p, e, st, k, v⟩ := f
    have h2 : (if st = 0 then am_LXv post n tk ta en mC mA ph sols fails lK lV lH lL lA pl b L0 a p e (am_er tk stk) s else am_LXr post n tk ta en mC mA ph sols fails lK lV lH lL lA pl b L0 a rk rv (am_er tk ((p, e, st, k, v) :: stk)) s) := by
      rw [if_neg hz.1]
      exact h
    exact h2
theorem am_LX_r' {stk : List am_F} (hz : am_nz stk) (h : am_LX post n tk ta en mC mA ph sols fails lK lV lH lL lA pl b L0 a stk rk rv s) : am_LXr post n tk ta en mC mA ph sols fails lK lV lH lL lA pl b L0 a rk rv (am_er tk stk) s := by
  cases stk with
  | nil => exact h
  | cons f stk =>
    obtain ⟨p, e, st, k, v⟩ := f
    have h2 : (if st = 0 then am_LXv post n tk ta en mC mA ph sols fails lK lV lH lL lA pl b L0 a p e (am_er tk stk) s else am_LXr post n tk ta en mC mA ph sols fails lK lV lH lL lA pl b L0 a rk rv (am_er tk ((p, e, st, k, v) :: stk)) s) := h
    rw [if_neg hz.1] at h2
    exact h2
theorem am_xI (hn : n ≤ 32) (hA : mA ≤ 16) (hC : mC ≤ 6) (hL : L0 ≤ 6) (hz : ∀ j, L0 ≤ j → b j = false) (hen : ∀ i, i < n → en i = nI (am_eN tk n i)) : am_I n tk ta mC mA b (am_LX post n tk ta en mC mA ph sols fails lK lV lH lL lA pl b L0) (am_QX post n tk ta en mC mA ph sols fails lK lV lH lL lA pl b L0) := by
  have lt : ∀ {stk : List am_F}, stk.length < 544 → (am_er tk stk).length < 544 := fun h => Nat.lt_of_le_of_lt (am_er_le tk _) h
  have ntp : ∀ {p : Nat}, am_psh (tk p) → ¬ am_tl (tk p) 1 := by
    intro p hk
    unfold am_tl
    rcases hk with q | q | q | q | q | q | q | q | q | q | q <;> rw [q] <;> decide
  refine ⟨?_, ?_, ?_, ?_, ?_, ?_, ?_, ?_, ?_, ?_, ?_, ?_, ?_, ?_, ?_, ?_, ?_, ?_, ?_, ?_, ?_, ?_, ?_, ?_, ?_, ?_⟩
  · intro a a' stk rk rv s ha h
    cases stk with
    | nil => exact am_xr_monoR ha h
    | cons f stk =>
      obtain ⟨p, e, st, k, v⟩ := f
      by_cases z : st = 0
      · subst z
        exact am_LX_v (am_xr_monoV ha (am_LX_v' h))
      · have h2 : (if st = 0 then am_LXv post n tk ta en mC mA ph sols fails lK lV lH lL lA pl b L0 a p e (am_er tk stk) s else am_LXr post n tk ta en mC mA ph sols fails lK lV lH lL lA pl b L0 a rk rv (am_er tk ((p, e, st, k, v) :: stk)) s) := h
        rw [if_neg z] at h2
        have h3 : (if st = 0 then am_LXv post n tk ta en mC mA ph sols fails lK lV lH lL lA pl b L0 a' p e (am_er tk stk) s else am_LXr post n tk ta en mC mA ph sols fails lK lV lH lL lA pl b L0 a' rk rv (am_er tk ((p, e, st, k, v) :: stk)) s) := by
          rw [if_neg z]
          exact am_xr_monoR ha h2
        exact h3
  · intro a e stk rk rv s _ _ hl hq; exact am_LX_v (am_xr_out hn hq)
  · intro a p e stk rk rv s H hk h; exact am_LX_v (am_xr_num hn hA hen H.1 H.2.1 H.2.2.1 (lt H.2.2.2.1) hk (am_LX_r' H.2.2.2.2 h))
  · intro a p e stk rk rv s f H hk hf hlk h; exact am_LX_v (am_xr_var hn hA hen H.1 H.2.1 H.2.2.1 (lt H.2.2.2.1) hk hf hlk (am_LX_r' H.2.2.2.2 h))
  · intro a p e stk rk rv s H hk hlk hq; exact am_LX_v (am_xr_varF hn hA hen H.1 H.2.1 H.2.2.1 (lt H.2.2.2.1) hk hlk hq)
  · intro a p e stk rk rv s H hk h
    have h2 := am_LX_v' h
    rw [am_er_f (ntp hk)] at h2
    exact am_LX_v (am_xr_open hn hA hen H.1 H.2.1 H.2.2.1 (lt H.2.2.2.1) hk h2)
  · intro a p e stk rk rv s H hk hu h
    have h2 := am_LX_v' h
    rw [am_er_t (show am_tl (tk p) 1 from Or.inr (Or.inl ⟨hk, rfl⟩))] at h2
    exact am_LX_v (am_xr_amb hn hA hen H.1 H.2.1 H.2.2.1 (lt H.2.2.2.1) hC hL hz hk hu h2)
  · intro a p e stk rk rv s H hk hu hq; exact am_LX_v (am_xr_ambF hn hA hen H.1 H.2.1 H.2.2.1 (lt H.2.2.2.1) hC hk hu hq)
  · intro a p e stk rk rv s H hk hq; exact am_LX_v (am_xr_fail hn hA hen H.1 H.2.1 H.2.2.1 (lt H.2.2.2.1) hk hq)
  · intro a p e stk rk rv s H hk ha h; exact am_LX_v (am_xr_lam hn hA hen H.1 H.2.1 H.2.2.1 (lt H.2.2.2.1) hk ha (am_LX_r' H.2.2.2.2 h))
  · intro a p e stk rk rv s H hk ha hq; exact am_LX_v (am_xr_lamF hn hA hen H.1 H.2.1 H.2.2.1 (lt H.2.2.2.1) hk ha hq)
  · intro a p e stk rk rv s H hv hk h
    have h2 := am_LX_v' h
    refine am_LX_r ⟨by decide, H.2.2.2.2⟩ ?_
    rcases hk with hk | hk | hk | hk | hk | hk
    · rw [am_er_f (show ¬ am_tl (tk p) 2 by unfold am_tl; rw [hk]; decide)] at h2
      rw [am_er_f (show ¬ am_tl (tk p) 1 by unfold am_tl; rw [hk]; decide)]
      exact am_xr_hold13 hn hA hen H.1 H.2.1 H.2.2.1 (lt H.2.2.2.1) hv hk h2
    · rw [am_er_f (show ¬ am_tl (tk p) 2 by unfold am_tl; rw [hk]; decide)] at h2
      rw [am_er_f (show ¬ am_tl (tk p) 1 by unfold am_tl; rw [hk]; decide)]
      exact am_xr_hold2 hn hA hen H.1 H.2.1 H.2.2.1 (lt H.2.2.2.1) hv hk h2
    · rw [am_er_f (show ¬ am_tl (tk p) 2 by unfold am_tl; rw [hk]; decide)] at h2
      rw [am_er_f (show ¬ am_tl (tk p) 1 by unfold am_tl; rw [hk]; decide)]
      exact am_xr_hold3 hn hA hen H.1 H.2.1 H.2.2.1 (lt H.2.2.2.1) hv hk h2
    · rw [am_er_f (show ¬ am_tl (tk p) 2 by unfold am_tl; rw [hk]; decide)] at h2
      rw [am_er_f (show ¬ am_tl (tk p) 1 by unfold am_tl; rw [hk]; decide)]
      exact am_xr_hold4 hn hA hen H.1 H.2.1 H.2.2.1 (lt H.2.2.2.1) hv hk h2
    · rw [am_er_f (show ¬ am_tl (tk p) 2 by unfold am_tl; rw [hk]; decide)] at h2
      rw [am_er_f (show ¬ am_tl (tk p) 1 by unfold am_tl; rw [hk]; decide)]
      exact am_xr_hold5 hn hA hen H.1 H.2.1 H.2.2.1 (lt H.2.2.2.1) hv hk h2
    · rw [am_er_f (show ¬ am_tl (tk p) 2 by unfold am_tl; rw [hk]; decide)] at h2
      rw [am_er_f (show ¬ am_tl (tk p) 1 by unfold am_tl; rw [hk]; decide)]
      exact am_xr_hold6 hn hA hen H.1 H.2.1 H.2.2.1 (lt H.2.2.2.1) hv hk h2
  · intro a p e stk v rv s H hk h
    have h2 := am_LX_r' H.2.2.2.2 h
    refine am_LX_r ⟨by decide, H.2.2.2.2⟩ ?_
    rcases hk with hk | hk | hk | hk | hk
    · rw [am_er_f (show ¬ am_tl (tk p) 2 by unfold am_tl; rw [hk]; decide)]
      exact am_xr_calc2 hn hA hen H.1 H.2.1 H.2.2.1 (lt H.2.2.2.1) hk h2
    · rw [am_er_f (show ¬ am_tl (tk p) 2 by unfold am_tl; rw [hk]; decide)]
      exact am_xr_calc3 hn hA hen H.1 H.2.1 H.2.2.1 (lt H.2.2.2.1) hk h2
    · rw [am_er_f (show ¬ am_tl (tk p) 2 by unfold am_tl; rw [hk]; decide)]
      exact am_xr_calc4 hn hA hen H.1 H.2.1 H.2.2.1 (lt H.2.2.2.1) hk h2
    · rw [am_er_f (show ¬ am_tl (tk p) 2 by unfold am_tl; rw [hk]; decide)]
      exact am_xr_calc5 hn hA hen H.1 H.2.1 H.2.2.1 (lt H.2.2.2.1) hk h2
    · rw [am_er_f (show ¬ am_tl (tk p) 2 by unfold am_tl; rw [hk]; decide)]
      exact am_xr_calc6 hn hA hen H.1 H.2.1 H.2.2.1 (lt H.2.2.2.1) hk h2
  · intro a p e stk k v rk rv s H hk _ hv hno hq
    refine am_LX_r ⟨by decide, H.2.2.2.2⟩ ?_
    rcases hk with hk | hk | hk | hk | hk
    · rw [am_er_f (show ¬ am_tl (tk p) 2 by unfold am_tl; rw [hk]; decide)]
      exact am_xr_calcF2 hn hA hen H.1 H.2.1 H.2.2.1 (lt H.2.2.2.1) hv hk hno hq
    · rw [am_er_f (show ¬ am_tl (tk p) 2 by unfold am_tl; rw [hk]; decide)]
      exact am_xr_calcF3 hn hA hen H.1 H.2.1 H.2.2.1 (lt H.2.2.2.1) hv hk hno hq
    · rw [am_er_f (show ¬ am_tl (tk p) 2 by unfold am_tl; rw [hk]; decide)]
      exact am_xr_calcF4 hn hA hen H.1 H.2.1 H.2.2.1 (lt H.2.2.2.1) hv hk hno hq
    · rw [am_er_f (show ¬ am_tl (tk p) 2 by unfold am_tl; rw [hk]; decide)]
      exact am_xr_calcF5 hn hA hen H.1 H.2.1 H.2.2.1 (lt H.2.2.2.1) hv hk hno hq
    · rw [am_er_f (show ¬ am_tl (tk p) 2 by unfold am_tl; rw [hk]; decide)]
      exact am_xr_calcF6 hn hA hen H.1 H.2.1 H.2.2.1 (lt H.2.2.2.1) hv hk hno hq
  · intro a p e stk rv s H hk h
    have h2 := am_LX_v' h
    rw [am_er_t (show am_tl (tk p) 2 from Or.inl ⟨hk, rfl⟩)] at h2
    refine am_LX_r ⟨by decide, H.2.2.2.2⟩ ?_
    rw [am_er_f (show ¬ am_tl (tk p) 1 by unfold am_tl; rw [hk]; decide)]
    exact am_xr_if hn hA hen H.1 H.2.1 H.2.2.1 (lt H.2.2.2.1) hk h2
  · intro a p e stk rk rv s H hk hv hno hq
    refine am_LX_r ⟨by decide, H.2.2.2.2⟩ ?_
    rw [am_er_f (show ¬ am_tl (tk p) 1 by unfold am_tl; rw [hk]; decide)]
    exact am_xr_ifF hn hA hen H.1 H.2.1 H.2.2.1 (lt H.2.2.2.1) hv hk hno hq
  · intro a p e stk rv s H hk hv h
    have h2 := am_LX_v' h
    rw [am_er_t (show am_tl (tk p) 2 from Or.inr (Or.inr (Or.inl ⟨hk, rfl⟩)))] at h2
    refine am_LX_r ⟨by decide, H.2.2.2.2⟩ ?_
    rw [am_er_f (show ¬ am_tl (tk p) 1 by unfold am_tl; rw [hk]; decide)]
    exact am_xr_req hn hA hen H.1 H.2.1 H.2.2.1 (lt H.2.2.2.1) hk hv h2
  · intro a p e stk rk rv s H hk hv hno hq
    refine am_LX_r ⟨by decide, H.2.2.2.2⟩ ?_
    rw [am_er_f (show ¬ am_tl (tk p) 1 by unfold am_tl; rw [hk]; decide)]
    exact am_xr_reqF hn hA hen H.1 H.2.1 H.2.2.1 (lt H.2.2.2.1) hv hk hno hq
  · intro a p e stk rk rv s H hk hv ha h
    have h2 := am_LX_v' h
    rw [am_er_t (show am_tl (tk p) 2 from Or.inr (Or.inr (Or.inr (Or.inl ⟨hk, rfl⟩))))] at h2
    refine am_LX_r ⟨by decide, H.2.2.2.2⟩ ?_
    rw [am_er_f (show ¬ am_tl (tk p) 1 by unfold am_tl; rw [hk]; decide)]
    exact am_xr_let hn hA hen H.1 H.2.1 H.2.2.1 (lt H.2.2.2.1) hv hk ha h2
  · intro a p e stk rk rv s H hk _ ha hq
    refine am_LX_r ⟨by decide, H.2.2.2.2⟩ ?_
    rw [am_er_f (show ¬ am_tl (tk p) 1 by unfold am_tl; rw [hk]; decide)]
    exact am_xr_letF hn hA hen H.1 H.2.1 H.2.2.1 (lt H.2.2.2.1) hk ha hq
  · intro a p e stk rk rv s f H hk _ hf hlk h
    refine am_LX_r ⟨by decide, H.2.2.2.2⟩ ?_
    rw [am_er_f (show ¬ am_tl (tk p) 1 by unfold am_tl; rw [hk]; decide)]
    exact am_xr_set hn hA hen H.1 H.2.1 H.2.2.1 (lt H.2.2.2.1) hk hf hlk (am_LX_r' H.2.2.2.2 h)
  · intro a p e stk rk rv s H hk _ hlk hq
    refine am_LX_r ⟨by decide, H.2.2.2.2⟩ ?_
    rw [am_er_f (show ¬ am_tl (tk p) 1 by unfold am_tl; rw [hk]; decide)]
    exact am_xr_setF hn hA hen H.1 H.2.1 H.2.2.1 (lt H.2.2.2.1) hk hlk hq
  · intro a p e stk rk rv s H hk _ h
    have h2 := am_LX_v' h
    rw [am_er_t (show am_tl (tk p) 2 from Or.inr (Or.inr (Or.inr (Or.inr (Or.inr ⟨hk, rfl⟩)))))] at h2
    refine am_LX_r ⟨by decide, H.2.2.2.2⟩ ?_
    rw [am_er_f (show ¬ am_tl (tk p) 1 by unfold am_tl; rw [hk]; decide)]
    exact am_xr_seq hn hA hen H.1 H.2.1 H.2.2.1 (lt H.2.2.2.1) hk h2
  · intro a p e stk rk rv s c lp H hk hv hc ha hlp elp h
    have h2 := am_LX_v' h
    rw [am_er_t (show am_tl (tk p) 3 from Or.inr (Or.inr (Or.inr (Or.inr (Or.inl ⟨hk, rfl⟩)))))] at h2
    refine am_LX_r ⟨by decide, H.2.2.2.2⟩ ?_
    rw [am_er_f (show ¬ am_tl (tk p) 2 by unfold am_tl; rw [hk]; decide)]
    exact am_xr_app hn hA hen H.1 H.2.1 H.2.2.1 (lt H.2.2.2.1) hv hk hc ha hlp elp h2
  · intro a p e stk k v rk rv s H hk hkv _ hno hq
    refine am_LX_r ⟨by decide, H.2.2.2.2⟩ ?_
    rw [am_er_f (show ¬ am_tl (tk p) 2 by unfold am_tl; rw [hk]; decide)]
    by_cases k2 : k = 2
    · rcases hno with hno | hno
      · exact absurd k2 hno
      · subst k2
        rcases hkv with q | ⟨_, c, hc, q⟩
        · exact absurd q (by decide)
        · subst q
          exact am_xr_appF2 hn hA hen H.1 H.2.1 H.2.2.1 (lt H.2.2.2.1) hk hc hno hq
    · exact am_xr_appF1 hn hA hen H.1 H.2.1 H.2.2.1 (lt H.2.2.2.1) hk k2 hq
  · intro a p e stk st k v rk rv s H _ hk h
    have hs0 : ¬ st = 0 := by
      rcases hk with ⟨_, z⟩ | ⟨_, z⟩ | ⟨_, z⟩ | ⟨_, z⟩ | ⟨_, z⟩ | ⟨_, z⟩ <;> rw [z] <;> decide
    refine am_LX_r ⟨hs0, H.2.2.2.2⟩ ?_
    rw [am_er_t hk]
    exact am_xr_monoR (Nat.le_succ a) (am_LX_r' H.2.2.2.2 h)
end
