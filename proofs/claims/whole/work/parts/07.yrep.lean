/-! how the reference keeps a store and its frames -/
def am_sy (s : am_S) (gVar gPar gK gV gPos gEnv : Nat → Int32) : Prop :=
  (∀ f, f < am_nf s → gVar f = am_fVar s f ∧ gPar f = am_fPar s f ∧ gK f = am_fK s f ∧ gV f = am_fV s f) ∧
  (∀ c, c < am_nc s → gPos c = am_cPos s c ∧ gEnv c = am_cEnv s c)
theorem am_sy_nl {s : am_S} {gVar gPar gK gV gPos gEnv : Nat → Int32} {x e k v : Int32} (h : am_sy s gVar gPar gK gV gPos gEnv) : am_sy (am_nl x e k v s) (upd gVar (am_nf s) x) (upd gPar (am_nf s) e) (upd gK (am_nf s) k) (upd gV (am_nf s) v) gPos gEnv := by
  refine ⟨fun f hf => ?_, fun c hc => h.2 c hc⟩
  have hf' : f < am_nf s + 1 := hf
  show upd gVar (am_nf s) x f = upd (am_fVar s) (am_nf s) x f ∧ upd gPar (am_nf s) e f = upd (am_fPar s) (am_nf s) e f ∧ upd gK (am_nf s) k f = upd (am_fK s) (am_nf s) k f ∧ upd gV (am_nf s) v f = upd (am_fV s) (am_nf s) v f
  by_cases q : f = am_nf s
  · subst q
    rw [am_up_s, am_up_s, am_up_s, am_up_s, am_up_s, am_up_s, am_up_s, am_up_s]
    exact ⟨rfl, rfl, rfl, rfl⟩
  · rw [am_up_n q, am_up_n q, am_up_n q, am_up_n q, am_up_n q, am_up_n q, am_up_n q, am_up_n q]
    exact h.1 f (by omega)
theorem am_sy_nk {s : am_S} {gVar gPar gK gV gPos gEnv : Nat → Int32} {p : Nat} {e : Int32} (h : am_sy s gVar gPar gK gV gPos gEnv) : am_sy (am_nk p e s) gVar gPar gK gV (upd gPos (am_nc s) (nI p)) (upd gEnv (am_nc s) e) := by
  refine ⟨fun f hf => h.1 f hf, fun c hc => ?_⟩
  have hc' : c < am_nc s + 1 := hc
  show upd gPos (am_nc s) (nI p) c = upd (am_cPos s) (am_nc s) (nI p) c ∧ upd gEnv (am_nc s) e c = upd (am_cEnv s) (am_nc s) e c
  by_cases q : c = am_nc s
  · subst q
    rw [am_up_s, am_up_s, am_up_s, am_up_s]
    exact ⟨rfl, rfl⟩
  · rw [am_up_n q, am_up_n q, am_up_n q, am_up_n q]
    exact h.2 c (by omega)
theorem am_sy_sl {s : am_S} {gVar gPar gK gV gPos gEnv : Nat → Int32} {f0 : Nat} {k v : Int32} (h : am_sy s gVar gPar gK gV gPos gEnv) : am_sy (am_sl f0 k v s) gVar gPar (upd gK f0 k) (upd gV f0 v) gPos gEnv := by
  refine ⟨fun f hf => ?_, fun c hc => h.2 c hc⟩
  obtain ⟨h1, h2, h3, h4⟩ := h.1 f hf
  show gVar f = am_fVar s f ∧ gPar f = am_fPar s f ∧ upd gK f0 k f = upd (am_fK s) f0 k f ∧ upd gV f0 v f = upd (am_fV s) f0 v f
  by_cases q : f = f0
  · subst q
    rw [am_up_s, am_up_s, am_up_s, am_up_s]
    exact ⟨h1, h2, rfl, rfl⟩
  · rw [am_up_n q, am_up_n q, am_up_n q, am_up_n q]
    exact ⟨h1, h2, h3, h4⟩
def am_fy (gP gE gS gK gV : Nat → Int32) : List am_F → Prop
  | [] => True
  | (p, e, st, k, v) :: r => gP r.length = nI p ∧ gE r.length = e ∧ gS r.length = st ∧ gK r.length = k ∧ gV r.length = v ∧ am_fy gP gE gS gK gV r
theorem am_fy_eq {gP gE gS gK gV hP hE hS hK hV : Nat → Int32} : ∀ (r : List am_F), (∀ i, i < r.length → hP i = gP i ∧ hE i = gE i ∧ hS i = gS i ∧ hK i = gK i ∧ hV i = gV i) → am_fy gP gE gS gK gV r → am_fy hP hE hS hK hV r := by
  intro r
  induction r with
  | nil => intro _ _; exact True.intro
  | cons f r ih =>
    obtain ⟨p, e, st, k, v⟩ := f
    intro hi h
    obtain ⟨h1, h2, h3, h4, h5, h6⟩ := h
    obtain ⟨i1, i2, i3, i4, i5⟩ := hi r.length (by rw [List.length_cons]; omega)
    exact ⟨by rw [i1]; exact h1, by rw [i2]; exact h2, by rw [i3]; exact h3, by rw [i4]; exact h4, by rw [i5]; exact h5, ih (fun i hl => hi i (by rw [List.length_cons]; omega)) h6⟩
/-- the state of the top frame changes -/
theorem am_fy_st {gP gE gS gK gV : Nat → Int32} {p : Nat} {e st k v st' : Int32} {r : List am_F} (h : am_fy gP gE gS gK gV ((p, e, st, k, v) :: r)) : am_fy gP gE (upd gS r.length st') gK gV ((p, e, st', k, v) :: r) := by
  obtain ⟨h1, h2, _, h4, h5, h6⟩ := h
  exact ⟨h1, h2, am_up_s, h4, h5, am_fy_eq r (fun i hi => ⟨rfl, rfl, am_up_n (Nat.ne_of_lt hi), rfl, rfl⟩) h6⟩
/-- .. and its first value -/
theorem am_fy_kv {gP gE gS gK gV : Nat → Int32} {p : Nat} {e st k v st' k' v' : Int32} {r : List am_F} (h : am_fy gP gE gS gK gV ((p, e, st, k, v) :: r)) : am_fy gP gE (upd gS r.length st') (upd gK r.length k') (upd gV r.length v') ((p, e, st', k', v') :: r) := by
  obtain ⟨h1, h2, _, _, _, h6⟩ := h
  exact ⟨h1, h2, am_up_s, am_up_s, am_up_s, am_fy_eq r (fun i hi => ⟨rfl, rfl, am_up_n (Nat.ne_of_lt hi), am_up_n (Nat.ne_of_lt hi), am_up_n (Nat.ne_of_lt hi)⟩) h6⟩
/-- a new frame -/
theorem am_fy_push {gP gE gS gK gV : Nat → Int32} {p : Nat} {e : Int32} {r : List am_F} (h : am_fy gP gE gS gK gV r) : am_fy (upd gP r.length (nI p)) (upd gE r.length e) (upd gS r.length 0) (upd gK r.length 0) (upd gV r.length 0) ((p, e, 0, 0, 0) :: r) :=
  ⟨am_up_s, am_up_s, am_up_s, am_up_s, am_up_s, am_fy_eq r (fun i hi => ⟨am_up_n (Nat.ne_of_lt hi), am_up_n (Nat.ne_of_lt hi), am_up_n (Nat.ne_of_lt hi), am_up_n (Nat.ne_of_lt hi), am_up_n (Nat.ne_of_lt hi)⟩) h⟩
/-! the vector in use: as long as the greater of its first length and the choices made -/
def am_mx (L0 u : Nat) : Nat := L0 + (u - L0)
def am_bI : Bool → Int32
  | true => 1
  | false => 0
theorem am_bI_n (x : Bool) : am_bI x = nI (am_b1 x) := by cases x <;> decide
