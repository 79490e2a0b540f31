/-! how the component keeps a store: locations and closures under the numbers of their allocations -/
def am_xe (s : am_S) (e : Int32) : Int32 := if e < 0 then -1 else nI (am_xl s e.toNatClampNeg)
def am_xk (k : Int32) : Int32 := if k = 2 then 1 else 0
def am_xv (s : am_S) (k v : Int32) : Int32 := if k = 2 then nI (am_xc s v.toNatClampNeg) else v
theorem am_xe_m (s : am_S) : am_xe s (-1) = -1 := if_pos (by decide)
theorem am_xe_f (s : am_S) {f : Nat} (h : f < 2 ^ 31) : am_xe s (nI f) = nI (am_xl s f) := by
  unfold am_xe
  rw [if_neg (nI_pos h), nI_clamp h]
theorem am_xk_1 : am_xk 1 = 0 := if_neg (by decide)
theorem am_xk_2 : am_xk 2 = 1 := if_pos rfl
theorem am_xv_1 (s : am_S) (v : Int32) : am_xv s 1 v = v := if_neg (by decide)
theorem am_xv_2 (s : am_S) {c : Nat} (h : c < 2 ^ 31) : am_xv s 2 (nI c) = nI (am_xc s c) := by
  unfold am_xv
  rw [if_pos rfl, nI_clamp h]
theorem am_xe_x {s t : am_S} {e : Int32} (h : am_ext s t) (g : am_okE s e) (hb : am_nf s ≤ 16) : am_xe t e = am_xe s e := by
  rcases g with g | ⟨f, hf, g⟩
  · rw [g, am_xe_m, am_xe_m]
  · rw [g, am_xe_f t (by omega), am_xe_f s (by omega), h.2.2.2.1 f hf]
theorem am_xv_x {s t : am_S} {k v : Int32} (h : am_ext s t) (g : am_okV s k v) (hb : am_nc s ≤ 16) : am_xv t k v = am_xv s k v := by
  rcases g with g | ⟨g, c, hc, gv⟩
  · rw [g, am_xv_1, am_xv_1]
  · rw [g, gv, am_xv_2 t (by omega), am_xv_2 s (by omega), h.2.2.2.2 c hc]
theorem am_nf16 {n mC mA : Nat} {s : am_S} (h : am_WF n mC mA s) (hA : mA ≤ 16) : am_nf s ≤ 16 ∧ am_nc s ≤ 16 ∧ am_al s ≤ 16 := by
  have h1 := h.2.1
  unfold am_al at h1 ⊢
  omega
def am_sx (s : am_S) (lV lO lC lW cT cE : Nat → Int32) : Prop :=
  (∀ f, f < am_nf s → lV (am_xl s f) = am_fVar s f ∧ lO (am_xl s f) = am_xe s (am_fPar s f) ∧ lC (am_xl s f) = am_xk (am_fK s f) ∧ lW (am_xl s f) = am_xv s (am_fK s f) (am_fV s f)) ∧
  (∀ c, c < am_nc s → cT (am_xc s c) = am_cPos s c ∧ cE (am_xc s c) = am_xe s (am_cEnv s c))
theorem am_wL_par {n mC mA : Nat} {s : am_S} (h : am_WF n mC mA s) {f : Nat} (hf : f < am_nf s) : am_okE s (am_fPar s f) := by
  rcases (h.2.2.1 f hf).1 with g | ⟨g, hg, eg⟩
  · exact Or.inl g
  · exact Or.inr ⟨g, by omega, eg⟩
theorem am_sx_tick {s : am_S} {lV lO lC lW cT cE : Nat → Int32} (h : am_sx s lV lO lC lW cT cE) : am_sx (am_tick s) lV lO lC lW cT cE := h
theorem am_sx_nl {n mC mA : Nat} {s : am_S} {lV lO lC lW cT cE : Nat → Int32} {x e k v : Int32} (w : am_WF n mC mA s) (hA : mA ≤ 16) (he : am_okE s e) (hv : am_okV s k v) (h : am_sx s lV lO lC lW cT cE) : am_sx (am_nl x e k v s) (upd lV (am_al s) x) (upd lO (am_al s) (am_xe s e)) (upd lC (am_al s) (am_xk k)) (upd lW (am_al s) (am_xv s k v)) cT cE := by
  obtain ⟨b1, b2, b3⟩ := am_nf16 w hA
  have hx := am_ext_nl x e k v s
  refine ⟨fun f hf => ?_, fun c hc => ?_⟩
  · have hf' : f < am_nf s + 1 := hf
    by_cases q : f = am_nf s
    · subst q
      have e1 : am_xl (am_nl x e k v s) (am_nf s) = am_al s := am_un_s
      have e2 : am_fVar (am_nl x e k v s) (am_nf s) = x := am_up_s
      have e3 : am_fPar (am_nl x e k v s) (am_nf s) = e := am_up_s
      have e4 : am_fK (am_nl x e k v s) (am_nf s) = k := am_up_s
      have e5 : am_fV (am_nl x e k v s) (am_nf s) = v := am_up_s
      rw [e1, e2, e3, e4, e5, am_up_s, am_up_s, am_up_s, am_up_s, am_xe_x hx he b1, am_xv_x hx hv b2]
      exact ⟨rfl, rfl, rfl, rfl⟩
    · have hf2 : f < am_nf s := by omega
      have hl := (w.2.2.1 f hf2).2.2.1
      have hne : am_xl s f ≠ am_al s := Nat.ne_of_lt hl
      have e1 : am_xl (am_nl x e k v s) f = am_xl s f := am_un_n q
      have e2 : am_fVar (am_nl x e k v s) f = am_fVar s f := am_up_n q
      have e3 : am_fPar (am_nl x e k v s) f = am_fPar s f := am_up_n q
      have e4 : am_fK (am_nl x e k v s) f = am_fK s f := am_up_n q
      have e5 : am_fV (am_nl x e k v s) f = am_fV s f := am_up_n q
      rw [e1, e2, e3, e4, e5, am_up_n hne, am_up_n hne, am_up_n hne, am_up_n hne, am_xe_x hx (am_wL_par w hf2) b1, am_xv_x hx (w.2.2.1 f hf2).2.1 b2]
      exact h.1 f hf2
  · have hc' : c < am_nc s := hc
    have e1 : am_xc (am_nl x e k v s) c = am_xc s c := rfl
    have e2 : am_cPos (am_nl x e k v s) c = am_cPos s c := rfl
    have e3 : am_cEnv (am_nl x e k v s) c = am_cEnv s c := rfl
    rw [e1, e2, e3, am_xe_x hx (w.2.2.2 c hc').2.1 b1]
    exact h.2 c hc'
theorem am_sx_nk {n mC mA : Nat} {s : am_S} {lV lO lC lW cT cE : Nat → Int32} {p : Nat} {e : Int32} (w : am_WF n mC mA s) (hA : mA ≤ 16) (he : am_okE s e) (h : am_sx s lV lO lC lW cT cE) : am_sx (am_nk p e s) lV lO lC lW (upd cT (am_al s) (nI p)) (upd cE (am_al s) (am_xe s e)) := by
  obtain ⟨b1, b2, b3⟩ := am_nf16 w hA
  have hx := am_ext_nk p e s
  refine ⟨fun f hf => ?_, fun c hc => ?_⟩
  · have hf2 : f < am_nf s := hf
    have e1 : am_xl (am_nk p e s) f = am_xl s f := rfl
    have e2 : am_fVar (am_nk p e s) f = am_fVar s f := rfl
    have e3 : am_fPar (am_nk p e s) f = am_fPar s f := rfl
    have e4 : am_fK (am_nk p e s) f = am_fK s f := rfl
    have e5 : am_fV (am_nk p e s) f = am_fV s f := rfl
    rw [e1, e2, e3, e4, e5, am_xe_x hx (am_wL_par w hf2) b1, am_xv_x hx (w.2.2.1 f hf2).2.1 b2]
    exact h.1 f hf2
  · have hc' : c < am_nc s + 1 := hc
    by_cases q : c = am_nc s
    · subst q
      have e1 : am_xc (am_nk p e s) (am_nc s) = am_al s := am_un_s
      have e2 : am_cPos (am_nk p e s) (am_nc s) = nI p := am_up_s
      have e3 : am_cEnv (am_nk p e s) (am_nc s) = e := am_up_s
      rw [e1, e2, e3, am_up_s, am_up_s, am_xe_x hx he b1]
      exact ⟨rfl, rfl⟩
    · have hc2 : c < am_nc s := by omega
      have hne : am_xc s c ≠ am_al s := Nat.ne_of_lt (w.2.2.2 c hc2).2.2
      have e1 : am_xc (am_nk p e s) c = am_xc s c := am_un_n q
      have e2 : am_cPos (am_nk p e s) c = am_cPos s c := am_up_n q
      have e3 : am_cEnv (am_nk p e s) c = am_cEnv s c := am_up_n q
      rw [e1, e2, e3, am_up_n hne, am_up_n hne, am_xe_x hx (w.2.2.2 c hc2).2.1 b1]
      exact h.2 c hc2
theorem am_xl_inj {n mC mA : Nat} {s : am_S} (w : am_WF n mC mA s) {f g : Nat} (hf : f < am_nf s) (hg : g < am_nf s) (h : f ≠ g) : am_xl s f ≠ am_xl s g := by
  rcases Nat.lt_or_gt_of_ne h with q | q
  · exact Nat.ne_of_lt ((w.2.2.1 g hg).2.2.2 f q)
  · exact Nat.ne_of_gt ((w.2.2.1 f hf).2.2.2 g q)
theorem am_sx_sl {n mC mA : Nat} {s : am_S} {lV lO lC lW cT cE : Nat → Int32} {f0 : Nat} {k v : Int32} (w : am_WF n mC mA s) (hf0 : f0 < am_nf s) (h : am_sx s lV lO lC lW cT cE) : am_sx (am_sl f0 k v s) lV lO (upd lC (am_xl s f0) (am_xk k)) (upd lW (am_xl s f0) (am_xv s k v)) cT cE := by
  refine ⟨fun f hf => ?_, fun c hc => h.2 c hc⟩
  have hf2 : f < am_nf s := hf
  have e1 : am_xl (am_sl f0 k v s) f = am_xl s f := rfl
  have e2 : am_fVar (am_sl f0 k v s) f = am_fVar s f := rfl
  have e3 : am_xe (am_sl f0 k v s) (am_fPar (am_sl f0 k v s) f) = am_xe s (am_fPar s f) := rfl
  have e6 : ∀ x y, am_xv (am_sl f0 k v s) x y = am_xv s x y := fun _ _ => rfl
  rw [e1, e2, e3, e6]
  by_cases q : f = f0
  · subst q
    have e4 : am_fK (am_sl f k v s) f = k := am_up_s
    have e5 : am_fV (am_sl f k v s) f = v := am_up_s
    rw [e4, e5, am_up_s, am_up_s]
    exact ⟨(h.1 f hf2).1, (h.1 f hf2).2.1, rfl, rfl⟩
  · have e4 : am_fK (am_sl f0 k v s) f = am_fK s f := am_up_n q
    have e5 : am_fV (am_sl f0 k v s) f = am_fV s f := am_up_n q
    have hne := am_xl_inj w hf2 hf0 q
    rw [e4, e5, am_up_n hne, am_up_n hne]
    exact h.1 f hf2
/-! the component's frames: those that wait for a value -/
def am_er (tk : Nat → Int32) : List am_F → List am_F
  | [] => []
  | (p, e, st, k, v) :: r => if (tk p = 7 ∧ st = 2) ∨ (tk p = 8 ∧ st = 1) ∨ (tk p = 10 ∧ st = 2) ∨ (tk p = 11 ∧ st = 2) ∨ (tk p = 13 ∧ st = 3) ∨ (tk p = 15 ∧ st = 2) then am_er tk r else (p, e, st, k, v) :: am_er tk r
theorem am_er_t {tk : Nat → Int32} {p : Nat} {e st k v : Int32} {r : List am_F} (h : am_tl (tk p) st) : am_er tk ((p, e, st, k, v) :: r) = am_er tk r := if_pos h
theorem am_er_f {tk : Nat → Int32} {p : Nat} {e st k v : Int32} {r : List am_F} (h : ¬ am_tl (tk p) st) : am_er tk ((p, e, st, k, v) :: r) = (p, e, st, k, v) :: am_er tk r := if_neg h
theorem am_er_le (tk : Nat → Int32) : ∀ r : List am_F, (am_er tk r).length ≤ r.length := by
  intro r
  induction r with
  | nil => exact Nat.le_refl _
  | cons f r ih =>
    obtain ⟨p, e, st, k, v⟩ := f
    by_cases h : am_tl (tk p) st
    · rw [am_er_t h, List.length_cons]; omega
    · rw [am_er_f h, List.length_cons, List.length_cons]; omega
def am_fx (s : am_S) (fT fE fH fC fV : Nat → Int32) : List am_F → Prop
  | [] => True
  | (p, e, st, k, v) :: r => fT r.length = nI p ∧ am_okE s e ∧ fE r.length = am_xe s e ∧ ((st = 1 ∧ fH r.length = 0) ∨ (st = 2 ∧ fH r.length = 1 ∧ am_okV s k v ∧ fC r.length = am_xk k ∧ fV r.length = am_xv s k v)) ∧ am_fx s fT fE fH fC fV r
theorem am_fx_x {s t : am_S} {fT fE fH fC fV : Nat → Int32} (hx : am_ext s t) (b1 : am_nf s ≤ 16) (b2 : am_nc s ≤ 16) : ∀ r : List am_F, am_fx s fT fE fH fC fV r → am_fx t fT fE fH fC fV r := by
  intro r
  induction r with
  | nil => intro _; exact True.intro
  | cons f r ih =>
    obtain ⟨p, e, st, k, v⟩ := f
    intro h
    obtain ⟨h1, h2, h3, h4, h5⟩ := h
    refine ⟨h1, am_okE_x hx h2, by rw [am_xe_x hx h2 b1]; exact h3, ?_, ih h5⟩
    rcases h4 with h4 | ⟨g1, g2, g3, g4, g5⟩
    · exact Or.inl h4
    · exact Or.inr ⟨g1, g2, am_okV_x hx g3, g4, by rw [am_xv_x hx g3 b2]; exact g5⟩
theorem am_fx_eq {s : am_S} {fT fE fH fC fV gT gE gH gC gV : Nat → Int32} : ∀ (r : List am_F), (∀ i, i < r.length → gT i = fT i ∧ gE i = fE i ∧ gH i = fH i ∧ gC i = fC i ∧ gV i = fV i) → am_fx s fT fE fH fC fV r → am_fx s gT gE gH gC gV r := by
  intro r
  induction r with
  | nil => intro _ _; exact True.intro
  | cons f r ih =>
    obtain ⟨p, e, st, k, v⟩ := f
    intro hi h
    obtain ⟨h1, h2, h3, h4, h5⟩ := h
    obtain ⟨i1, i2, i3, i4, i5⟩ := hi r.length (by rw [List.length_cons]; omega)
    refine ⟨by rw [i1]; exact h1, h2, by rw [i2]; exact h3, by rw [i3, i4, i5]; exact h4, ih (fun i hl => hi i (by rw [List.length_cons]; omega)) h5⟩
