/-! what holds of a store, and what an evaluation keeps -/
def am_okE (s : am_S) (e : Int32) : Prop := e = -1 ∨ ∃ f, f < am_nf s ∧ e = nI f
def am_okV (s : am_S) (k v : Int32) : Prop := k = 1 ∨ (k = 2 ∧ ∃ c, c < am_nc s ∧ v = nI c)
def am_ext (s t : am_S) : Prop := am_us s ≤ am_us t ∧ am_nf s ≤ am_nf t ∧ am_nc s ≤ am_nc t ∧ (∀ f, f < am_nf s → am_xl t f = am_xl s f) ∧ (∀ c, c < am_nc s → am_xc t c = am_xc s c)
theorem am_ext_r (s : am_S) : am_ext s s := ⟨Nat.le_refl _, Nat.le_refl _, Nat.le_refl _, fun _ _ => rfl, fun _ _ => rfl⟩
theorem am_ext_t {s t w : am_S} (h : am_ext s t) (g : am_ext t w) : am_ext s w :=
  ⟨Nat.le_trans h.1 g.1, Nat.le_trans h.2.1 g.2.1, Nat.le_trans h.2.2.1 g.2.2.1, fun f hf => (g.2.2.2.1 f (Nat.lt_of_lt_of_le hf h.2.1)).trans (h.2.2.2.1 f hf), fun c hc => (g.2.2.2.2 c (Nat.lt_of_lt_of_le hc h.2.2.1)).trans (h.2.2.2.2 c hc)⟩
theorem am_ext_al {s t : am_S} (h : am_ext s t) : am_al s ≤ am_al t := Nat.add_le_add h.2.1 h.2.2.1
theorem am_ext_tick (s : am_S) : am_ext s (am_tick s) := ⟨Nat.le_succ _, Nat.le_refl _, Nat.le_refl _, fun _ _ => rfl, fun _ _ => rfl⟩
theorem am_ext_nl (x e k v : Int32) (s : am_S) : am_ext s (am_nl x e k v s) := ⟨Nat.le_refl _, Nat.le_succ _, Nat.le_refl _, fun _ hf => am_un_n (Nat.ne_of_lt hf), fun _ _ => rfl⟩
theorem am_ext_nk (p : Nat) (e : Int32) (s : am_S) : am_ext s (am_nk p e s) := ⟨Nat.le_refl _, Nat.le_refl _, Nat.le_succ _, fun _ _ => rfl, fun _ hc => am_un_n (Nat.ne_of_lt hc)⟩
theorem am_ext_sl (f : Nat) (k v : Int32) (s : am_S) : am_ext s (am_sl f k v s) := ⟨Nat.le_refl _, Nat.le_refl _, Nat.le_refl _, fun _ _ => rfl, fun _ _ => rfl⟩
theorem am_okE_x {s t : am_S} {e : Int32} (h : am_ext s t) (g : am_okE s e) : am_okE t e := by
  rcases g with g | ⟨f, hf, g⟩
  · exact Or.inl g
  · exact Or.inr ⟨f, Nat.lt_of_lt_of_le hf h.2.1, g⟩
theorem am_okV_x {s t : am_S} {k v : Int32} (h : am_ext s t) (g : am_okV s k v) : am_okV t k v := by
  rcases g with g | ⟨g, c, hc, gv⟩
  · exact Or.inl g
  · exact Or.inr ⟨g, c, Nat.lt_of_lt_of_le hc h.2.2.1, gv⟩
def am_wL (s : am_S) (f : Nat) : Prop := (am_fPar s f = -1 ∨ ∃ g, g < f ∧ am_fPar s f = nI g) ∧ am_okV s (am_fK s f) (am_fV s f) ∧ am_xl s f < am_al s ∧ ∀ g, g < f → am_xl s g < am_xl s f
def am_wC (n : Nat) (s : am_S) (c : Nat) : Prop := (∃ p, p < n ∧ am_cPos s c = nI p) ∧ am_okE s (am_cEnv s c) ∧ am_xc s c < am_al s
def am_WF (n mC mA : Nat) (s : am_S) : Prop := am_us s ≤ mC ∧ am_al s ≤ mA ∧ (∀ f, f < am_nf s → am_wL s f) ∧ (∀ c, c < am_nc s → am_wC n s c)
theorem am_WF_0 (n mC mA : Nat) : am_WF n mC mA am_s0 := ⟨Nat.zero_le _, Nat.zero_le _, fun f hf => absurd hf (Nat.not_lt_zero f), fun c hc => absurd hc (Nat.not_lt_zero c)⟩
section
variable {n mC mA : Nat} {s : am_S}
theorem am_WF_tick (h : am_WF n mC mA s) (hu : am_us s < mC) : am_WF n mC mA (am_tick s) := ⟨hu, h.2.1, h.2.2.1, h.2.2.2⟩
theorem am_WF_sl {f0 : Nat} {k v : Int32} (h : am_WF n mC mA s) (hv : am_okV s k v) : am_WF n mC mA (am_sl f0 k v s) := by
  refine ⟨h.1, h.2.1, fun f hf => ?_, h.2.2.2⟩
  have hw := h.2.2.1 f hf
  refine ⟨hw.1, ?_, hw.2.2.1, hw.2.2.2⟩
  show am_okV s (upd (am_fK s) f0 k f) (upd (am_fV s) f0 v f)
  by_cases e : f = f0
  · rw [e, am_up_s, am_up_s]; exact hv
  · rw [am_up_n e, am_up_n e]; exact hw.2.1
theorem am_WF_nl {x e k v : Int32} (h : am_WF n mC mA s) (ha : am_al s < mA) (he : am_okE s e) (hv : am_okV s k v) : am_WF n mC mA (am_nl x e k v s) := by
  have hx := am_ext_nl x e k v s
  have hal : am_al (am_nl x e k v s) = am_al s + 1 := by
    show am_nf s + 1 + am_nc s = am_nf s + am_nc s + 1
    omega
  refine ⟨h.1, by rw [hal]; exact ha, fun f hf => ?_, fun c hc => ?_⟩
  · have hf' : f < am_nf s + 1 := hf
    by_cases q : f = am_nf s
    · subst q
      refine ⟨?_, ?_, ?_, ?_⟩
      · show (upd (am_fPar s) (am_nf s) e (am_nf s) = -1 ∨ ∃ g, g < am_nf s ∧ upd (am_fPar s) (am_nf s) e (am_nf s) = nI g)
        rw [am_up_s]
        exact he
      · show am_okV (am_nl x e k v s) (upd (am_fK s) (am_nf s) k (am_nf s)) (upd (am_fV s) (am_nf s) v (am_nf s))
        rw [am_up_s, am_up_s]
        exact am_okV_x hx hv
      · rw [hal]
        show am_un (am_xl s) (am_nf s) (am_al s) (am_nf s) < am_al s + 1
        rw [am_un_s]
        exact Nat.lt_succ_self _
      · intro g hg
        show am_un (am_xl s) (am_nf s) (am_al s) g < am_un (am_xl s) (am_nf s) (am_al s) (am_nf s)
        rw [am_un_s, am_un_n (Nat.ne_of_lt hg)]
        exact (h.2.2.1 g hg).2.2.1
    · have hf2 : f < am_nf s := by omega
      have hw := h.2.2.1 f hf2
      refine ⟨?_, ?_, ?_, ?_⟩
      · show (upd (am_fPar s) (am_nf s) e f = -1 ∨ ∃ g, g < f ∧ upd (am_fPar s) (am_nf s) e f = nI g)
        rw [am_up_n q]
        exact hw.1
      · show am_okV (am_nl x e k v s) (upd (am_fK s) (am_nf s) k f) (upd (am_fV s) (am_nf s) v f)
        rw [am_up_n q, am_up_n q]
        exact am_okV_x hx hw.2.1
      · rw [hal]
        show am_un (am_xl s) (am_nf s) (am_al s) f < am_al s + 1
        rw [am_un_n q]
        exact Nat.lt_succ_of_lt hw.2.2.1
      · intro g hg
        show am_un (am_xl s) (am_nf s) (am_al s) g < am_un (am_xl s) (am_nf s) (am_al s) f
        rw [am_un_n q, am_un_n (by omega)]
        exact hw.2.2.2 g hg
  · have hw := h.2.2.2 c hc
    refine ⟨hw.1, am_okE_x hx hw.2.1, ?_⟩
    rw [hal]
    exact Nat.lt_succ_of_lt hw.2.2
theorem am_WF_nk {p : Nat} {e : Int32} (h : am_WF n mC mA s) (hp : p < n) (ha : am_al s < mA) (he : am_okE s e) : am_WF n mC mA (am_nk p e s) := by
  have hx := am_ext_nk p e s
  have hal : am_al (am_nk p e s) = am_al s + 1 := by
    show am_nf s + (am_nc s + 1) = am_nf s + am_nc s + 1
    omega
  refine ⟨h.1, by rw [hal]; exact ha, fun f hf => ?_, fun c hc => ?_⟩
  · have hw := h.2.2.1 f hf
    refine ⟨hw.1, am_okV_x hx hw.2.1, ?_, hw.2.2.2⟩
    rw [hal]
    exact Nat.lt_succ_of_lt hw.2.2.1
  · have hc' : c < am_nc s + 1 := hc
    by_cases q : c = am_nc s
    · subst q
      refine ⟨⟨p, hp, ?_⟩, ?_, ?_⟩
      · show upd (am_cPos s) (am_nc s) (nI p) (am_nc s) = nI p
        rw [am_up_s]
      · show am_okE (am_nk p e s) (upd (am_cEnv s) (am_nc s) e (am_nc s))
        rw [am_up_s]
        exact am_okE_x hx he
      · rw [hal]
        show am_un (am_xc s) (am_nc s) (am_al s) (am_nc s) < am_al s + 1
        rw [am_un_s]
        exact Nat.lt_succ_self _
    · have hc2 : c < am_nc s := by omega
      have hw := h.2.2.2 c hc2
      refine ⟨?_, ?_, ?_⟩
      · show ∃ p', p' < n ∧ upd (am_cPos s) (am_nc s) (nI p) c = nI p'
        rw [am_up_n q]
        exact hw.1
      · show am_okE (am_nk p e s) (upd (am_cEnv s) (am_nc s) e c)
        rw [am_up_n q]
        exact am_okE_x hx hw.2.1
      · rw [hal]
        show am_un (am_xc s) (am_nc s) (am_al s) c < am_al s + 1
        rw [am_un_n q]
        exact Nat.lt_succ_of_lt hw.2.2
theorem am_WF_f (h : am_WF n mC mA s) (hA : mA ≤ 16) {f : Nat} (hf : f < am_nf s) : f < 16 := by
  have h1 := h.2.1
  unfold am_al at h1
  omega
theorem am_WF_c (h : am_WF n mC mA s) (hA : mA ≤ 16) {c : Nat} (hc : c < am_nc s) : c < 16 := by
  have h1 := h.2.1
  unfold am_al at h1
  omega
theorem am_lk_ok {v : Int32} (h : am_WF n mC mA s) (hA : mA ≤ 16) : ∀ k e, am_okE s e → am_okE s (am_lk s v k e) := by
  intro k
  induction k with
  | zero => intro e _; exact Or.inl rfl
  | succ k ih =>
    intro e he
    rw [am_lk_s]
    rcases he with he | ⟨f, hf, he⟩
    · rw [he, if_pos (by decide)]
      exact Or.inl rfl
    · have hb : f < 2 ^ 31 := by have := am_WF_f h hA hf; omega
      rw [he, if_neg (nI_pos hb), nI_clamp hb]
      by_cases q : am_fVar s f = v
      · rw [if_pos q]
        exact Or.inr ⟨f, hf, rfl⟩
      · rw [if_neg q]
        apply ih
        rcases (h.2.2.1 f hf).1 with g | ⟨g, hg, eg⟩
        · exact Or.inl g
        · exact Or.inr ⟨g, by omega, eg⟩
theorem am_lk_st {v : Int32} (h : am_WF n mC mA s) (hA : mA ≤ 16) : ∀ k f, f < k → f < am_nf s → am_lk s v (k + 1) (nI f) = am_lk s v k (nI f) := by
  intro k
  induction k with
  | zero => intro f hk; omega
  | succ k ih =>
    intro f hk hf
    have hb : f < 2 ^ 31 := by have := am_WF_f h hA hf; omega
    rw [am_lk_s s v (k + 1) (nI f), am_lk_s s v k (nI f), if_neg (nI_pos hb), if_neg (nI_pos hb), nI_clamp hb]
    by_cases q : am_fVar s f = v
    · rw [if_pos q, if_pos q]
    · rw [if_neg q, if_neg q]
      rcases (h.2.2.1 f hf).1 with g | ⟨g, hg, eg⟩
      · rw [g, am_lk_m, am_lk_m]
      · rw [eg]
        exact ih g (by omega) (by omega)
theorem am_lk_16 {v e : Int32} (h : am_WF n mC mA s) (hA : mA ≤ 16) (he : am_okE s e) : am_lk s v 17 e = am_lk s v 16 e := by
  rcases he with he | ⟨f, hf, he⟩
  · rw [he, am_lk_m, am_lk_m]
  · rw [he]
    exact am_lk_st h hA 16 f (am_WF_f h hA hf) hf
end
/-- an evaluation that began at s: its end is a good store that extends s -/
def am_G (n mC mA : Nat) (s : am_S) (r : am_R) : Prop := am_WF n mC mA r.2.2.2 ∧ am_ext s r.2.2.2 ∧ (r.1 = true → am_okV r.2.2.2 r.2.1 r.2.2.1)
section
variable {n mC mA : Nat}
theorem am_G_fl {s : am_S} (h : am_WF n mC mA s) : am_G n mC mA s (am_fl s) := ⟨h, am_ext_r s, fun z => absurd z (by show ¬ (false = true); decide)⟩
theorem am_G_ok {s t : am_S} {k v : Int32} (h : am_WF n mC mA t) (hx : am_ext s t) (hv : am_okV t k v) : am_G n mC mA s (true, k, v, t) := ⟨h, hx, fun _ => hv⟩
theorem am_G_x {s t : am_S} {r : am_R} (hx : am_ext s t) (g : am_G n mC mA t r) : am_G n mC mA s r := ⟨g.1, am_ext_t hx g.2.1, g.2.2⟩
theorem am_G_bd {s : am_S} {r : am_R} {f : Int32 → Int32 → am_S → am_R} (g : am_G n mC mA s r) (hf : ∀ k v s1, am_WF n mC mA s1 → am_ext s s1 → am_okV s1 k v → am_G n mC mA s1 (f k v s1)) : am_G n mC mA s (am_bd r f) := by
  cases h : r.1 with
  | true =>
    rw [am_bd_t h]
    exact am_G_x g.2.1 (hf _ _ _ g.1 g.2.1 (g.2.2 h))
  | false =>
    rw [am_bd_f h]
    exact am_G_x g.2.1 (am_G_fl g.1)
theorem am_G_rd {s : am_S} {f : Int32} (h : am_WF n mC mA s) (hA : mA ≤ 16) (hf : am_okE s f) : am_G n mC mA s (am_rd f s) := by
  unfold am_rd
  rcases hf with hf | ⟨g, hg, hf⟩
  · rw [hf, if_pos (by decide)]
    exact am_G_fl h
  · have hb : g < 2 ^ 31 := by have := am_WF_f h hA hg; omega
    rw [hf, if_neg (nI_pos hb), nI_clamp hb]
    exact am_G_ok h (am_ext_r s) (h.2.2.1 g hg).2.1
theorem am_G_wr {s : am_S} {f k v : Int32} (h : am_WF n mC mA s) (hA : mA ≤ 16) (hf : am_okE s f) (hv : am_okV s k v) : am_G n mC mA s (am_wr f k v s) := by
  unfold am_wr
  rcases hf with hf | ⟨g, hg, hf⟩
  · rw [hf, if_pos (by decide)]
    exact am_G_fl h
  · have hb : g < 2 ^ 31 := by have := am_WF_f h hA hg; omega
    rw [hf, if_neg (nI_pos hb), nI_clamp hb]
    exact am_G_ok (am_WF_sl h hv) (am_ext_sl g k v s) (am_okV_x (am_ext_sl g k v s) hv)
end
theorem am_okE_nf (x e k v : Int32) (s : am_S) : am_okE (am_nl x e k v s) (nI (am_nf s)) := Or.inr ⟨am_nf s, Nat.lt_succ_self _, rfl⟩
theorem am_ev_G {n : Nat} {tk ta : Nat → Int32} {mC mA : Nat} {b : Nat → Bool} (hA : mA ≤ 16) (hn : n ≤ 32) : ∀ F p e s, am_WF n mC mA s → am_okE s e → am_G n mC mA s (am_ev n tk ta mC mA b F p e s) := by
  intro F
  induction F with
  | zero => intro p e s h _; exact am_G_fl h
  | succ F ih =>
    intro p e s h he
    rw [am_ev_s]
    refine am_cases (P := am_G n mC mA s) ?_ ?_ ?_ ?_ ?_ ?_ ?_ ?_ ?_ ?_ ?_ ?_ ?_
    · intro _; exact am_G_fl h
    · intro _ _; exact am_G_ok h (am_ext_r s) (Or.inl rfl)
    · intro _ _; exact am_G_rd h hA (am_lk_ok h hA _ _ he)
    · intro _ _
      refine am_G_bd (ih _ _ _ h he) (fun k v s1 w x _ => ?_)
      unfold am_c7
      split
      · exact ih _ _ _ w (am_okE_x x he)
      · exact am_G_fl w
    · intro _ _
      unfold am_e8
      split
      · exact am_G_fl h
      · rename_i q
        exact am_G_x (am_ext_tick s) (ih _ _ _ (am_WF_tick h (Nat.lt_of_not_le q)) (am_okE_x (am_ext_tick s) he))
    · intro _ _; exact am_G_fl h
    · intro _ _
      refine am_G_bd (ih _ _ _ h he) (fun k v s1 w x _ => ?_)
      unfold am_c10
      split
      · exact ih _ _ _ w (am_okE_x x he)
      · exact am_G_fl w
    · intro _ _
      refine am_G_bd (ih _ _ _ h he) (fun k v s1 w x hv => ?_)
      unfold am_c11
      split
      · exact am_G_fl w
      · rename_i q
        exact am_G_x (am_ext_nl _ _ _ _ s1) (ih _ _ _ (am_WF_nl w (Nat.lt_of_not_le q) (am_okE_x x he) hv) (am_okE_nf _ _ _ _ s1))
    · intro hp _
      unfold am_e12
      split
      · exact am_G_fl h
      · rename_i q
        exact am_G_ok (am_WF_nk h hp (Nat.lt_of_not_le q) he) (am_ext_nk p e s) (Or.inr ⟨rfl, am_nc s, Nat.lt_succ_self _, rfl⟩)
    · intro _ _
      refine am_G_bd (ih _ _ _ h he) (fun k v s1 w x hv => ?_)
      refine am_G_bd (ih _ _ _ w (am_okE_x x he)) (fun k2 v2 s2 w2 x2 hv2 => ?_)
      unfold am_ap
      split
      · rename_i hk
        split
        · exact am_G_fl w2
        · rename_i q
          rcases am_okV_x x2 hv with hv' | ⟨_, c, hc, hv'⟩
          · rw [hv'] at hk
            exact absurd hk (by decide)
          · have hb : c < 2 ^ 31 := by have := am_WF_c w2 hA hc; omega
            rw [hv', nI_clamp hb]
            exact am_G_x (am_ext_nl _ _ _ _ s2) (ih _ _ _ (am_WF_nl w2 (Nat.lt_of_not_le q) (w2.2.2.2 c hc).2.1 hv2) (am_okE_nf _ _ _ _ s2))
      · exact am_G_fl w2
    · intro _ _
      refine am_G_bd (ih _ _ _ h he) (fun k v s1 w x hv => ?_)
      exact am_G_wr w hA (am_lk_ok w hA _ _ (am_okE_x x he)) hv
    · intro _ _
      refine am_G_bd (ih _ _ _ h he) (fun k v s1 w x _ => ?_)
      exact ih _ _ _ w (am_okE_x x he)
    · intro _ _
      refine am_G_bd (ih _ _ _ h he) (fun k v s1 w x _ => ?_)
      refine am_G_bd (ih _ _ _ w (am_okE_x x he)) (fun k2 v2 s2 w2 x2 _ => ?_)
      unfold am_ca
      split
      · exact am_G_ok w2 (am_ext_r s2) (Or.inl rfl)
      · exact am_G_fl w2
/-! choices grow; two vectors that agree below j lead to the same, up to choice j -/
def am_M (s : am_S) (r : am_R) : Prop := am_us s ≤ am_us r.2.2.2
theorem am_M_r {r : am_R} {f : Int32 → Int32 → am_S → am_R} (hf : ∀ k v s1, am_M s1 (f k v s1)) : am_us r.2.2.2 ≤ am_us (am_bd r f).2.2.2 := by
  cases h : r.1 with
  | true => rw [am_bd_t h]; exact hf _ _ _
  | false => rw [am_bd_f h]; exact Nat.le_refl _
theorem am_M_bd {s : am_S} {r : am_R} {f : Int32 → Int32 → am_S → am_R} (g : am_M s r) (hf : ∀ k v s1, am_M s1 (f k v s1)) : am_M s (am_bd r f) := Nat.le_trans g (am_M_r hf)
theorem am_M_fl (s : am_S) : am_M s (am_fl s) := Nat.le_refl _
section
variable {n : Nat} {tk ta : Nat → Int32} {mC mA : Nat} {E : Nat → Int32 → am_S → am_R} {p : Nat} {e : Int32}
theorem am_M_7 (hE : ∀ p e s, am_M s (E p e s)) (k v : Int32) (s : am_S) : am_M s (am_c7 n tk E p e k v s) := by
  unfold am_c7
  split
  · exact hE _ _ _
  · exact am_M_fl s
theorem am_M_10 (hE : ∀ p e s, am_M s (E p e s)) (k v : Int32) (s : am_S) : am_M s (am_c10 n tk E p e k v s) := by
  unfold am_c10
  split
  · exact hE _ _ _
  · exact am_M_fl s
theorem am_M_11 (hE : ∀ p e s, am_M s (E p e s)) (k v : Int32) (s : am_S) : am_M s (am_c11 n tk ta mA E p e k v s) := by
  unfold am_c11
  split
  · exact am_M_fl s
  · exact hE _ _ (am_nl (ta p) e k v s)
theorem am_M_ap (hE : ∀ p e s, am_M s (E p e s)) (k v k2 v2 : Int32) (s : am_S) : am_M s (am_ap ta mA E k v k2 v2 s) := by
  unfold am_ap
  split
  · split
    · exact am_M_fl s
    · exact hE _ _ (am_nl _ _ _ _ s)
  · exact am_M_fl s
theorem am_M_wr (f k v : Int32) (s : am_S) : am_M s (am_wr f k v s) := by
  unfold am_wr
  split
  · exact am_M_fl s
  · exact Nat.le_refl _
theorem am_M_rd (f : Int32) (s : am_S) : am_M s (am_rd f s) := by
  unfold am_rd
  split
  · exact am_M_fl s
  · exact Nat.le_refl _
theorem am_M_ca (c k v k2 v2 : Int32) (s : am_S) : am_M s (am_ca c k v k2 v2 s) := by
  unfold am_ca
  split
  · exact Nat.le_refl _
  · exact am_M_fl s
theorem am_M_13 (hE : ∀ p e s, am_M s (E p e s)) (k v : Int32) (s : am_S) : am_M s (am_c13 n tk ta mA E p e k v s) := am_M_bd (hE _ _ _) (fun k2 v2 s2 => am_M_ap hE k v k2 v2 s2)
theorem am_M_14 (k v : Int32) (s : am_S) : am_M s (am_c14 ta p e k v s) := am_M_wr _ k v s
theorem am_M_15 (hE : ∀ p e s, am_M s (E p e s)) (k v : Int32) (s : am_S) : am_M s (am_c15 n tk E p e k v s) := hE _ _ _
theorem am_M_2 (hE : ∀ p e s, am_M s (E p e s)) (k v : Int32) (s : am_S) : am_M s (am_c2 n tk E p e k v s) := am_M_bd (hE _ _ _) (fun k2 v2 s2 => am_M_ca _ k v k2 v2 s2)
end
theorem am_ev_M {n : Nat} {tk ta : Nat → Int32} {mC mA : Nat} {b : Nat → Bool} : ∀ F p e s, am_M s (am_ev n tk ta mC mA b F p e s) := by
  intro F
  induction F with
  | zero => intro p e s; exact am_M_fl s
  | succ F ih =>
    intro p e s
    rw [am_ev_s]
    refine am_cases (P := am_M s) ?_ ?_ ?_ ?_ ?_ ?_ ?_ ?_ ?_ ?_ ?_ ?_ ?_
    · intro _; exact am_M_fl s
    · intro _ _; exact Nat.le_refl _
    · intro _ _; exact am_M_rd _ s
    · intro _ _; exact am_M_bd (ih _ _ _) (fun k v s1 => am_M_7 ih k v s1)
    · intro _ _
      unfold am_e8
      split
      · exact am_M_fl s
      · exact Nat.le_trans (Nat.le_succ _) (ih _ _ (am_tick s))
    · intro _ _; exact am_M_fl s
    · intro _ _; exact am_M_bd (ih _ _ _) (fun k v s1 => am_M_10 ih k v s1)
    · intro _ _; exact am_M_bd (ih _ _ _) (fun k v s1 => am_M_11 ih k v s1)
    · intro _ _
      unfold am_e12
      split
      · exact am_M_fl s
      · exact Nat.le_refl _
    · intro _ _; exact am_M_bd (ih _ _ _) (fun k v s1 => am_M_13 ih k v s1)
    · intro _ _; exact am_M_bd (ih _ _ _) (fun k v s1 => am_M_14 k v s1)
    · intro _ _; exact am_M_bd (ih _ _ _) (fun k v s1 => am_M_15 ih k v s1)
    · intro _ _; exact am_M_bd (ih _ _ _) (fun k v s1 => am_M_2 ih k v s1)
def am_D (j : Nat) (r t : am_R) : Prop := (am_us r.2.2.2 ≤ j ∧ t = r) ∨ (j < am_us r.2.2.2 ∧ j < am_us t.2.2.2)
theorem am_D_r (j : Nat) (r : am_R) : am_D j r r := by
  by_cases h : am_us r.2.2.2 ≤ j
  · exact Or.inl ⟨h, rfl⟩
  · exact Or.inr ⟨Nat.lt_of_not_le h, Nat.lt_of_not_le h⟩
theorem am_D_bd {j : Nat} {r t : am_R} {f g : Int32 → Int32 → am_S → am_R} (h : am_D j r t) (hf : ∀ k v s1, am_D j (f k v s1) (g k v s1)) (mf : ∀ k v s1, am_M s1 (f k v s1)) (mg : ∀ k v s1, am_M s1 (g k v s1)) : am_D j (am_bd r f) (am_bd t g) := by
  rcases h with ⟨_, e⟩ | ⟨h, h'⟩
  · rw [e]
    cases hr : r.1 with
    | true => rw [am_bd_t hr, am_bd_t hr]; exact hf _ _ _
    | false => rw [am_bd_f hr, am_bd_f hr]; exact am_D_r j _
  · exact Or.inr ⟨Nat.lt_of_lt_of_le h (am_M_r mf), Nat.lt_of_lt_of_le h' (am_M_r mg)⟩
theorem am_cases2 {n : Nat} {tk ta : Nat → Int32} {mC mA : Nat} {b b2 : Nat → Bool} {E E2 : Nat → Int32 → am_S → am_R} {p : Nat} {e : Int32} {s : am_S} {P : am_R → am_R → Prop}
    (hs : ∀ r : am_R, P r r)
    (h7 : P (am_e7 n tk E p e s) (am_e7 n tk E2 p e s))
    (h8 : P (am_e8 n tk mC b E p e s) (am_e8 n tk mC b2 E2 p e s))
    (h10 : P (am_e10 n tk E p e s) (am_e10 n tk E2 p e s))
    (h11 : P (am_e11 n tk ta mA E p e s) (am_e11 n tk ta mA E2 p e s))
    (h13 : P (am_e13 n tk ta mA E p e s) (am_e13 n tk ta mA E2 p e s))
    (h14 : P (am_e14 ta E p e s) (am_e14 ta E2 p e s))
    (h15 : P (am_e15 n tk E p e s) (am_e15 n tk E2 p e s))
    (h2 : P (am_e2 n tk E p e s) (am_e2 n tk E2 p e s)) :
    P (am_stp n tk ta mC mA b E p e s) (am_stp n tk ta mC mA b2 E2 p e s) := by
  unfold am_stp
  by_cases q : n ≤ p
  · rw [if_pos q, if_pos q]; exact hs _
  rw [if_neg q, if_neg q]
  by_cases k0 : tk p = 0
  · rw [if_pos k0, if_pos k0]; exact hs _
  rw [if_neg k0, if_neg k0]
  by_cases k1 : tk p = 1
  · rw [if_pos k1, if_pos k1]; exact hs _
  rw [if_neg k1, if_neg k1]
  by_cases k7 : tk p = 7
  · rw [if_pos k7, if_pos k7]; exact h7
  rw [if_neg k7, if_neg k7]
  by_cases k8 : tk p = 8
  · rw [if_pos k8, if_pos k8]; exact h8
  rw [if_neg k8, if_neg k8]
  by_cases k9 : tk p = 9
  · rw [if_pos k9, if_pos k9]; exact hs _
  rw [if_neg k9, if_neg k9]
  by_cases k10 : tk p = 10
  · rw [if_pos k10, if_pos k10]; exact h10
  rw [if_neg k10, if_neg k10]
  by_cases k11 : tk p = 11
  · rw [if_pos k11, if_pos k11]; exact h11
  rw [if_neg k11, if_neg k11]
  by_cases k12 : tk p = 12
  · rw [if_pos k12, if_pos k12]; exact hs _
  rw [if_neg k12, if_neg k12]
  by_cases k13 : tk p = 13
  · rw [if_pos k13, if_pos k13]; exact h13
  rw [if_neg k13, if_neg k13]
  by_cases k14 : tk p = 14
  · rw [if_pos k14, if_pos k14]; exact h14
  rw [if_neg k14, if_neg k14]
  by_cases k15 : tk p = 15
  · rw [if_pos k15, if_pos k15]; exact h15
  rw [if_neg k15, if_neg k15]
  exact h2
theorem am_ev_D {n : Nat} {tk ta : Nat → Int32} {mC mA : Nat} {b b2 : Nat → Bool} {j : Nat} (hb : ∀ i, i < j → b i = b2 i) : ∀ F p e s, am_D j (am_ev n tk ta mC mA b F p e s) (am_ev n tk ta mC mA b2 F p e s) := by
  intro F
  induction F with
  | zero => intro p e s; exact am_D_r j _
  | succ F ih =>
    intro p e s
    have m1 := am_ev_M (n := n) (tk := tk) (ta := ta) (mC := mC) (mA := mA) (b := b) F
    have m2 := am_ev_M (n := n) (tk := tk) (ta := ta) (mC := mC) (mA := mA) (b := b2) F
    rw [am_ev_s, am_ev_s]
    refine am_cases2 (P := am_D j) (am_D_r j) ?_ ?_ ?_ ?_ ?_ ?_ ?_ ?_
    · refine am_D_bd (ih _ _ _) (fun k v s1 => ?_) (fun k v s1 => am_M_7 m1 k v s1) (fun k v s1 => am_M_7 m2 k v s1)
      unfold am_c7
      by_cases k1 : k = 1
      · rw [if_pos k1, if_pos k1]
        exact ih _ _ _
      · rw [if_neg k1, if_neg k1]
        exact am_D_r j _
    · unfold am_e8
      by_cases q : mC ≤ am_us s
      · rw [if_pos q, if_pos q]
        exact am_D_r j _
      · rw [if_neg q, if_neg q]
        by_cases u : am_us s < j
        · rw [hb _ u]
          exact ih _ _ _
        · have h1 := m1 (am_q8 n tk p (b (am_us s))) e (am_tick s)
          have h2 := m2 (am_q8 n tk p (b2 (am_us s))) e (am_tick s)
          have h3 : am_us (am_tick s) = am_us s + 1 := rfl
          unfold am_M at h1 h2
          rw [h3] at h1 h2
          exact Or.inr ⟨by omega, by omega⟩
    · refine am_D_bd (ih _ _ _) (fun k v s1 => ?_) (fun k v s1 => am_M_10 m1 k v s1) (fun k v s1 => am_M_10 m2 k v s1)
      unfold am_c10
      by_cases k1 : k = 1 ∧ ¬ v = 0
      · rw [if_pos k1, if_pos k1]
        exact ih _ _ _
      · rw [if_neg k1, if_neg k1]
        exact am_D_r j _
    · refine am_D_bd (ih _ _ _) (fun k v s1 => ?_) (fun k v s1 => am_M_11 m1 k v s1) (fun k v s1 => am_M_11 m2 k v s1)
      unfold am_c11
      by_cases q : mA ≤ am_al s1
      · rw [if_pos q, if_pos q]
        exact am_D_r j _
      · rw [if_neg q, if_neg q]
        exact ih _ _ _
    · refine am_D_bd (ih _ _ _) (fun k v s1 => ?_) (fun k v s1 => am_M_13 m1 k v s1) (fun k v s1 => am_M_13 m2 k v s1)
      refine am_D_bd (ih _ _ _) (fun k2 v2 s2 => ?_) (fun k2 v2 s2 => am_M_ap m1 k v k2 v2 s2) (fun k2 v2 s2 => am_M_ap m2 k v k2 v2 s2)
      unfold am_ap
      by_cases k1 : k = 2
      · rw [if_pos k1, if_pos k1]
        by_cases q : mA ≤ am_al s2
        · rw [if_pos q, if_pos q]
          exact am_D_r j _
        · rw [if_neg q, if_neg q]
          exact ih _ _ _
      · rw [if_neg k1, if_neg k1]
        exact am_D_r j _
    · exact am_D_bd (ih _ _ _) (fun k v s1 => am_D_r j _) (fun k v s1 => am_M_14 k v s1) (fun k v s1 => am_M_14 k v s1)
    · exact am_D_bd (ih _ _ _) (fun k v s1 => ih _ _ _) (fun k v s1 => am_M_15 m1 k v s1) (fun k v s1 => am_M_15 m2 k v s1)
    · refine am_D_bd (ih _ _ _) (fun k v s1 => ?_) (fun k v s1 => am_M_2 m1 k v s1) (fun k v s1 => am_M_2 m2 k v s1)
      exact am_D_bd (ih _ _ _) (fun k2 v2 s2 => am_D_r j _) (fun k2 v2 s2 => am_M_ca _ k v k2 v2 s2) (fun k2 v2 s2 => am_M_ca _ k v k2 v2 s2)
/-- a path's whole run -/
def am_run (n : Nat) (tk ta : Nat → Int32) (mC mA : Nat) (b : Nat → Bool) : am_R := am_ev n tk ta mC mA b 545 0 (-1) am_s0
theorem am_reach {n : Nat} {tk ta : Nat → Int32} {mC mA : Nat} {b b2 : Nat → Bool} {q : Nat} (hb : ∀ i, i < q → b i = b2 i) (h : q < am_us (am_run n tk ta mC mA b).2.2.2) : q < am_us (am_run n tk ta mC mA b2).2.2.2 := by
  rcases am_ev_D (n := n) (tk := tk) (ta := ta) (mC := mC) (mA := mA) hb 545 0 (-1) am_s0 with ⟨h1, _⟩ | ⟨_, h2⟩
  · unfold am_run at h
    omega
  · exact h2
theorem am_run_G {n : Nat} {tk ta : Nat → Int32} {mC mA : Nat} (b : Nat → Bool) (hA : mA ≤ 16) (hn : n ≤ 32) : am_G n mC mA am_s0 (am_run n tk ta mC mA b) := am_ev_G hA hn 545 0 (-1) am_s0 (am_WF_0 n mC mA) (Or.inl rfl)
