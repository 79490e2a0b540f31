/-- the machine does what the evaluation says -/
theorem am_sim {n : Nat} {tk ta : Nat → Int32} {mC mA : Nat} {b : Nat → Bool} {L : Nat → List am_F → Int32 → Int32 → am_S → Prop} {Q : am_S → Prop} (I : am_I n tk ta mC mA b L Q) (hA : mA ≤ 16) (hn : n ≤ 32) (hK : ∀ i, i < n → am_kd (tk i)) :
    ∀ (F p : Nat) (e : Int32) (s : am_S) (stk : List am_F) (rk rv : Int32) (a : Nat), p ≤ n → am_WF n mC mA s → am_okE s e → am_nz stk → stk.length + (am_eN tk n p - p) + 32 * (16 - am_al s) ≤ 544 → (am_eN tk n p - p) + 32 * (16 - am_al s) < F → am_K L Q stk a (am_ev n tk ta mC mA b F p e s) → L (a + 4 * (am_eN tk n p - p) + 1) ((p, e, 0, 0, 0) :: stk) rk rv s := by
  obtain ⟨rMono, rOut, rNum, rVar, rVarF, rPush, rAmb, rAmbF, rFail, rLam, rLamF, rHold, rCalc, rCalcF, rIf, rIfF, rReq, rReqF, rLet, rLetF, rSet, rSetF, rSeq, rApp, rAppF, rPop⟩ := I
  intro F
  induction F with
  | zero => intro p e s stk rk rv a _ _ _ _ _ hF; exact absurd hF (Nat.not_lt_zero _)
  | succ F ih =>
    intro p e s stk rk rv a hp0 w he hz hl hF
    rw [am_ev_s]
    refine am_cases (P := fun r => am_K L Q stk a r → L (a + 4 * (am_eN tk n p - p) + 1) ((p, e, 0, 0, 0) :: stk) rk rv s) ?_ ?_ ?_ ?_ ?_ ?_ ?_ ?_ ?_ ?_ ?_ ?_ ?_
    · intro hp H
      have ep : p = n := by omega
      rw [ep]
      exact rMono _ _ _ _ _ _ (by omega) (rOut a e stk rk rv s w he (by omega) (am_K_q H))
    · intro hp hk H
      have hg := am_eN_gt (tk := tk) hp
      exact rMono _ _ _ _ _ _ (by omega) (rNum a p e stk rk rv s ⟨w, he, hp, by omega, hz⟩ hk (am_K_o H))
    · intro hp hk H
      have hg := am_eN_gt (tk := tk) hp
      have hH : am_H n mC mA s e p stk := ⟨w, he, hp, by omega, hz⟩
      unfold am_rd at H
      rcases am_lk_ok (v := ta p) w hA 17 e he with hf | ⟨f, hf, ef⟩
      · rw [hf, if_pos (by decide)] at H
        exact rMono _ _ _ _ _ _ (by omega) (rVarF a p e stk rk rv s hH hk hf (am_K_q H))
      · have hb : f < 2 ^ 31 := by have := am_WF_f w hA hf; omega
        rw [ef, if_neg (nI_pos hb), nI_clamp hb] at H
        exact rMono _ _ _ _ _ _ (by omega) (rVar a p e stk rk rv s f hH hk hf ef (am_K_o H))
    · intro hp hk H
      have hg := am_eN_gt (tk := tk) hp
      have hH : am_H n mC mA s e p stk := ⟨w, he, hp, by omega, hz⟩
      have ea := am_eN_3 (tk := tk) hp (by rw [hk]; decide)
      have b1 := am_eN_ge tk n (p + 1)
      have c1 : am_eN tk n (p + 1) ≤ n := am_eN_le hp
      have b2 := am_eN_ge tk n (am_eN tk n (p + 1))
      have b3 := am_eN_ge tk n (am_eN tk n (am_eN tk n (p + 1)))
      refine rMono _ _ _ _ _ _ ?_ (rPush _ p e stk rk rv s hH (Or.inl hk) (ih (p + 1) e s ((p, e, 1, 0, 0) :: stk) rk rv (a + 4 * (am_eN tk n p - am_eN tk n (p + 1)) + 3) hp w he ⟨by decide, hz⟩ ?_ ?_ (am_K_bd (am_ev_G hA hn F (p + 1) e s w he) H (fun k v s1 w1 x1 v1 H1 => ?_))))
      · omega
      · rw [List.length_cons]; omega
      · omega
      · have hal := am_ext_al x1
        have hH1 : am_H n mC mA s1 e p stk := ⟨w1, am_okE_x x1 he, hp, hH.2.2.2⟩
        unfold am_c7 at H1
        by_cases k1 : k = 1
        · subst k1
          rw [if_pos rfl] at H1
          obtain ⟨d1, d2, d3, d4⟩ := am_q7_b (tk := tk) hp v
          refine rMono _ _ _ _ _ _ ?_ (rIf _ p e stk v s1 hH1 hk (ih (am_q7 n tk p v) e s1 ((p, e, 2, 0, 0) :: stk) 1 v (a + 1) d2 w1 (am_okE_x x1 he) ⟨by decide, hz⟩ ?_ ?_ (am_K_pop (am_ev_G hA hn F (am_q7 n tk p v) e s1 w1 (am_okE_x x1 he)) H1 (fun k' v' s2 w2 x2 v2 h2 => rPop a p e stk 2 0 0 k' v' s2 ⟨w2, am_okE_x x2 (am_okE_x x1 he), hp, hH.2.2.2⟩ v2 (Or.inl ⟨hk, rfl⟩) h2))))
          · omega
          · rw [List.length_cons]; omega
          · omega
        · rw [if_neg k1] at H1
          exact rMono _ _ _ _ _ _ (by omega) (rIfF a p e stk k v s1 hH1 hk v1 k1 (am_K_q H1))
    · intro hp hk H
      have hg := am_eN_gt (tk := tk) hp
      have hH : am_H n mC mA s e p stk := ⟨w, he, hp, by omega, hz⟩
      have ea := am_eN_2 (tk := tk) hp (by rw [hk]; decide)
      unfold am_e8 at H
      by_cases u : mC ≤ am_us s
      · rw [if_pos u] at H
        exact rMono _ _ _ _ _ _ (by omega) (rAmbF a p e stk rk rv s hH hk u (am_K_q H))
      · rw [if_neg u] at H
        have u' : am_us s < mC := Nat.lt_of_not_le u
        have wt := am_WF_tick w u'
        have xt := am_ext_tick s
        have at1 := am_al_tick s
        obtain ⟨d1, d2, d3, d4⟩ := am_q8_b (tk := tk) hp (b (am_us s))
        refine rMono _ _ _ _ _ _ ?_ (rAmb _ p e stk rk rv s hH hk u' (ih (am_q8 n tk p (b (am_us s))) e (am_tick s) ((p, e, 1, 0, 0) :: stk) rk rv (a + 1) d2 wt (am_okE_x xt he) ⟨by decide, hz⟩ ?_ ?_ (am_K_pop (am_ev_G hA hn F (am_q8 n tk p (b (am_us s))) e (am_tick s) wt (am_okE_x xt he)) H (fun k' v' s2 w2 x2 v2 h2 => rPop a p e stk 1 0 0 k' v' s2 ⟨w2, am_okE_x x2 (am_okE_x xt he), hp, hH.2.2.2⟩ v2 (Or.inr (Or.inl ⟨hk, rfl⟩)) h2))))
        · omega
        · rw [List.length_cons]; omega
        · omega
    · intro hp hk H
      have hg := am_eN_gt (tk := tk) hp
      exact rMono _ _ _ _ _ _ (by omega) (rFail a p e stk rk rv s ⟨w, he, hp, by omega, hz⟩ hk (am_K_q H))
    · intro hp hk H
      have hg := am_eN_gt (tk := tk) hp
      have hH : am_H n mC mA s e p stk := ⟨w, he, hp, by omega, hz⟩
      have ea := am_eN_2 (tk := tk) hp (by rw [hk]; decide)
      have b1 := am_eN_ge tk n (p + 1)
      have c1 : am_eN tk n (p + 1) ≤ n := am_eN_le hp
      have b2 := am_eN_ge tk n (am_eN tk n (p + 1))
      refine rMono _ _ _ _ _ _ ?_ (rPush _ p e stk rk rv s hH (Or.inr (Or.inl hk)) (ih (p + 1) e s ((p, e, 1, 0, 0) :: stk) rk rv (a + 4 * (am_eN tk n p - am_eN tk n (p + 1)) + 3) hp w he ⟨by decide, hz⟩ ?_ ?_ (am_K_bd (am_ev_G hA hn F (p + 1) e s w he) H (fun k v s1 w1 x1 v1 H1 => ?_))))
      · omega
      · rw [List.length_cons]; omega
      · omega
      · have hal := am_ext_al x1
        have hH1 : am_H n mC mA s1 e p stk := ⟨w1, am_okE_x x1 he, hp, hH.2.2.2⟩
        unfold am_c10 at H1
        by_cases k1 : k = 1 ∧ ¬ v = 0
        · rw [if_pos k1] at H1
          obtain ⟨k2, k3⟩ := k1
          subst k2
          refine rMono _ _ _ _ _ _ ?_ (rReq _ p e stk v s1 hH1 hk k3 (ih (am_eN tk n (p + 1)) e s1 ((p, e, 2, 0, 0) :: stk) 1 v (a + 1) c1 w1 (am_okE_x x1 he) ⟨by decide, hz⟩ ?_ ?_ (am_K_pop (am_ev_G hA hn F (am_eN tk n (p + 1)) e s1 w1 (am_okE_x x1 he)) H1 (fun k' v' s2 w2 x2 v2 h2 => rPop a p e stk 2 0 0 k' v' s2 ⟨w2, am_okE_x x2 (am_okE_x x1 he), hp, hH.2.2.2⟩ v2 (Or.inr (Or.inr (Or.inl ⟨hk, rfl⟩))) h2))))
          · omega
          · rw [List.length_cons]; omega
          · omega
        · rw [if_neg k1] at H1
          exact rMono _ _ _ _ _ _ (by omega) (rReqF a p e stk k v s1 hH1 hk v1 k1 (am_K_q H1))
    · intro hp hk H
      have hg := am_eN_gt (tk := tk) hp
      have hH : am_H n mC mA s e p stk := ⟨w, he, hp, by omega, hz⟩
      have ea := am_eN_2 (tk := tk) hp (by rw [hk]; decide)
      have b1 := am_eN_ge tk n (p + 1)
      have c1 : am_eN tk n (p + 1) ≤ n := am_eN_le hp
      have b2 := am_eN_ge tk n (am_eN tk n (p + 1))
      refine rMono _ _ _ _ _ _ ?_ (rPush _ p e stk rk rv s hH (Or.inr (Or.inr (Or.inl hk))) (ih (p + 1) e s ((p, e, 1, 0, 0) :: stk) rk rv (a + 4 * (am_eN tk n p - am_eN tk n (p + 1)) + 3) hp w he ⟨by decide, hz⟩ ?_ ?_ (am_K_bd (am_ev_G hA hn F (p + 1) e s w he) H (fun k v s1 w1 x1 v1 H1 => ?_))))
      · omega
      · rw [List.length_cons]; omega
      · omega
      · have hal := am_ext_al x1
        have hH1 : am_H n mC mA s1 e p stk := ⟨w1, am_okE_x x1 he, hp, hH.2.2.2⟩
        unfold am_c11 at H1
        by_cases k1 : mA ≤ am_al s1
        · rw [if_pos k1] at H1
          exact rMono _ _ _ _ _ _ (by omega) (rLetF a p e stk k v s1 hH1 hk v1 k1 (am_K_q H1))
        · rw [if_neg k1] at H1
          have k2 : am_al s1 < mA := Nat.lt_of_not_le k1
          have wn : am_WF n mC mA (am_nl (ta p) e k v s1) := am_WF_nl w1 k2 (am_okE_x x1 he) v1
          have on := am_okE_nf (ta p) e k v s1
          have xn := am_ext_nl (ta p) e k v s1
          have an := am_al_nl (ta p) e k v s1
          refine rMono _ _ _ _ _ _ ?_ (rLet _ p e stk k v s1 hH1 hk v1 k2 (ih (am_eN tk n (p + 1)) (nI (am_nf s1)) (am_nl (ta p) e k v s1) ((p, e, 2, 0, 0) :: stk) k v (a + 1) c1 wn on ⟨by decide, hz⟩ ?_ ?_ (am_K_pop (am_ev_G hA hn F (am_eN tk n (p + 1)) (nI (am_nf s1)) (am_nl (ta p) e k v s1) wn on) H1 (fun k' v' s2 w2 x2 v2 h2 => rPop a p e stk 2 0 0 k' v' s2 ⟨w2, am_okE_x x2 (am_okE_x xn (am_okE_x x1 he)), hp, hH.2.2.2⟩ v2 (Or.inr (Or.inr (Or.inr (Or.inl ⟨hk, rfl⟩)))) h2))))
          · omega
          · rw [List.length_cons]; omega
          · omega
    · intro hp hk H
      have hg := am_eN_gt (tk := tk) hp
      have hH : am_H n mC mA s e p stk := ⟨w, he, hp, by omega, hz⟩
      unfold am_e12 at H
      by_cases k1 : mA ≤ am_al s
      · rw [if_pos k1] at H
        exact rMono _ _ _ _ _ _ (by omega) (rLamF a p e stk rk rv s hH hk k1 (am_K_q H))
      · rw [if_neg k1] at H
        exact rMono _ _ _ _ _ _ (by omega) (rLam a p e stk rk rv s hH hk (Nat.lt_of_not_le k1) (am_K_o H))
    · intro hp hk H
      have hg := am_eN_gt (tk := tk) hp
      have hH : am_H n mC mA s e p stk := ⟨w, he, hp, by omega, hz⟩
      have ea := am_eN_2 (tk := tk) hp (by rw [hk]; decide)
      have b1 := am_eN_ge tk n (p + 1)
      have c1 : am_eN tk n (p + 1) ≤ n := am_eN_le hp
      have b2 := am_eN_ge tk n (am_eN tk n (p + 1))
      refine rMono _ _ _ _ _ _ ?_ (rPush _ p e stk rk rv s hH (Or.inr (Or.inr (Or.inr (Or.inl hk)))) (ih (p + 1) e s ((p, e, 1, 0, 0) :: stk) rk rv (a + 4 * (am_eN tk n p - am_eN tk n (p + 1)) + 3) hp w he ⟨by decide, hz⟩ ?_ ?_ (am_K_bd (am_ev_G hA hn F (p + 1) e s w he) H (fun k v s1 w1 x1 v1 H1 => ?_))))
      · omega
      · rw [List.length_cons]; omega
      · omega
      · have hal := am_ext_al x1
        have hH1 : am_H n mC mA s1 e p stk := ⟨w1, am_okE_x x1 he, hp, hH.2.2.2⟩
        refine rMono _ _ _ _ _ _ ?_ (rHold _ p e stk k v s1 hH1 v1 (Or.inl hk) (ih (am_eN tk n (p + 1)) e s1 ((p, e, 2, k, v) :: stk) k v (a + 1) c1 w1 (am_okE_x x1 he) ⟨by decide, hz⟩ ?_ ?_ (am_K_bd (am_ev_G hA hn F (am_eN tk n (p + 1)) e s1 w1 (am_okE_x x1 he)) H1 (fun k2 v2 s2 w2 x2 o2 H2 => ?_))))
        · omega
        · rw [List.length_cons]; omega
        · omega
        · have hal2 := am_ext_al x2
          have hH2 : am_H n mC mA s2 e p stk := ⟨w2, am_okE_x x2 (am_okE_x x1 he), hp, hH.2.2.2⟩
          unfold am_ap at H2
          by_cases k1 : k = 2
          · rw [if_pos k1] at H2
            by_cases q : mA ≤ am_al s2
            · rw [if_pos q] at H2
              exact rAppF a p e stk k v k2 v2 s2 hH2 hk (am_okV_x x2 v1) o2 (Or.inr q) (am_K_q H2)
            · rw [if_neg q] at H2
              have q' : am_al s2 < mA := Nat.lt_of_not_le q
              subst k1
              rcases am_okV_x x2 v1 with hv | ⟨_, c, hc, hv⟩
              · exact absurd hv (by decide)
              · have hcb : c < 2 ^ 31 := by have := am_WF_c w2 hA hc; omega
                obtain ⟨⟨lp, hlp, elp⟩, oc, _⟩ := w2.2.2.2 c hc
                have hlb : lp < 2 ^ 31 := by omega
                subst hv
                rw [nI_clamp hcb, elp, nI_clamp hlb] at H2
                have wn : am_WF n mC mA (am_nl (ta lp) (am_cEnv s2 c) k2 v2 s2) := am_WF_nl w2 q' oc o2
                have on := am_okE_nf (ta lp) (am_cEnv s2 c) k2 v2 s2
                have xn := am_ext_nl (ta lp) (am_cEnv s2 c) k2 v2 s2
                have an := am_al_nl (ta lp) (am_cEnv s2 c) k2 v2 s2
                have cb : am_eN tk n (lp + 1) ≤ n := am_eN_le hlp
                refine rApp (a + 1) p e stk k2 v2 s2 c lp hH2 hk o2 hc q' hlp elp (rMono _ _ _ _ _ _ ?_ (ih (lp + 1) (nI (am_nf s2)) (am_nl (ta lp) (am_cEnv s2 c) k2 v2 s2) ((p, e, 3, 2, nI c) :: stk) k2 v2 (a + 1) hlp wn on ⟨by decide, hz⟩ ?_ ?_ (am_K_pop (am_ev_G hA hn F (lp + 1) (nI (am_nf s2)) (am_nl (ta lp) (am_cEnv s2 c) k2 v2 s2) wn on) H2 (fun k' v' s3 w3 x3 o3 h3 => rPop a p e stk 3 2 (nI c) k' v' s3 ⟨w3, am_okE_x x3 (am_okE_x xn (am_okE_x x2 (am_okE_x x1 he))), hp, hH.2.2.2⟩ o3 (Or.inr (Or.inr (Or.inr (Or.inr (Or.inl ⟨hk, rfl⟩))))) h3))))
                · omega
                · rw [List.length_cons]; omega
                · omega
          · rw [if_neg k1] at H2
            exact rAppF a p e stk k v k2 v2 s2 hH2 hk (am_okV_x x2 v1) o2 (Or.inl k1) (am_K_q H2)
    · intro hp hk H
      have hg := am_eN_gt (tk := tk) hp
      have hH : am_H n mC mA s e p stk := ⟨w, he, hp, by omega, hz⟩
      have ea := am_eN_1 (tk := tk) hp (by rw [hk]; decide)
      have b1 := am_eN_ge tk n (p + 1)
      refine rMono _ _ _ _ _ _ ?_ (rPush _ p e stk rk rv s hH (Or.inr (Or.inr (Or.inr (Or.inr (Or.inl hk))))) (ih (p + 1) e s ((p, e, 1, 0, 0) :: stk) rk rv (a + 1) hp w he ⟨by decide, hz⟩ ?_ ?_ (am_K_bd (am_ev_G hA hn F (p + 1) e s w he) H (fun k v s1 w1 x1 v1 H1 => ?_))))
      · omega
      · rw [List.length_cons]; omega
      · omega
      · have hH1 : am_H n mC mA s1 e p stk := ⟨w1, am_okE_x x1 he, hp, hH.2.2.2⟩
        unfold am_c14 am_wr at H1
        rcases am_lk_ok (v := ta p) w1 hA 17 e (am_okE_x x1 he) with hf | ⟨f, hf, ef⟩
        · rw [hf, if_pos (by decide)] at H1
          exact rSetF a p e stk k v s1 hH1 hk v1 hf (am_K_q H1)
        · have hb : f < 2 ^ 31 := by have := am_WF_f w1 hA hf; omega
          rw [ef, if_neg (nI_pos hb), nI_clamp hb] at H1
          exact rSet a p e stk k v s1 f hH1 hk v1 hf ef (am_K_o H1)
    · intro hp hk H
      have hg := am_eN_gt (tk := tk) hp
      have hH : am_H n mC mA s e p stk := ⟨w, he, hp, by omega, hz⟩
      have ea := am_eN_2 (tk := tk) hp (by rw [hk]; decide)
      have b1 := am_eN_ge tk n (p + 1)
      have c1 : am_eN tk n (p + 1) ≤ n := am_eN_le hp
      have b2 := am_eN_ge tk n (am_eN tk n (p + 1))
      refine rMono _ _ _ _ _ _ ?_ (rPush _ p e stk rk rv s hH (Or.inr (Or.inr (Or.inr (Or.inr (Or.inr (Or.inl hk)))))) (ih (p + 1) e s ((p, e, 1, 0, 0) :: stk) rk rv (a + 4 * (am_eN tk n p - am_eN tk n (p + 1)) + 3) hp w he ⟨by decide, hz⟩ ?_ ?_ (am_K_bd (am_ev_G hA hn F (p + 1) e s w he) H (fun k v s1 w1 x1 v1 H1 => ?_))))
      · omega
      · rw [List.length_cons]; omega
      · omega
      · have hal := am_ext_al x1
        have hH1 : am_H n mC mA s1 e p stk := ⟨w1, am_okE_x x1 he, hp, hH.2.2.2⟩
        unfold am_c15 at H1
        refine rMono _ _ _ _ _ _ ?_ (rSeq _ p e stk k v s1 hH1 hk v1 (ih (am_eN tk n (p + 1)) e s1 ((p, e, 2, 0, 0) :: stk) k v (a + 1) c1 w1 (am_okE_x x1 he) ⟨by decide, hz⟩ ?_ ?_ (am_K_pop (am_ev_G hA hn F (am_eN tk n (p + 1)) e s1 w1 (am_okE_x x1 he)) H1 (fun k' v' s2 w2 x2 v2 h2 => rPop a p e stk 2 0 0 k' v' s2 ⟨w2, am_okE_x x2 (am_okE_x x1 he), hp, hH.2.2.2⟩ v2 (Or.inr (Or.inr (Or.inr (Or.inr (Or.inr ⟨hk, rfl⟩))))) h2))))
        · omega
        · rw [List.length_cons]; omega
        · omega
    · intro hp hk0 H
      have hk := am_binOf (hK p hp) hk0
      have hg := am_eN_gt (tk := tk) hp
      have hH : am_H n mC mA s e p stk := ⟨w, he, hp, by omega, hz⟩
      have ea := am_eN_2 hp (am_ar_bin hk)
      have b1 := am_eN_ge tk n (p + 1)
      have c1 : am_eN tk n (p + 1) ≤ n := am_eN_le hp
      have b2 := am_eN_ge tk n (am_eN tk n (p + 1))
      refine rMono _ _ _ _ _ _ ?_ (rPush _ p e stk rk rv s hH (Or.inr (Or.inr (Or.inr (Or.inr (Or.inr (Or.inr hk)))))) (ih (p + 1) e s ((p, e, 1, 0, 0) :: stk) rk rv (a + 4 * (am_eN tk n p - am_eN tk n (p + 1)) + 3) hp w he ⟨by decide, hz⟩ ?_ ?_ (am_K_bd (am_ev_G hA hn F (p + 1) e s w he) H (fun k v s1 w1 x1 v1 H1 => ?_))))
      · omega
      · rw [List.length_cons]; omega
      · omega
      · have hal := am_ext_al x1
        have hH1 : am_H n mC mA s1 e p stk := ⟨w1, am_okE_x x1 he, hp, hH.2.2.2⟩
        refine rMono _ _ _ _ _ _ ?_ (rHold _ p e stk k v s1 hH1 v1 (Or.inr hk) (ih (am_eN tk n (p + 1)) e s1 ((p, e, 2, k, v) :: stk) k v (a + 1) c1 w1 (am_okE_x x1 he) ⟨by decide, hz⟩ ?_ ?_ (am_K_bd (am_ev_G hA hn F (am_eN tk n (p + 1)) e s1 w1 (am_okE_x x1 he)) H1 (fun k2 v2 s2 w2 x2 o2 H2 => ?_))))
        · omega
        · rw [List.length_cons]; omega
        · omega
        · have hH2 : am_H n mC mA s2 e p stk := ⟨w2, am_okE_x x2 (am_okE_x x1 he), hp, hH.2.2.2⟩
          unfold am_ca at H2
          by_cases k1 : k = 1 ∧ k2 = 1
          · rw [if_pos k1] at H2
            obtain ⟨k3, k4⟩ := k1
            subst k3
            subst k4
            exact rCalc a p e stk v v2 s2 hH2 hk (am_K_o H2)
          · rw [if_neg k1] at H2
            exact rCalcF a p e stk k v k2 v2 s2 hH2 hk (am_okV_x x2 v1) o2 k1 (am_K_q H2)
