/-! the class's ranks are worked out -/
theorem s_rl_l {n : Nat} {T : yG} (hT : yPo n T) (hn : n ≤ 8) (r : Nat) : ∀ (d a : Nat), a + d = 64 → ∀ (l : Nat → Nat) (m : xmm), yrw 124 (yro T) m → (∀ p, p < 8 → m.1 126 p = nI (l p)) → (∀ p, l p ≤ ylev n T p) → (∀ p, ylev n T p ≤ r → l p = ylev n T p) → (∀ q p, T q p → 8 * q + p < a → ylev n T q ≤ r → ylev n T q + 1 ≤ l p) → ∃ (m' : xmm) (l' : Nat → Nat), bX5_raiseLevels_123_2 (nI a) m = some m' ∧ (∀ p, p < 8 → m'.1 126 p = nI (l' p)) ∧ (∀ p, l' p ≤ ylev n T p) ∧ (∀ p, ylev n T p ≤ r + 1 → l' p = ylev n T p) ∧ yfr [126] m m' := by
  intro d
  induction d with
  | zero =>
    intro a ha l m h1 h2 h3 h4 h5
    have e : a = 64 := by omega
    subst e
    refine ⟨m, l, ?_, h2, h3, fun p hp => ?_, yfr_r⟩
    · apply bX5_raiseLevels_123_2_i
      simp (disch := omega) only [yl3, yl4, yl5, yl6, yl7, yl8, yl9, yl10, yl13, yl16, yl20, yl21, yl22, yl23, yl24, yl32, yl40, yl48, yl57, yl59, yl63, yl64, yl97, yl99, yl122, yl255, yl256, yl400, yl1000, yl2000, yl2048, yc0_eq, yc0_eq2, yc0_le, yc0_ge, yc0_lt, yc0_gt, yc0_ad, yc0_da, yc0_sb, yc0_ml, yc0_lm, yc1_eq, yc1_eq2, yc1_le, yc1_ge, yc1_lt, yc1_gt, yc1_ad, yc1_da, yc1_sb, yc1_ml, yc1_lm, yc2_eq, yc2_eq2, yc2_le, yc2_ge, yc2_lt, yc2_gt, yc2_ad, yc2_da, yc2_sb, yc2_ml, yc2_lm, yc31_ge, ymodn, yI_1sl, yc2_dv, yn1_eq, yn1_lt, xgd_t, xlt_e, Option.bind_some, nI_add, pk_mul, pk_sub, pk_div, pk_rem, yI_and, yI_or, yI_xor, yI_nd, yI_nd2, yI_31, yI_shl, nI_leI, nI_ltI, nI_eq, nI_clamp, xinb_t, yP_z, yP_if, if_pos]
    · rcases ylev_at hT p with e | ⟨q, hq, e⟩
      · have := h3 p; omega
      · have b := hT.1 _ _ hq
        have := h5 q p hq (by omega) (by omega)
        have := h3 p
        omega
  | succ d ih =>
    intro a ha l m h1 h2 h3 h4 h5
    have isA := s_isArrow (v := 124) rfl rfl h1 (fun p _ => yro_lt T p) (x := a) (by omega)
    have hu : a % 8 < 8 := by omega
    have hl : a / 8 < 8 := by omega
    have eT : yb (yro T (a / 8)) (a % 8) ↔ T (a / 8) (a % 8) := yro_b hT hn
    by_cases hx : T (a / 8) (a % 8)
    · have b1 := h3 (a % 8)
      have b2 := h3 (a / 8)
      have b3 := ylev_le hT (a % 8)
      have b4 := ylev_le hT (a / 8)
      have b5 := ylev_ge hT hx
      obtain ⟨m', l', e1, e2, e3, e4, e5⟩ := ih (a + 1) (by omega) (fun p => if p = a % 8 then max (l (a % 8)) (l (a / 8) + 1) else l p) (xwi m 126 (a % 8) (nI (max (l (a % 8)) (l (a / 8) + 1)))) (fun p hp => by rw [xwi_k (by decide)]; exact h1 p hp) (fun p hp => by
          by_cases e : p = a % 8
          · subst e; rw [xwi_e, if_pos rfl]
          · rw [xwi_i e, if_neg e]; exact h2 p hp) (fun p => by
          by_cases e : p = a % 8
          · subst e; rw [if_pos rfl]; omega
          · rw [if_neg e]; exact h3 p) (fun p hp => by
          by_cases e : p = a % 8
          · subst e
            rw [if_pos rfl]
            have := h4 _ hp
            omega
          · rw [if_neg e]; exact h4 p hp) (fun q p hq hlt hr => by
          have b := hT.1 _ _ hq
          by_cases e : p = a % 8
          · subst e
            rw [if_pos rfl]
            by_cases e2 : 8 * q + a % 8 < a
            · have := h5 q _ hq e2 hr
              omega
            · have e3 : q = a / 8 := by omega
              subst e3
              have := h4 _ hr
              omega
          · rw [if_neg e]
            exact h5 q p hq (by omega) hr)
      refine ⟨m', l', ?_, e2, e3, e4, yfr_t (yfr_w yfr_r (by decide)) e5⟩
      apply bX5_raiseLevels_123_2_i
      have emx : (if l (a % 8) < l (a / 8) + 1 then nI (l (a / 8) + 1) else nI (l (a % 8))) = nI (max (l (a % 8)) (l (a / 8) + 1)) := by
        by_cases e : l (a % 8) < l (a / 8) + 1
        · rw [if_pos e]; congr 1; omega
        · rw [if_neg e]; congr 1; omega
      simp (disch := omega) only [yl3, yl4, yl5, yl6, yl7, yl8, yl9, yl10, yl13, yl16, yl20, yl21, yl22, yl23, yl24, yl32, yl40, yl48, yl57, yl59, yl63, yl64, yl97, yl99, yl122, yl255, yl256, yl400, yl1000, yl2000, yl2048, yc0_eq, yc0_eq2, yc0_le, yc0_ge, yc0_lt, yc0_gt, yc0_ad, yc0_da, yc0_sb, yc0_ml, yc0_lm, yc1_eq, yc1_eq2, yc1_le, yc1_ge, yc1_lt, yc1_gt, yc1_ad, yc1_da, yc1_sb, yc1_ml, yc1_lm, yc2_eq, yc2_eq2, yc2_le, yc2_ge, yc2_lt, yc2_gt, yc2_ad, yc2_da, yc2_sb, yc2_ml, yc2_lm, yc31_ge, ymodn, yI_1sl, yc2_dv, yn1_eq, yn1_lt, xgd_t, xlt_e, Option.bind_some, nI_add, pk_mul, pk_sub, pk_div, pk_rem, yI_and, yI_or, yI_xor, yI_nd, yI_nd2, yI_31, yI_shl, nI_leI, nI_ltI, nI_eq, nI_clamp, xinb_t, yP_z, yP_if, if_neg, isA, yif_t (eT.mpr hx), h2 _ hu, h2 _ hl, emx]
      exact e1
    · obtain ⟨m', l', e1, e2⟩ := ih (a + 1) (by omega) l m h1 h2 h3 h4 (fun q p hq hlt hr => by
          by_cases e2 : 8 * q + p < a
          · exact h5 q p hq e2 hr
          · have b := hT.1 _ _ hq
            have e3 : q = a / 8 := by omega
            have e4 : p = a % 8 := by omega
            subst e3; subst e4
            exact absurd hq hx)
      refine ⟨m', l', ?_, e2⟩
      apply bX5_raiseLevels_123_2_i
      simp (disch := omega) only [yl3, yl4, yl5, yl6, yl7, yl8, yl9, yl10, yl13, yl16, yl20, yl21, yl22, yl23, yl24, yl32, yl40, yl48, yl57, yl59, yl63, yl64, yl97, yl99, yl122, yl255, yl256, yl400, yl1000, yl2000, yl2048, yc0_eq, yc0_eq2, yc0_le, yc0_ge, yc0_lt, yc0_gt, yc0_ad, yc0_da, yc0_sb, yc0_ml, yc0_lm, yc1_eq, yc1_eq2, yc1_le, yc1_ge, yc1_lt, yc1_gt, yc1_ad, yc1_da, yc1_sb, yc1_ml, yc1_lm, yc2_eq, yc2_eq2, yc2_le, yc2_ge, yc2_lt, yc2_gt, yc2_ad, yc2_da, yc2_sb, yc2_ml, yc2_lm, yc31_ge, ymodn, yI_1sl, yc2_dv, yn1_eq, yn1_lt, xgd_t, xlt_e, Option.bind_some, nI_add, pk_mul, pk_sub, pk_div, pk_rem, yI_and, yI_or, yI_xor, yI_nd, yI_nd2, yI_31, yI_shl, nI_leI, nI_ltI, nI_eq, nI_clamp, xinb_t, yP_z, yP_if, if_neg, isA, yif_f (fun e => hx (eT.mp e))]
      exact e1
/-- the class's ranks -/
def yRK (n : Nat) (T : yG) (m : xmm) : Prop := yR0 n T m ∧ (∀ p, p < 8 → m.1 126 p = nI (ylev n T p)) ∧ ∀ S, S < 2 ^ n → m.1 127 S = nI (yW n T S)
theorem yR0_f {n : Nat} {T : yG} {L : List Nat} {m m' : xmm} (h : yR0 n T m) (hf : yfr L m m') (h3 : 123 ∉ L) (h4 : 124 ∉ L) (h5 : 125 ∉ L) : yR0 n T m' := ⟨by rw [yfr_1 hf 123 6 h3]; exact h.1, fun p hp => by rw [yfr_1 hf 124 p h4]; exact h.2.1 p hp, fun p hp => by rw [yfr_1 hf 125 p h5]; exact h.2.2 p hp⟩
theorem s_rsv_95 {n : Nat} {T : yG} (hT : yPo n T) (hn : n ≤ 8) : ∀ (d r : Nat), r + d = n → ∀ (l : Nat → Nat) (m : xmm), yR0 n T m → (∀ p, p < 8 → m.1 126 p = nI (l p)) → (∀ p, l p ≤ ylev n T p) → (∀ p, ylev n T p ≤ r → l p = ylev n T p) → ∃ m', bX5_solve_123_109_95 (nI r) m = some m' ∧ yRK n T m' ∧ yfr [126, 127] m m' := by
  intro d
  induction d with
  | zero =>
    intro r hr l m h0 h1 h2 h3
    have e : r = n := by omega
    subst e
    obtain ⟨m', e1, e2, e3⟩ := s_countWaysOn hT hn h0
    refine ⟨m', ?_, ⟨yR0_f h0 e3 (by decide) (by decide) (by decide), fun p hp => by rw [yfr_1 e3 126 p (by decide), h1 p hp, h3 p (ylev_le hT p)], e2⟩, yfr_m e3 (by decide)⟩
    apply bX5_solve_123_109_95_i
    simp (disch := omega) only [yl3, yl4, yl5, yl6, yl7, yl8, yl9, yl10, yl13, yl16, yl20, yl21, yl22, yl23, yl24, yl32, yl40, yl48, yl57, yl59, yl63, yl64, yl97, yl99, yl122, yl255, yl256, yl400, yl1000, yl2000, yl2048, yc0_eq, yc0_eq2, yc0_le, yc0_ge, yc0_lt, yc0_gt, yc0_ad, yc0_da, yc0_sb, yc0_ml, yc0_lm, yc1_eq, yc1_eq2, yc1_le, yc1_ge, yc1_lt, yc1_gt, yc1_ad, yc1_da, yc1_sb, yc1_ml, yc1_lm, yc2_eq, yc2_eq2, yc2_le, yc2_ge, yc2_lt, yc2_gt, yc2_ad, yc2_da, yc2_sb, yc2_ml, yc2_lm, yc31_ge, ymodn, yI_1sl, yc2_dv, yn1_eq, yn1_lt, xgd_t, xlt_e, Option.bind_some, nI_add, pk_mul, pk_sub, pk_div, pk_rem, yI_and, yI_or, yI_xor, yI_nd, yI_nd2, yI_31, yI_shl, nI_leI, nI_ltI, nI_eq, nI_clamp, xinb_t, yP_z, yP_if, h0.1, if_pos, e1]
  | succ d ih =>
    intro r hr l m h0 h1 h2 h3
    obtain ⟨m1, l1, a1, a2, a3, a4, a5⟩ := s_rl_l hT hn r 64 0 rfl l m h0.2.1 h1 h2 h3 (fun q p _ h => absurd h (Nat.not_lt_zero _))
    obtain ⟨m', e1, e2, e3⟩ := ih (r + 1) (by omega) l1 m1 (yR0_f h0 a5 (by decide) (by decide) (by decide)) a2 a3 a4
    refine ⟨m', ?_, e2, yfr_t (yfr_m a5 (by decide)) e3⟩
    have hrl : fX5_raiseLevels_123 m = some m1 := by
      apply fX5_raiseLevels_123_i
      exact a1
    apply bX5_solve_123_109_95_i
    simp (disch := omega) only [yl3, yl4, yl5, yl6, yl7, yl8, yl9, yl10, yl13, yl16, yl20, yl21, yl22, yl23, yl24, yl32, yl40, yl48, yl57, yl59, yl63, yl64, yl97, yl99, yl122, yl255, yl256, yl400, yl1000, yl2000, yl2048, yc0_eq, yc0_eq2, yc0_le, yc0_ge, yc0_lt, yc0_gt, yc0_ad, yc0_da, yc0_sb, yc0_ml, yc0_lm, yc1_eq, yc1_eq2, yc1_le, yc1_ge, yc1_lt, yc1_gt, yc1_ad, yc1_da, yc1_sb, yc1_ml, yc1_lm, yc2_eq, yc2_eq2, yc2_le, yc2_ge, yc2_lt, yc2_gt, yc2_ad, yc2_da, yc2_sb, yc2_ml, yc2_lm, yc31_ge, ymodn, yI_1sl, yc2_dv, yn1_eq, yn1_lt, xgd_t, xlt_e, Option.bind_some, nI_add, pk_mul, pk_sub, pk_div, pk_rem, yI_and, yI_or, yI_xor, yI_nd, yI_nd2, yI_31, yI_shl, nI_leI, nI_ltI, nI_eq, nI_clamp, xinb_t, yP_z, yP_if, h0.1, if_neg, hrl]
    exact e1
theorem s_rsv_52 {n : Nat} {T : yG} (hT : yPo n T) (hn : n ≤ 8) : ∀ (d a : Nat), a + d = 64 → ∀ (m : xmm), m.1 123 6 = nI n → yrw 124 (yro T) m → (∀ p, p < 8 → m.1 126 p = 0) → (∀ c, c < 8 → m.1 125 c = nI (ybs (fun p => T p c ∧ 8 * p + c < a) 8)) → ∃ m', bX5_solve_123_109_52 (nI a) m = some m' ∧ yRK n T m' ∧ yfr [125, 126, 127] m m' := by
  intro d
  induction d with
  | zero =>
    intro a ha m h1 h2 h3 h4
    have e : a = 64 := by omega
    subst e
    obtain ⟨m', e1, e2, e3⟩ := s_rsv_95 hT hn n 0 (by omega) (fun _ => 0) m ⟨h1, h2, fun c hc => by
        rw [h4 c hc]
        congr 1
        apply ybs_c
        intro p hp
        exact ⟨fun e => e.1, fun e => ⟨e, by omega⟩⟩⟩ h3 (fun p => Nat.zero_le _) (fun p hp => by omega)
    refine ⟨m', ?_, e2, yfr_m e3 (by decide)⟩
    apply bX5_solve_123_109_52_i
    simp (disch := omega) only [yl3, yl4, yl5, yl6, yl7, yl8, yl9, yl10, yl13, yl16, yl20, yl21, yl22, yl23, yl24, yl32, yl40, yl48, yl57, yl59, yl63, yl64, yl97, yl99, yl122, yl255, yl256, yl400, yl1000, yl2000, yl2048, yc0_eq, yc0_eq2, yc0_le, yc0_ge, yc0_lt, yc0_gt, yc0_ad, yc0_da, yc0_sb, yc0_ml, yc0_lm, yc1_eq, yc1_eq2, yc1_le, yc1_ge, yc1_lt, yc1_gt, yc1_ad, yc1_da, yc1_sb, yc1_ml, yc1_lm, yc2_eq, yc2_eq2, yc2_le, yc2_ge, yc2_lt, yc2_gt, yc2_ad, yc2_da, yc2_sb, yc2_ml, yc2_lm, yc31_ge, ymodn, yI_1sl, yc2_dv, yn1_eq, yn1_lt, xgd_t, xlt_e, Option.bind_some, nI_add, pk_mul, pk_sub, pk_div, pk_rem, yI_and, yI_or, yI_xor, yI_nd, yI_nd2, yI_31, yI_shl, nI_leI, nI_ltI, nI_eq, nI_clamp, xinb_t, yP_z, yP_if, if_pos]
    exact e1
  | succ d ih =>
    intro a ha m h1 h2 h3 h4
    have isA := s_isArrow (v := 124) rfl rfl h2 (fun p _ => yro_lt T p) (x := a) (by omega)
    have hu : a % 8 < 8 := by omega
    have hl : a / 8 < 8 := by omega
    have eT : yb (yro T (a / 8)) (a % 8) ↔ T (a / 8) (a % 8) := yro_b hT hn
    have oth : ∀ c, c < 8 → (c ≠ a % 8 ∨ ¬ T (a / 8) (a % 8)) → ybs (fun p => T p c ∧ 8 * p + c < a) 8 = ybs (fun p => T p c ∧ 8 * p + c < a + 1) 8 := by
      intro c hc h
      apply ybs_c
      intro p hp
      constructor
      · rintro ⟨q1, q2⟩
        exact ⟨q1, by omega⟩
      · rintro ⟨q1, q2⟩
        refine ⟨q1, ?_⟩
        rcases Nat.lt_or_ge (8 * p + c) a with e | e
        · exact e
        · have e3 : p = a / 8 := by omega
          have e4 : c = a % 8 := by omega
          subst e3; subst e4
          rcases h with h | h
          · exact absurd rfl h
          · exact absurd q1 h
    by_cases hx : T (a / 8) (a % 8)
    · have o1 : nI (ybs (fun p => T p (a % 8) ∧ 8 * p + a % 8 < a) 8 ||| 2 ^ (a / 8)) = nI (ybs (fun p => T p (a % 8) ∧ 8 * p + a % 8 < a + 1) 8) := by
        rw [ybs_o1 hl]
        congr 1
        apply ybs_c
        intro p hp
        constructor
        · rintro (q | q)
          · exact ⟨q.1, by omega⟩
          · subst q; exact ⟨hx, by omega⟩
        · rintro ⟨q1, q2⟩
          rcases Nat.lt_or_ge (8 * p + a % 8) a with e | e
          · exact Or.inl ⟨q1, e⟩
          · exact Or.inr (by omega)
      obtain ⟨m', e1, e2, e3⟩ := ih (a + 1) (by omega) (xwi m 125 (a % 8) (nI (ybs (fun p => T p (a % 8) ∧ 8 * p + a % 8 < a + 1) 8))) (by rw [xwi_k (by decide)]; exact h1) (fun p hp => by rw [xwi_k (by decide)]; exact h2 p hp) (fun p hp => by rw [xwi_k (by decide)]; exact h3 p hp) (fun c hc => by
          by_cases e : c = a % 8
          · subst e; rw [xwi_e]
          · rw [xwi_i e, h4 c hc, oth c hc (Or.inl e)])
      refine ⟨m', ?_, e2, yfr_t (yfr_w yfr_r (by decide)) e3⟩
      apply bX5_solve_123_109_52_i
      simp (disch := omega) only [yl3, yl4, yl5, yl6, yl7, yl8, yl9, yl10, yl13, yl16, yl20, yl21, yl22, yl23, yl24, yl32, yl40, yl48, yl57, yl59, yl63, yl64, yl97, yl99, yl122, yl255, yl256, yl400, yl1000, yl2000, yl2048, yc0_eq, yc0_eq2, yc0_le, yc0_ge, yc0_lt, yc0_gt, yc0_ad, yc0_da, yc0_sb, yc0_ml, yc0_lm, yc1_eq, yc1_eq2, yc1_le, yc1_ge, yc1_lt, yc1_gt, yc1_ad, yc1_da, yc1_sb, yc1_ml, yc1_lm, yc2_eq, yc2_eq2, yc2_le, yc2_ge, yc2_lt, yc2_gt, yc2_ad, yc2_da, yc2_sb, yc2_ml, yc2_lm, yc31_ge, ymodn, yI_1sl, yc2_dv, yn1_eq, yn1_lt, xgd_t, xlt_e, Option.bind_some, nI_add, pk_mul, pk_sub, pk_div, pk_rem, yI_and, yI_or, yI_xor, yI_nd, yI_nd2, yI_31, yI_shl, nI_leI, nI_ltI, nI_eq, nI_clamp, xinb_t, yP_z, yP_if, if_neg, isA, yif_t (eT.mpr hx), h4 _ hu, o1]
      exact e1
    · obtain ⟨m', e1, e2, e3⟩ := ih (a + 1) (by omega) m h1 h2 h3 (fun c hc => by rw [h4 c hc, oth c hc (Or.inr hx)])
      refine ⟨m', ?_, e2, e3⟩
      apply bX5_solve_123_109_52_i
      simp (disch := omega) only [yl3, yl4, yl5, yl6, yl7, yl8, yl9, yl10, yl13, yl16, yl20, yl21, yl22, yl23, yl24, yl32, yl40, yl48, yl57, yl59, yl63, yl64, yl97, yl99, yl122, yl255, yl256, yl400, yl1000, yl2000, yl2048, yc0_eq, yc0_eq2, yc0_le, yc0_ge, yc0_lt, yc0_gt, yc0_ad, yc0_da, yc0_sb, yc0_ml, yc0_lm, yc1_eq, yc1_eq2, yc1_le, yc1_ge, yc1_lt, yc1_gt, yc1_ad, yc1_da, yc1_sb, yc1_ml, yc1_lm, yc2_eq, yc2_eq2, yc2_le, yc2_ge, yc2_lt, yc2_gt, yc2_ad, yc2_da, yc2_sb, yc2_ml, yc2_lm, yc31_ge, ymodn, yI_1sl, yc2_dv, yn1_eq, yn1_lt, xgd_t, xlt_e, Option.bind_some, nI_add, pk_mul, pk_sub, pk_div, pk_rem, yI_and, yI_or, yI_xor, yI_nd, yI_nd2, yI_31, yI_shl, nI_leI, nI_ltI, nI_eq, nI_clamp, xinb_t, yP_z, yP_if, if_neg, isA, yif_f (fun e => hx (eT.mp e))]
      exact e1
theorem s_rsv_12 {n : Nat} {T : yG} (hT : yPo n T) (hn : n ≤ 8) : ∀ (d k : Nat), k + d = 8 → ∀ (m : xmm), m.1 123 6 = nI n → yrw 114 (yro T) m → (∀ p, p < k → m.1 124 p = nI (yro T p) ∧ m.1 125 p = 0 ∧ m.1 126 p = 0) → ∃ m', bX5_solve_123_109_12 (nI k) m = some m' ∧ yRK n T m' ∧ yfr [124, 125, 126, 127] m m' := by
  intro d
  induction d with
  | zero =>
    intro k hk m h1 h2 h3
    have e : k = 8 := by omega
    subst e
    obtain ⟨m', e1, e2, e3⟩ := s_rsv_52 hT hn 64 0 rfl m h1 (fun p hp => (h3 p hp).1) (fun p hp => (h3 p hp).2.2) (fun c hc => by
        rw [(h3 c hc).2.1]
        have : ybs (fun p => T p c ∧ 8 * p + c < 0) 8 = 0 := by
          apply ytb_ext
          intro i
          show yb (ybs _ 8) i ↔ yb 0 i
          rw [yb_bs]
          exact ⟨fun ⟨_, _, e⟩ => absurd e (Nat.not_lt_zero _), fun e => absurd e yb_0⟩
        rw [this]; rfl)
    refine ⟨m', ?_, e2, yfr_m e3 (by decide)⟩
    apply bX5_solve_123_109_12_i
    simp (disch := omega) only [yl3, yl4, yl5, yl6, yl7, yl8, yl9, yl10, yl13, yl16, yl20, yl21, yl22, yl23, yl24, yl32, yl40, yl48, yl57, yl59, yl63, yl64, yl97, yl99, yl122, yl255, yl256, yl400, yl1000, yl2000, yl2048, yc0_eq, yc0_eq2, yc0_le, yc0_ge, yc0_lt, yc0_gt, yc0_ad, yc0_da, yc0_sb, yc0_ml, yc0_lm, yc1_eq, yc1_eq2, yc1_le, yc1_ge, yc1_lt, yc1_gt, yc1_ad, yc1_da, yc1_sb, yc1_ml, yc1_lm, yc2_eq, yc2_eq2, yc2_le, yc2_ge, yc2_lt, yc2_gt, yc2_ad, yc2_da, yc2_sb, yc2_ml, yc2_lm, yc31_ge, ymodn, yI_1sl, yc2_dv, yn1_eq, yn1_lt, xgd_t, xlt_e, Option.bind_some, nI_add, pk_mul, pk_sub, pk_div, pk_rem, yI_and, yI_or, yI_xor, yI_nd, yI_nd2, yI_31, yI_shl, nI_leI, nI_ltI, nI_eq, nI_clamp, xinb_t, yP_z, yP_if, if_pos]
    exact e1
  | succ d ih =>
    intro k hk m h1 h2 h3
    obtain ⟨m', e1, e2, e3⟩ := ih (k + 1) (by omega) (xwi (xwi (xwi m 124 k (nI (yro T k))) 125 k 0) 126 k 0) (by rw [xwi_k (by decide), xwi_k (by decide), xwi_k (by decide)]; exact h1) (fun p hp => by rw [xwi_k (by decide), xwi_k (by decide), xwi_k (by decide)]; exact h2 p hp) (fun p hp => by
        by_cases e : p = k
        · subst e
          rw [xwi_k (by decide), xwi_k (by decide), xwi_e, xwi_k (by decide), xwi_e, xwi_e]
          exact ⟨rfl, rfl, rfl⟩
        · rw [xwi_k (by decide), xwi_k (by decide), xwi_i e, xwi_k (by decide), xwi_i e, xwi_k (by decide), xwi_i e, xwi_k (by decide), xwi_k (by decide)]
          exact h3 p (by omega))
    refine ⟨m', ?_, e2, yfr_t (yfr_w (yfr_w (yfr_w yfr_r (by decide)) (by decide)) (by decide)) e3⟩
    apply bX5_solve_123_109_12_i
    simp (disch := omega) only [yl3, yl4, yl5, yl6, yl7, yl8, yl9, yl10, yl13, yl16, yl20, yl21, yl22, yl23, yl24, yl32, yl40, yl48, yl57, yl59, yl63, yl64, yl97, yl99, yl122, yl255, yl256, yl400, yl1000, yl2000, yl2048, yc0_eq, yc0_eq2, yc0_le, yc0_ge, yc0_lt, yc0_gt, yc0_ad, yc0_da, yc0_sb, yc0_ml, yc0_lm, yc1_eq, yc1_eq2, yc1_le, yc1_ge, yc1_lt, yc1_gt, yc1_ad, yc1_da, yc1_sb, yc1_ml, yc1_lm, yc2_eq, yc2_eq2, yc2_le, yc2_ge, yc2_lt, yc2_gt, yc2_ad, yc2_da, yc2_sb, yc2_ml, yc2_lm, yc31_ge, ymodn, yI_1sl, yc2_dv, yn1_eq, yn1_lt, xgd_t, xlt_e, Option.bind_some, nI_add, pk_mul, pk_sub, pk_div, pk_rem, yI_and, yI_or, yI_xor, yI_nd, yI_nd2, yI_31, yI_shl, nI_leI, nI_ltI, nI_eq, nI_clamp, xinb_t, yP_z, yP_if, if_neg, h2 k (by omega)]
    exact e1
theorem s_rsolve {n : Nat} {T : yG} (hT : yPo n T) (hn : n ≤ 8) {m : xmm} (h : yrw 114 (yro T) m) : ∃ m', fX5_solve_123_109 (nI n) m = some m' ∧ yRK n T m' ∧ yfr [123, 124, 125, 126, 127] m m' := by
  obtain ⟨m', e1, e2, e3⟩ := s_rsv_12 hT hn 8 0 rfl (xwi m 123 6 (nI n)) (by rw [xwi_e]) (fun p hp => by rw [xwi_k (by decide)]; exact h p hp) (fun p hp => absurd hp (Nat.not_lt_zero p))
  refine ⟨m', ?_, e2, yfr_t (yfr_w yfr_r (by decide)) (yfr_m e3 (by decide))⟩
  apply fX5_solve_123_109_i
  simp (disch := omega) only [yl3, yl4, yl5, yl6, yl7, yl8, yl9, yl10, yl13, yl16, yl20, yl21, yl22, yl23, yl24, yl32, yl40, yl48, yl57, yl59, yl63, yl64, yl97, yl99, yl122, yl255, yl256, yl400, yl1000, yl2000, yl2048, yc0_eq, yc0_eq2, yc0_le, yc0_ge, yc0_lt, yc0_gt, yc0_ad, yc0_da, yc0_sb, yc0_ml, yc0_lm, yc1_eq, yc1_eq2, yc1_le, yc1_ge, yc1_lt, yc1_gt, yc1_ad, yc1_da, yc1_sb, yc1_ml, yc1_lm, yc2_eq, yc2_eq2, yc2_le, yc2_ge, yc2_lt, yc2_gt, yc2_ad, yc2_da, yc2_sb, yc2_ml, yc2_lm, yc31_ge, ymodn, yI_1sl, yc2_dv, yn1_eq, yn1_lt, xgd_t, xlt_e, Option.bind_some, nI_add, pk_mul, pk_sub, pk_div, pk_rem, yI_and, yI_or, yI_xor, yI_nd, yI_nd2, yI_31, yI_shl, nI_leI, nI_ltI, nI_eq, nI_clamp, xinb_t, yP_z, yP_if, if_neg]
  exact e1
/-! levels and covers -/
noncomputable def ygl (n : Nat) (T : yG) : Int32 := if n = 0 then -1 else nI (ymx (fun p => ylev n T p) n)
theorem s_greatestLevel_l {n : Nat} {T : yG} (hT : yPo n T) (hn : n ≤ 8) {m : xmm} (h : yRK n T m) : ∀ (d k : Nat), k + d = n → bX5_greatestLevel_123_4 (if k = 0 then -1 else nI (ymx (fun p => ylev n T p) k)) (nI k) m = some (ygl n T, m) := by
  intro d
  induction d with
  | zero =>
    intro k hk
    have e : k = n := by omega
    subst e
    apply bX5_greatestLevel_123_4_i
    simp (disch := omega) only [yl3, yl4, yl5, yl6, yl7, yl8, yl9, yl10, yl13, yl16, yl20, yl21, yl22, yl23, yl24, yl32, yl40, yl48, yl57, yl59, yl63, yl64, yl97, yl99, yl122, yl255, yl256, yl400, yl1000, yl2000, yl2048, yc0_eq, yc0_eq2, yc0_le, yc0_ge, yc0_lt, yc0_gt, yc0_ad, yc0_da, yc0_sb, yc0_ml, yc0_lm, yc1_eq, yc1_eq2, yc1_le, yc1_ge, yc1_lt, yc1_gt, yc1_ad, yc1_da, yc1_sb, yc1_ml, yc1_lm, yc2_eq, yc2_eq2, yc2_le, yc2_ge, yc2_lt, yc2_gt, yc2_ad, yc2_da, yc2_sb, yc2_ml, yc2_lm, yc31_ge, ymodn, yI_1sl, yc2_dv, yn1_eq, yn1_lt, xgd_t, xlt_e, Option.bind_some, nI_add, pk_mul, pk_sub, pk_div, pk_rem, yI_and, yI_or, yI_xor, yI_nd, yI_nd2, yI_31, yI_shl, nI_leI, nI_ltI, nI_eq, nI_clamp, xinb_t, yP_z, yP_if, h.1.1, if_pos]
    rfl
  | succ d ih =>
    intro k hk
    apply bX5_greatestLevel_123_4_i
    have e := ih (k + 1) (by omega)
    rw [if_neg (by omega)] at e
    have b1 := ylev_le hT k
    have b2 : ymx (fun p => ylev n T p) k ≤ n := by
      rcases ymx_at (f := fun p => ylev n T p) (n := k) with e | ⟨j, _, e⟩
      · omega
      · rw [e]; exact ylev_le hT j
    by_cases hk0 : k = 0
    · subst hk0
      have e2 : ymx (fun p => ylev n T p) (0 + 1) = ylev n T 0 := Nat.max_eq_right (Nat.zero_le _)
      rw [e2] at e
      rw [if_pos rfl]
      have n1 := yn1_lt (k := ylev n T 0) (by omega)
      simp (disch := omega) only [yl3, yl4, yl5, yl6, yl7, yl8, yl9, yl10, yl13, yl16, yl20, yl21, yl22, yl23, yl24, yl32, yl40, yl48, yl57, yl59, yl63, yl64, yl97, yl99, yl122, yl255, yl256, yl400, yl1000, yl2000, yl2048, yc0_eq, yc0_eq2, yc0_le, yc0_ge, yc0_lt, yc0_gt, yc0_ad, yc0_da, yc0_sb, yc0_ml, yc0_lm, yc1_eq, yc1_eq2, yc1_le, yc1_ge, yc1_lt, yc1_gt, yc1_ad, yc1_da, yc1_sb, yc1_ml, yc1_lm, yc2_eq, yc2_eq2, yc2_le, yc2_ge, yc2_lt, yc2_gt, yc2_ad, yc2_da, yc2_sb, yc2_ml, yc2_lm, yc31_ge, ymodn, yI_1sl, yc2_dv, yn1_eq, yn1_lt, xgd_t, xlt_e, Option.bind_some, nI_add, pk_mul, pk_sub, pk_div, pk_rem, yI_and, yI_or, yI_xor, yI_nd, yI_nd2, yI_31, yI_shl, nI_leI, nI_ltI, nI_eq, nI_clamp, xinb_t, yP_z, yP_if, h.1.1, if_neg, h.2.1 0 (by omega)]
      exact e
    · rw [if_neg hk0]
      rw [ymx_s] at e
      have emx : (if ymx (fun p => ylev n T p) k < ylev n T k then nI (ylev n T k) else nI (ymx (fun p => ylev n T p) k)) = nI (max (ymx (fun p => ylev n T p) k) (ylev n T k)) := by
        by_cases e : ymx (fun p => ylev n T p) k < ylev n T k
        · rw [if_pos e]; congr 1; omega
        · rw [if_neg e]; congr 1; omega
      simp (disch := omega) only [yl3, yl4, yl5, yl6, yl7, yl8, yl9, yl10, yl13, yl16, yl20, yl21, yl22, yl23, yl24, yl32, yl40, yl48, yl57, yl59, yl63, yl64, yl97, yl99, yl122, yl255, yl256, yl400, yl1000, yl2000, yl2048, yc0_eq, yc0_eq2, yc0_le, yc0_ge, yc0_lt, yc0_gt, yc0_ad, yc0_da, yc0_sb, yc0_ml, yc0_lm, yc1_eq, yc1_eq2, yc1_le, yc1_ge, yc1_lt, yc1_gt, yc1_ad, yc1_da, yc1_sb, yc1_ml, yc1_lm, yc2_eq, yc2_eq2, yc2_le, yc2_ge, yc2_lt, yc2_gt, yc2_ad, yc2_da, yc2_sb, yc2_ml, yc2_lm, yc31_ge, ymodn, yI_1sl, yc2_dv, yn1_eq, yn1_lt, xgd_t, xlt_e, Option.bind_some, nI_add, pk_mul, pk_sub, pk_div, pk_rem, yI_and, yI_or, yI_xor, yI_nd, yI_nd2, yI_31, yI_shl, nI_leI, nI_ltI, nI_eq, nI_clamp, xinb_t, yP_z, yP_if, h.1.1, if_neg, h.2.1 k (by omega), emx]
      exact e
theorem s_greatestLevel {n : Nat} {T : yG} (hT : yPo n T) (hn : n ≤ 8) {m : xmm} (h : yRK n T m) : fX5_greatestLevel_123 m = some (ygl n T, m) := by
  apply fX5_greatestLevel_123_i
  exact s_greatestLevel_l hT hn h n 0 (by omega)
/-- COVERS from a -/
noncomputable def ycv (n : Nat) (T : yG) (a : Nat) : Nat := ybs (fun c => T a c ∧ ∀ q, T a q → ¬ T q c) n
theorem yand0 {A B : Nat} : A &&& B = 0 ↔ ∀ q, yb A q → ¬ yb B q := by
  constructor
  · intro h q h1 h2
    have := yb_an.mpr ⟨h1, h2⟩
    rw [h] at this
    exact yb_0 this
  · intro h
    apply ytb_ext
    intro i
    have e := yb_an (A := A) (B := B) (a := i)
    constructor
    · intro h1
      exact absurd (e.mp h1).2 (h i (e.mp h1).1)
    · intro h1
      exact absurd h1 yb_0
theorem s_coveredBy_l {n : Nat} {T : yG} (hT : yPo n T) (hn : n ≤ 8) {m : xmm} (h : yR0 n T m) {a : Nat} (ha : a < 8) : ∀ (d k : Nat), k + d = n → bX5_coveredBy_123_4 (nI a) (nI (ybs (fun c => T a c ∧ ∀ q, T a q → ¬ T q c) k)) (nI k) m = some (nI (ycv n T a), m) := by
  intro d
  induction d with
  | zero =>
    intro k hk
    have e : k = n := by omega
    subst e
    apply bX5_coveredBy_123_4_i
    simp (disch := omega) only [yl3, yl4, yl5, yl6, yl7, yl8, yl9, yl10, yl13, yl16, yl20, yl21, yl22, yl23, yl24, yl32, yl40, yl48, yl57, yl59, yl63, yl64, yl97, yl99, yl122, yl255, yl256, yl400, yl1000, yl2000, yl2048, yc0_eq, yc0_eq2, yc0_le, yc0_ge, yc0_lt, yc0_gt, yc0_ad, yc0_da, yc0_sb, yc0_ml, yc0_lm, yc1_eq, yc1_eq2, yc1_le, yc1_ge, yc1_lt, yc1_gt, yc1_ad, yc1_da, yc1_sb, yc1_ml, yc1_lm, yc2_eq, yc2_eq2, yc2_le, yc2_ge, yc2_lt, yc2_gt, yc2_ad, yc2_da, yc2_sb, yc2_ml, yc2_lm, yc31_ge, ymodn, yI_1sl, yc2_dv, yn1_eq, yn1_lt, xgd_t, xlt_e, Option.bind_some, nI_add, pk_mul, pk_sub, pk_div, pk_rem, yI_and, yI_or, yI_xor, yI_nd, yI_nd2, yI_31, yI_shl, nI_leI, nI_ltI, nI_eq, nI_clamp, xinb_t, yP_z, yP_if, h.1, if_pos]
    rfl
  | succ d ih =>
    intro k hk
    apply bX5_coveredBy_123_4_i
    have e := ih (k + 1) (by omega)
    rw [ybs_s] at e
    have b1 := yro_lt T a
    have b2 := yci_lt T k
    have b3 := yand_lt (yro T a) (yci T k) (n := 8) b1
    have eT : yb (yro T a) k ↔ T a k := yro_b hT hn
    have e0 : yro T a &&& yci T k = 0 ↔ ∀ q, T a q → ¬ T q k := by
      rw [yand0]
      exact ⟨fun h q h1 h2 => h q ((yro_b hT hn).mpr h1) ((yci_b hT hn).mpr h2), fun h q h1 h2 => h q ((yro_b hT hn).mp h1) ((yci_b hT hn).mp h2)⟩
    by_cases h1 : T a k
    · by_cases h2 : ∀ q, T a q → ¬ T q k
      · rw [yif_t ⟨h1, h2⟩] at e
        simp (disch := omega) only [yl3, yl4, yl5, yl6, yl7, yl8, yl9, yl10, yl13, yl16, yl20, yl21, yl22, yl23, yl24, yl32, yl40, yl48, yl57, yl59, yl63, yl64, yl97, yl99, yl122, yl255, yl256, yl400, yl1000, yl2000, yl2048, yc0_eq, yc0_eq2, yc0_le, yc0_ge, yc0_lt, yc0_gt, yc0_ad, yc0_da, yc0_sb, yc0_ml, yc0_lm, yc1_eq, yc1_eq2, yc1_le, yc1_ge, yc1_lt, yc1_gt, yc1_ad, yc1_da, yc1_sb, yc1_ml, yc1_lm, yc2_eq, yc2_eq2, yc2_le, yc2_ge, yc2_lt, yc2_gt, yc2_ad, yc2_da, yc2_sb, yc2_ml, yc2_lm, yc31_ge, ymodn, yI_1sl, yc2_dv, yn1_eq, yn1_lt, xgd_t, xlt_e, Option.bind_some, nI_add, pk_mul, pk_sub, pk_div, pk_rem, yI_and, yI_or, yI_xor, yI_nd, yI_nd2, yI_31, yI_shl, nI_leI, nI_ltI, nI_eq, nI_clamp, xinb_t, yP_z, yP_if, h.1, if_neg, h.2.1 a ha, s_contains, yif_t (eT.mpr h1), h.2.2 k (by omega), if_pos (e0.mpr h2)]
        exact e
      · rw [yif_f (fun e => h2 e.2), Nat.or_zero] at e
        simp (disch := omega) only [yl3, yl4, yl5, yl6, yl7, yl8, yl9, yl10, yl13, yl16, yl20, yl21, yl22, yl23, yl24, yl32, yl40, yl48, yl57, yl59, yl63, yl64, yl97, yl99, yl122, yl255, yl256, yl400, yl1000, yl2000, yl2048, yc0_eq, yc0_eq2, yc0_le, yc0_ge, yc0_lt, yc0_gt, yc0_ad, yc0_da, yc0_sb, yc0_ml, yc0_lm, yc1_eq, yc1_eq2, yc1_le, yc1_ge, yc1_lt, yc1_gt, yc1_ad, yc1_da, yc1_sb, yc1_ml, yc1_lm, yc2_eq, yc2_eq2, yc2_le, yc2_ge, yc2_lt, yc2_gt, yc2_ad, yc2_da, yc2_sb, yc2_ml, yc2_lm, yc31_ge, ymodn, yI_1sl, yc2_dv, yn1_eq, yn1_lt, xgd_t, xlt_e, Option.bind_some, nI_add, pk_mul, pk_sub, pk_div, pk_rem, yI_and, yI_or, yI_xor, yI_nd, yI_nd2, yI_31, yI_shl, nI_leI, nI_ltI, nI_eq, nI_clamp, xinb_t, yP_z, yP_if, h.1, if_neg, h.2.1 a ha, s_contains, yif_t (eT.mpr h1), h.2.2 k (by omega), if_neg (fun e => h2 (e0.mp e))]
        exact e
    · rw [yif_f (fun e => h1 e.1), Nat.or_zero] at e
      simp (disch := omega) only [yl3, yl4, yl5, yl6, yl7, yl8, yl9, yl10, yl13, yl16, yl20, yl21, yl22, yl23, yl24, yl32, yl40, yl48, yl57, yl59, yl63, yl64, yl97, yl99, yl122, yl255, yl256, yl400, yl1000, yl2000, yl2048, yc0_eq, yc0_eq2, yc0_le, yc0_ge, yc0_lt, yc0_gt, yc0_ad, yc0_da, yc0_sb, yc0_ml, yc0_lm, yc1_eq, yc1_eq2, yc1_le, yc1_ge, yc1_lt, yc1_gt, yc1_ad, yc1_da, yc1_sb, yc1_ml, yc1_lm, yc2_eq, yc2_eq2, yc2_le, yc2_ge, yc2_lt, yc2_gt, yc2_ad, yc2_da, yc2_sb, yc2_ml, yc2_lm, yc31_ge, ymodn, yI_1sl, yc2_dv, yn1_eq, yn1_lt, xgd_t, xlt_e, Option.bind_some, nI_add, pk_mul, pk_sub, pk_div, pk_rem, yI_and, yI_or, yI_xor, yI_nd, yI_nd2, yI_31, yI_shl, nI_leI, nI_ltI, nI_eq, nI_clamp, xinb_t, yP_z, yP_if, h.1, if_neg, h.2.1 a ha, s_contains, yif_f (fun e => h1 (eT.mp e))]
      exact e
theorem s_coveredBy {n : Nat} {T : yG} (hT : yPo n T) (hn : n ≤ 8) {m : xmm} (h : yR0 n T m) {a : Nat} (ha : a < 8) : fX5_coveredBy_123 (nI a) m = some (nI (ycv n T a), m) := by
  apply fX5_coveredBy_123_i
  exact s_coveredBy_l hT hn h ha n 0 (by omega)
theorem ycv_lt {n : Nat} (hn : n ≤ 8) (T : yG) (a : Nat) : ycv n T a < 256 := Nat.lt_of_lt_of_le (ybs_lt _ n) (y2p8 hn)
theorem ypp_le (S : Nat) : ypp S ≤ 8 := yct_le _ 8
noncomputable def yncv (n : Nat) (T : yG) : Nat := ysm (fun p => ypp (ycv n T p)) n
theorem s_countCovers_l {n : Nat} {T : yG} (hT : yPo n T) (hn : n ≤ 8) {m : xmm} (h : yR0 n T m) : ∀ (d k : Nat), k + d = n → bX5_countCovers_123_4 (nI (ysm (fun p => ypp (ycv n T p)) k)) (nI k) m = some (nI (yncv n T), m) := by
  intro d
  induction d with
  | zero =>
    intro k hk
    have e : k = n := by omega
    subst e
    apply bX5_countCovers_123_4_i
    simp (disch := omega) only [yl3, yl4, yl5, yl6, yl7, yl8, yl9, yl10, yl13, yl16, yl20, yl21, yl22, yl23, yl24, yl32, yl40, yl48, yl57, yl59, yl63, yl64, yl97, yl99, yl122, yl255, yl256, yl400, yl1000, yl2000, yl2048, yc0_eq, yc0_eq2, yc0_le, yc0_ge, yc0_lt, yc0_gt, yc0_ad, yc0_da, yc0_sb, yc0_ml, yc0_lm, yc1_eq, yc1_eq2, yc1_le, yc1_ge, yc1_lt, yc1_gt, yc1_ad, yc1_da, yc1_sb, yc1_ml, yc1_lm, yc2_eq, yc2_eq2, yc2_le, yc2_ge, yc2_lt, yc2_gt, yc2_ad, yc2_da, yc2_sb, yc2_ml, yc2_lm, yc31_ge, ymodn, yI_1sl, yc2_dv, yn1_eq, yn1_lt, xgd_t, xlt_e, Option.bind_some, nI_add, pk_mul, pk_sub, pk_div, pk_rem, yI_and, yI_or, yI_xor, yI_nd, yI_nd2, yI_31, yI_shl, nI_leI, nI_ltI, nI_eq, nI_clamp, xinb_t, yP_z, yP_if, h.1, if_pos]
    rfl
  | succ d ih =>
    intro k hk
    apply bX5_countCovers_123_4_i
    have e := ih (k + 1) (by omega)
    rw [ysm_s] at e
    have b := ycv_lt hn T k
    simp (disch := omega) only [yl3, yl4, yl5, yl6, yl7, yl8, yl9, yl10, yl13, yl16, yl20, yl21, yl22, yl23, yl24, yl32, yl40, yl48, yl57, yl59, yl63, yl64, yl97, yl99, yl122, yl255, yl256, yl400, yl1000, yl2000, yl2048, yc0_eq, yc0_eq2, yc0_le, yc0_ge, yc0_lt, yc0_gt, yc0_ad, yc0_da, yc0_sb, yc0_ml, yc0_lm, yc1_eq, yc1_eq2, yc1_le, yc1_ge, yc1_lt, yc1_gt, yc1_ad, yc1_da, yc1_sb, yc1_ml, yc1_lm, yc2_eq, yc2_eq2, yc2_le, yc2_ge, yc2_lt, yc2_gt, yc2_ad, yc2_da, yc2_sb, yc2_ml, yc2_lm, yc31_ge, ymodn, yI_1sl, yc2_dv, yn1_eq, yn1_lt, xgd_t, xlt_e, Option.bind_some, nI_add, pk_mul, pk_sub, pk_div, pk_rem, yI_and, yI_or, yI_xor, yI_nd, yI_nd2, yI_31, yI_shl, nI_leI, nI_ltI, nI_eq, nI_clamp, xinb_t, yP_z, yP_if, h.1, if_neg, s_coveredBy hT hn h (a := k) (by omega), s_bitCount b]
    exact e
theorem s_countCovers {n : Nat} {T : yG} (hT : yPo n T) (hn : n ≤ 8) {m : xmm} (h : yR0 n T m) : fX5_countCovers_123 m = some (nI (yncv n T), m) := by
  apply fX5_countCovers_123_i
  exact s_countCovers_l hT hn h n 0 (by omega)
