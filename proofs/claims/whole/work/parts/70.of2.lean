/-! OF, both sides -/
theorem s_arrowAt {n : Nat} {R : Nat → Nat} (hG : yGr n R) {m : xmm} (h : yMN n R m) {i k : Nat} (hk : yLI R i k) : fX12_arrowAt_144 (nI i) m = some (nI k, m) := by
  have hn := hG.1
  obtain ⟨k64, ⟨k1, k2⟩, k3⟩ := hk
  have kb : k / 8 < n ∧ k % 8 < n := yGr_n hG k1
  have i64 : i ≤ k := by rw [← k3]; exact yct_le _ k
  have l : ∀ (fuel a b : Nat), k - (8 * a + b) ≤ fuel → a < b → b ≤ n → a < n → 8 * a + b ≤ k → bX12_arrowAt_144_17 (nI (i - yli R (8 * a + b))) (nI a) (nI b) m = some (nI k, m) := by
    intro fuel
    induction fuel with
    | zero =>
      intro a b hf hab hb ha hp
      have e : 8 * a + b = k := by omega
      have bn : b < n := by
        have := kb.2
        omega
      have hy : yb (R a) b := by
        have t : yad R (k / 8) (k % 8) := k1
        rw [show k / 8 = a by omega, show k % 8 = b by omega] at t
        exact t
      have r8 := yGr_8 hG a
      rw [e, k3]
      have z : i - i = 0 := Nat.sub_self i
      rw [z]
      apply bX12_arrowAt_144_17_i
      simp (disch := omega) only [yl3, yl4, yl5, yl6, yl7, yl8, yl9, yl10, yl13, yl16, yl20, yl21, yl22, yl23, yl24, yl32, yl40, yl48, yl57, yl59, yl63, yl64, yl97, yl99, yl122, yl255, yl256, yl400, yl1000, yl2000, yl2048, yc0_eq, yc0_eq2, yc0_le, yc0_ge, yc0_lt, yc0_gt, yc0_ad, yc0_da, yc0_sb, yc0_ml, yc0_lm, yc1_eq, yc1_eq2, yc1_le, yc1_ge, yc1_lt, yc1_gt, yc1_ad, yc1_da, yc1_sb, yc1_ml, yc1_lm, yc2_eq, yc2_eq2, yc2_le, yc2_ge, yc2_lt, yc2_gt, yc2_ad, yc2_da, yc2_sb, yc2_ml, yc2_lm, yc31_ge, ymodn, yI_1sl, yc2_dv, yn1_eq, yn1_lt, xgd_t, xlt_e, Option.bind_some, nI_add, pk_mul, pk_sub, pk_div, pk_rem, yI_and, yI_or, yI_xor, yI_nd, yI_nd2, yI_31, yI_shl, nI_leI, nI_ltI, nI_eq, nI_clamp, xinb_t, yP_z, yP_if, h.1, if_neg, h.2 a (by omega), s_has (show R a < 2 ^ 31 by omega) (show b < 32 by omega), yif_t hy, if_pos, e, if_true]
    | succ fuel ih =>
      intro a b hf hab hb ha hp
      by_cases e : 8 * a + b = k
      · have bn : b < n := by
          have := kb.2
          omega
        have hy : yb (R a) b := by
          have t : yad R (k / 8) (k % 8) := k1
          rw [show k / 8 = a by omega, show k % 8 = b by omega] at t
          exact t
        have r8 := yGr_8 hG a
        rw [e, k3]
        have z : i - i = 0 := Nat.sub_self i
        rw [z]
        apply bX12_arrowAt_144_17_i
        simp (disch := omega) only [yl3, yl4, yl5, yl6, yl7, yl8, yl9, yl10, yl13, yl16, yl20, yl21, yl22, yl23, yl24, yl32, yl40, yl48, yl57, yl59, yl63, yl64, yl97, yl99, yl122, yl255, yl256, yl400, yl1000, yl2000, yl2048, yc0_eq, yc0_eq2, yc0_le, yc0_ge, yc0_lt, yc0_gt, yc0_ad, yc0_da, yc0_sb, yc0_ml, yc0_lm, yc1_eq, yc1_eq2, yc1_le, yc1_ge, yc1_lt, yc1_gt, yc1_ad, yc1_da, yc1_sb, yc1_ml, yc1_lm, yc2_eq, yc2_eq2, yc2_le, yc2_ge, yc2_lt, yc2_gt, yc2_ad, yc2_da, yc2_sb, yc2_ml, yc2_lm, yc31_ge, ymodn, yI_1sl, yc2_dv, yn1_eq, yn1_lt, xgd_t, xlt_e, Option.bind_some, nI_add, pk_mul, pk_sub, pk_div, pk_rem, yI_and, yI_or, yI_xor, yI_nd, yI_nd2, yI_31, yI_shl, nI_leI, nI_ltI, nI_eq, nI_clamp, xinb_t, yP_z, yP_if, h.1, if_neg, h.2 a (by omega), s_has (show R a < 2 ^ 31 by omega) (show b < 32 by omega), yif_t hy, if_pos, e, if_true]
      · by_cases bn : b < n
        · have r8 := yGr_8 hG a
          have nx := ih a (b + 1) (by omega) (by omega) (by omega) ha (by omega)
          have es : yli R (8 * a + (b + 1)) = yli R (8 * a + b) + yif (yLa R (8 * a + b)) 1 0 := rfl
          by_cases hy : yb (R a) b
          · have L : yLa R (8 * a + b) := ⟨(yar_ab (by omega)).mpr hy, by omega⟩
            have lt := yli_lt (show 8 * a + b < k by omega) L
            rw [es, yif_t L] at nx
            have ne : ¬ i - yli R (8 * a + b) = 0 := by omega
            have e1 : nI (i - yli R (8 * a + b)) + (-1 : Int32) = nI (i - (yli R (8 * a + b) + 1)) := by
              have t := yneg1 (i - (yli R (8 * a + b) + 1))
              rw [show i - (yli R (8 * a + b) + 1) + 1 = i - yli R (8 * a + b) by omega] at t
              exact t
            apply bX12_arrowAt_144_17_i
            simp (disch := omega) only [yl3, yl4, yl5, yl6, yl7, yl8, yl9, yl10, yl13, yl16, yl20, yl21, yl22, yl23, yl24, yl32, yl40, yl48, yl57, yl59, yl63, yl64, yl97, yl99, yl122, yl255, yl256, yl400, yl1000, yl2000, yl2048, yc0_eq, yc0_eq2, yc0_le, yc0_ge, yc0_lt, yc0_gt, yc0_ad, yc0_da, yc0_sb, yc0_ml, yc0_lm, yc1_eq, yc1_eq2, yc1_le, yc1_ge, yc1_lt, yc1_gt, yc1_ad, yc1_da, yc1_sb, yc1_ml, yc1_lm, yc2_eq, yc2_eq2, yc2_le, yc2_ge, yc2_lt, yc2_gt, yc2_ad, yc2_da, yc2_sb, yc2_ml, yc2_lm, yc31_ge, ymodn, yI_1sl, yc2_dv, yn1_eq, yn1_lt, xgd_t, xlt_e, Option.bind_some, nI_add, pk_mul, pk_sub, pk_div, pk_rem, yI_and, yI_or, yI_xor, yI_nd, yI_nd2, yI_31, yI_shl, nI_leI, nI_ltI, nI_eq, nI_clamp, xinb_t, yP_z, yP_if, h.1, if_neg, h.2 a (by omega), s_has (show R a < 2 ^ 31 by omega) (show b < 32 by omega), yif_t hy, if_neg ne, e1]
            exact nx
          · have L : ¬ yLa R (8 * a + b) := fun t => hy ((yar_ab (by omega)).mp t.1)
            rw [es, yif_f L] at nx
            apply bX12_arrowAt_144_17_i
            simp (disch := omega) only [yl3, yl4, yl5, yl6, yl7, yl8, yl9, yl10, yl13, yl16, yl20, yl21, yl22, yl23, yl24, yl32, yl40, yl48, yl57, yl59, yl63, yl64, yl97, yl99, yl122, yl255, yl256, yl400, yl1000, yl2000, yl2048, yc0_eq, yc0_eq2, yc0_le, yc0_ge, yc0_lt, yc0_gt, yc0_ad, yc0_da, yc0_sb, yc0_ml, yc0_lm, yc1_eq, yc1_eq2, yc1_le, yc1_ge, yc1_lt, yc1_gt, yc1_ad, yc1_da, yc1_sb, yc1_ml, yc1_lm, yc2_eq, yc2_eq2, yc2_le, yc2_ge, yc2_lt, yc2_gt, yc2_ad, yc2_da, yc2_sb, yc2_ml, yc2_lm, yc31_ge, ymodn, yI_1sl, yc2_dv, yn1_eq, yn1_lt, xgd_t, xlt_e, Option.bind_some, nI_add, pk_mul, pk_sub, pk_div, pk_rem, yI_and, yI_or, yI_xor, yI_nd, yI_nd2, yI_31, yI_shl, nI_leI, nI_ltI, nI_eq, nI_clamp, xinb_t, yP_z, yP_if, h.1, if_neg, h.2 a (by omega), s_has (show R a < 2 ^ 31 by omega) (show b < 32 by omega), yif_f hy]
            exact nx
        · have eb : b = n := by omega
          have far : a + 1 ≤ k / 8 := by
            have := kb.2
            omega
          have far2 : 8 * (a + 1) + (a + 2) ≤ k := by omega
          have nx := ih (a + 1) (a + 2) (by omega) (by omega) (by omega) (by omega) far2
          have same : yli R (8 * (a + 1) + (a + 2)) = yli R (8 * a + b) := yct_ext (by omega) fun j j1 j2 t => by
            have tb : j / 8 < n ∧ j % 8 < n := yGr_n hG t.1
            have t2 := t.2
            omega
          rw [same] at nx
          apply bX12_arrowAt_144_17_i
          simp (disch := omega) only [yl3, yl4, yl5, yl6, yl7, yl8, yl9, yl10, yl13, yl16, yl20, yl21, yl22, yl23, yl24, yl32, yl40, yl48, yl57, yl59, yl63, yl64, yl97, yl99, yl122, yl255, yl256, yl400, yl1000, yl2000, yl2048, yc0_eq, yc0_eq2, yc0_le, yc0_ge, yc0_lt, yc0_gt, yc0_ad, yc0_da, yc0_sb, yc0_ml, yc0_lm, yc1_eq, yc1_eq2, yc1_le, yc1_ge, yc1_lt, yc1_gt, yc1_ad, yc1_da, yc1_sb, yc1_ml, yc1_lm, yc2_eq, yc2_eq2, yc2_le, yc2_ge, yc2_lt, yc2_gt, yc2_ad, yc2_da, yc2_sb, yc2_ml, yc2_lm, yc31_ge, ymodn, yI_1sl, yc2_dv, yn1_eq, yn1_lt, xgd_t, xlt_e, Option.bind_some, nI_add, pk_mul, pk_sub, pk_div, pk_rem, yI_and, yI_or, yI_xor, yI_nd, yI_nd2, yI_31, yI_shl, nI_leI, nI_ltI, nI_eq, nI_clamp, xinb_t, yP_z, yP_if, h.1, if_pos]
          apply bX12_arrowAt_144_4_i
          simp (disch := omega) only [yl3, yl4, yl5, yl6, yl7, yl8, yl9, yl10, yl13, yl16, yl20, yl21, yl22, yl23, yl24, yl32, yl40, yl48, yl57, yl59, yl63, yl64, yl97, yl99, yl122, yl255, yl256, yl400, yl1000, yl2000, yl2048, yc0_eq, yc0_eq2, yc0_le, yc0_ge, yc0_lt, yc0_gt, yc0_ad, yc0_da, yc0_sb, yc0_ml, yc0_lm, yc1_eq, yc1_eq2, yc1_le, yc1_ge, yc1_lt, yc1_gt, yc1_ad, yc1_da, yc1_sb, yc1_ml, yc1_lm, yc2_eq, yc2_eq2, yc2_le, yc2_ge, yc2_lt, yc2_gt, yc2_ad, yc2_da, yc2_sb, yc2_ml, yc2_lm, yc31_ge, ymodn, yI_1sl, yc2_dv, yn1_eq, yn1_lt, xgd_t, xlt_e, Option.bind_some, nI_add, pk_mul, pk_sub, pk_div, pk_rem, yI_and, yI_or, yI_xor, yI_nd, yI_nd2, yI_31, yI_shl, nI_leI, nI_ltI, nI_eq, nI_clamp, xinb_t, yP_z, yP_if, h.1, if_neg]
          exact nx
  have s := l k 0 1 (by omega) (by decide) (by omega) (by omega) (by omega)
  have z0 : yli R (8 * 0 + 1) = 0 := by
    have : yli R (8 * 0 + 1) = yli R 0 + yif (yLa R 0) 1 0 := rfl
    rw [this, yif_f (fun t => by have := t.2; omega)]
    rfl
  rw [z0] at s
  apply fX12_arrowAt_144_i
  apply bX12_arrowAt_144_4_i
  simp (disch := omega) only [yl3, yl4, yl5, yl6, yl7, yl8, yl9, yl10, yl13, yl16, yl20, yl21, yl22, yl23, yl24, yl32, yl40, yl48, yl57, yl59, yl63, yl64, yl97, yl99, yl122, yl255, yl256, yl400, yl1000, yl2000, yl2048, yc0_eq, yc0_eq2, yc0_le, yc0_ge, yc0_lt, yc0_gt, yc0_ad, yc0_da, yc0_sb, yc0_ml, yc0_lm, yc1_eq, yc1_eq2, yc1_le, yc1_ge, yc1_lt, yc1_gt, yc1_ad, yc1_da, yc1_sb, yc1_ml, yc1_lm, yc2_eq, yc2_eq2, yc2_le, yc2_ge, yc2_lt, yc2_gt, yc2_ad, yc2_da, yc2_sb, yc2_ml, yc2_lm, yc31_ge, ymodn, yI_1sl, yc2_dv, yn1_eq, yn1_lt, xgd_t, xlt_e, Option.bind_some, nI_add, pk_mul, pk_sub, pk_div, pk_rem, yI_and, yI_or, yI_xor, yI_nd, yI_nd2, yI_31, yI_shl, nI_leI, nI_ltI, nI_eq, nI_clamp, xinb_t, yP_z, yP_if, h.1, if_neg]
  exact s
