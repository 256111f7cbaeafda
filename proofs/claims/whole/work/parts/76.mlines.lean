/-! the number of a line: the model -/
theorem s_mla_41 {n : Nat} {R : Nat → Nat} (hG : yGr n R) {m : xmm} (h : yMN n R m) {a b : Nat} (hab : a < b) (hb : b < n) : ∀ (fuel p q : Nat), 64 - (8 * p + q) ≤ fuel → p < q → q ≤ n → p ≤ a → bX12_lineAt_144_41 (nI a) (nI b) (nI (yli R (min (8 * p + q) (8 * a + b)))) (nI p) (nI q) m = some (nI (yli R (8 * a + b)), m) := by
  have hn := hG.1
  have b28 := yli_b R (show 8 * a + b ≤ 64 by omega)
  have row : ∀ (fuel p q : Nat), (∀ p' q', 64 - (8 * p' + q') ≤ fuel → p' < q' → q' ≤ n → p' ≤ a → bX12_lineAt_144_41 (nI a) (nI b) (nI (yli R (min (8 * p' + q') (8 * a + b)))) (nI p') (nI q') m = some (nI (yli R (8 * a + b)), m)) → 64 - (8 * p + q) ≤ fuel + 1 → p < q → q ≤ n → p ≤ a → bX12_lineAt_144_41 (nI a) (nI b) (nI (yli R (min (8 * p + q) (8 * a + b)))) (nI p) (nI q) m = some (nI (yli R (8 * a + b)), m) := by
    intro fuel p q ih hf hpq hq hp
    have c28 := yli_b R (show min (8 * p + q) (8 * a + b) ≤ 64 by omega)
    by_cases qn : q < n
    · have r8 := yGr_8 hG p
      have nx := ih p (q + 1) (by omega) (by omega) (by omega) hp
      have sh := s_has (S := R p) (k := q) (by omega) (by omega) m
      by_cases hy : yb (R p) q
      · have L : yLa R (8 * p + q) := ⟨(yar_ab (by omega)).mpr hy, by omega⟩
        by_cases lt : 8 * p + q < 8 * a + b
        · have e1 : min (8 * p + q) (8 * a + b) = 8 * p + q := by omega
          have e2 : min (8 * p + (q + 1)) (8 * a + b) = 8 * p + q + 1 := by omega
          have es : yli R (8 * p + q + 1) = yli R (8 * p + q) + yif (yLa R (8 * p + q)) 1 0 := rfl
          rw [e2, es, yif_t L] at nx
          rw [e1] at c28 ⊢
          apply bX12_lineAt_144_41_i
          by_cases pa : p < a
          · simp (disch := omega) only [yl3, yl4, yl5, yl6, yl7, yl8, yl9, yl10, yl13, yl16, yl20, yl21, yl22, yl23, yl24, yl32, yl40, yl48, yl57, yl59, yl63, yl64, yl97, yl99, yl122, yl255, yl256, yl400, yl1000, yl2000, yl2048, yc0_eq, yc0_eq2, yc0_le, yc0_ge, yc0_lt, yc0_gt, yc0_ad, yc0_da, yc0_sb, yc0_ml, yc0_lm, yc1_eq, yc1_eq2, yc1_le, yc1_ge, yc1_lt, yc1_gt, yc1_ad, yc1_da, yc1_sb, yc1_ml, yc1_lm, yc2_eq, yc2_eq2, yc2_le, yc2_ge, yc2_lt, yc2_gt, yc2_ad, yc2_da, yc2_sb, yc2_ml, yc2_lm, yc31_ge, ymodn, yI_1sl, yc2_dv, yn1_eq, yn1_lt, xgd_t, xlt_e, Option.bind_some, nI_add, pk_mul, pk_sub, pk_div, pk_rem, yI_and, yI_or, yI_xor, yI_nd, yI_nd2, yI_31, yI_shl, nI_leI, nI_ltI, nI_eq, nI_clamp, xinb_t, yP_z, yP_if, h.1, if_neg, h.2 p (by omega), sh, yif_t hy, if_pos]
            exact nx
          · simp (disch := omega) only [yl3, yl4, yl5, yl6, yl7, yl8, yl9, yl10, yl13, yl16, yl20, yl21, yl22, yl23, yl24, yl32, yl40, yl48, yl57, yl59, yl63, yl64, yl97, yl99, yl122, yl255, yl256, yl400, yl1000, yl2000, yl2048, yc0_eq, yc0_eq2, yc0_le, yc0_ge, yc0_lt, yc0_gt, yc0_ad, yc0_da, yc0_sb, yc0_ml, yc0_lm, yc1_eq, yc1_eq2, yc1_le, yc1_ge, yc1_lt, yc1_gt, yc1_ad, yc1_da, yc1_sb, yc1_ml, yc1_lm, yc2_eq, yc2_eq2, yc2_le, yc2_ge, yc2_lt, yc2_gt, yc2_ad, yc2_da, yc2_sb, yc2_ml, yc2_lm, yc31_ge, ymodn, yI_1sl, yc2_dv, yn1_eq, yn1_lt, xgd_t, xlt_e, Option.bind_some, nI_add, pk_mul, pk_sub, pk_div, pk_rem, yI_and, yI_or, yI_xor, yI_nd, yI_nd2, yI_31, yI_shl, nI_leI, nI_ltI, nI_eq, nI_clamp, xinb_t, yP_z, yP_if, h.1, if_neg, h.2 p (by omega), sh, yif_t hy]
            exact nx
        · have e1 : min (8 * p + q) (8 * a + b) = 8 * a + b := by omega
          have e2 : min (8 * p + (q + 1)) (8 * a + b) = 8 * a + b := by omega
          rw [e2] at nx
          rw [e1] at c28 ⊢
          apply bX12_lineAt_144_41_i
          simp (disch := omega) only [yl3, yl4, yl5, yl6, yl7, yl8, yl9, yl10, yl13, yl16, yl20, yl21, yl22, yl23, yl24, yl32, yl40, yl48, yl57, yl59, yl63, yl64, yl97, yl99, yl122, yl255, yl256, yl400, yl1000, yl2000, yl2048, yc0_eq, yc0_eq2, yc0_le, yc0_ge, yc0_lt, yc0_gt, yc0_ad, yc0_da, yc0_sb, yc0_ml, yc0_lm, yc1_eq, yc1_eq2, yc1_le, yc1_ge, yc1_lt, yc1_gt, yc1_ad, yc1_da, yc1_sb, yc1_ml, yc1_lm, yc2_eq, yc2_eq2, yc2_le, yc2_ge, yc2_lt, yc2_gt, yc2_ad, yc2_da, yc2_sb, yc2_ml, yc2_lm, yc31_ge, ymodn, yI_1sl, yc2_dv, yn1_eq, yn1_lt, xgd_t, xlt_e, Option.bind_some, nI_add, pk_mul, pk_sub, pk_div, pk_rem, yI_and, yI_or, yI_xor, yI_nd, yI_nd2, yI_31, yI_shl, nI_leI, nI_ltI, nI_eq, nI_clamp, xinb_t, yP_z, yP_if, h.1, if_neg, h.2 p (by omega), sh, yif_t hy, if_pos]
          exact nx
      · have L : ¬ yLa R (8 * p + q) := fun t => hy ((yar_ab (by omega)).mp t.1)
        have same : yli R (min (8 * p + (q + 1)) (8 * a + b)) = yli R (min (8 * p + q) (8 * a + b)) := by
          by_cases lt : 8 * p + q < 8 * a + b
          · have e1 : min (8 * p + q) (8 * a + b) = 8 * p + q := by omega
            have e2 : min (8 * p + (q + 1)) (8 * a + b) = 8 * p + q + 1 := by omega
            have es : yli R (8 * p + q + 1) = yli R (8 * p + q) + yif (yLa R (8 * p + q)) 1 0 := rfl
            rw [e1, e2, es, yif_f L, Nat.add_zero]
          · have e1 : min (8 * p + q) (8 * a + b) = min (8 * p + (q + 1)) (8 * a + b) := by omega
            rw [e1]
        rw [same] at nx
        apply bX12_lineAt_144_41_i
        simp (disch := omega) only [yl3, yl4, yl5, yl6, yl7, yl8, yl9, yl10, yl13, yl16, yl20, yl21, yl22, yl23, yl24, yl32, yl40, yl48, yl57, yl59, yl63, yl64, yl97, yl99, yl122, yl255, yl256, yl400, yl1000, yl2000, yl2048, yc0_eq, yc0_eq2, yc0_le, yc0_ge, yc0_lt, yc0_gt, yc0_ad, yc0_da, yc0_sb, yc0_ml, yc0_lm, yc1_eq, yc1_eq2, yc1_le, yc1_ge, yc1_lt, yc1_gt, yc1_ad, yc1_da, yc1_sb, yc1_ml, yc1_lm, yc2_eq, yc2_eq2, yc2_le, yc2_ge, yc2_lt, yc2_gt, yc2_ad, yc2_da, yc2_sb, yc2_ml, yc2_lm, yc31_ge, ymodn, yI_1sl, yc2_dv, yn1_eq, yn1_lt, xgd_t, xlt_e, Option.bind_some, nI_add, pk_mul, pk_sub, pk_div, pk_rem, yI_and, yI_or, yI_xor, yI_nd, yI_nd2, yI_31, yI_shl, nI_leI, nI_ltI, nI_eq, nI_clamp, xinb_t, yP_z, yP_if, h.1, if_neg, h.2 p (by omega), sh, yif_f hy]
        exact nx
    · have eq : q = n := by omega
      apply bX12_lineAt_144_41_i
      have le : nI n ≤ nI q := by rw [eq]; exact nI_le (Nat.le_refl n) (by omega)
      rw [h.1, if_pos le, nI_1]
      apply bX12_lineAt_144_29_i
      by_cases pa : p = a
      · have gt : nI a < nI (p + 1) := (nI_ltI (by omega) (by omega)).mpr (by omega)
        have e1 : min (8 * p + q) (8 * a + b) = 8 * a + b := by omega
        rw [if_pos gt, e1]
      · have gt : ¬ nI a < nI (p + 1) := fun t => by
          have := (nI_ltI (by omega) (by omega)).mp t
          omega
        have nx := ih (p + 1) (p + 2) (by omega) (by omega) (by omega) (by omega)
        have same : yli R (min (8 * (p + 1) + (p + 2)) (8 * a + b)) = yli R (min (8 * p + q) (8 * a + b)) := yct_ext (by omega) fun j j1 j2 t => by
          have tb : j / 8 < n ∧ j % 8 < n := yGr_n hG t.1
          have t2 := t.2
          omega
        rw [same] at nx
        rw [if_neg gt, nI_1]
        exact nx
  intro fuel
  induction fuel with
  | zero => intro p q hf hpq hq hp; exfalso; omega
  | succ fuel ih => intro p q; exact row fuel p q ih
