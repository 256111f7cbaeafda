/-! the LINES of a class: the class -/
theorem yli_28 (R : Nat → Nat) : ∀ p, p ≤ 8 → yli R (8 * p) + (8 - p) * (7 - p) / 2 ≤ 28 := by
  intro p
  induction p with
  | zero => intro _; exact Nat.le_of_eq rfl
  | succ p ih =>
    intro hp
    have i := ih (by omega)
    have e : 8 * (p + 1) = 8 * p + 8 := by omega
    have row : yct (fun j => yLa R (8 * p + j)) 8 ≤ 7 - p := by
      have t := yct_add (fun j => yLa R (8 * p + j)) (p + 1) (7 - p)
      rw [show p + 1 + (7 - p) = 8 by omega] at t
      have z : yct (fun j => yLa R (8 * p + j)) (p + 1) = 0 := yct_0 fun k hk h => by
        have := h.2
        omega
      have b := yct_le (fun k => yLa R (8 * p + (p + 1 + k))) (7 - p)
      rw [t, z]
      omega
    have s : yli R (8 * (p + 1)) = yli R (8 * p) + yct (fun j => yLa R (8 * p + j)) 8 := by
      unfold yli
      rw [e, yct_add]
    rw [s]
    have : p = 0 ∨ p = 1 ∨ p = 2 ∨ p = 3 ∨ p = 4 ∨ p = 5 ∨ p = 6 ∨ p = 7 := by omega
    rcases this with e | e | e | e | e | e | e | e <;> subst e <;> omega
theorem yli_b (R : Nat → Nat) {k : Nat} (h : k ≤ 64) : yli R k ≤ 28 := by
  have a : yli R 64 + (8 - 8) * (7 - 8) / 2 ≤ 28 := yli_28 R 8 (Nat.le_refl 8)
  have b := yli_mono R h
  omega
def ylc (R : Nat → Nat) (x j : Nat) : Prop := ycl (yad R) (yan x) (yan j) ∨ ycl (yad R) (yan x) (yrv (yan j))
noncomputable def ylm (R : Nat → Nat) (x k : Nat) : Nat := ybs (fun i => ∃ j, j < k ∧ yLa R j ∧ ylc R x j ∧ yli R j = i) 31
theorem ylm_b {R : Nat → Nat} {x k i : Nat} (hk : k ≤ 64) : yb (ylm R x k) i ↔ ∃ j, j < k ∧ yLa R j ∧ ylc R x j ∧ yli R j = i := by
  refine yb_bs.trans ⟨fun t => t.2, fun t => ⟨?_, t⟩⟩
  obtain ⟨j, j1, _, _, j4⟩ := t
  have := yli_b R (show j ≤ 64 by omega)
  omega
theorem ylm_s {R : Nat → Nat} {x k : Nat} (hk : k < 64) : ylm R x (k + 1) = yif (yLa R k ∧ ylc R x k) (ylm R x k ||| 2 ^ yli R k) (ylm R x k) := by
  apply ytb_ext
  intro i
  refine (ylm_b (by omega)).trans ?_
  by_cases h : yLa R k ∧ ylc R x k
  · rw [yif_t h]
    refine Iff.trans ?_ yb_or.symm
    rw [yb_pw, ylm_b (by omega)]
    constructor
    · rintro ⟨j, j1, j2⟩
      by_cases e : j = k
      · subst e; exact Or.inr j2.2.2.symm
      · exact Or.inl ⟨j, by omega, j2⟩
    · rintro (⟨j, j1, j2⟩ | e)
      · exact ⟨j, by omega, j2⟩
      · exact ⟨k, by omega, h.1, h.2, e.symm⟩
  · rw [yif_f h]
    refine Iff.trans ?_ (ylm_b (by omega)).symm
    constructor
    · rintro ⟨j, j1, j2⟩
      by_cases e : j = k
      · subst e; exact absurd ⟨j2.1, j2.2.1⟩ h
      · exact ⟨j, by omega, j2⟩
    · rintro ⟨j, j1, j2⟩
      exact ⟨j, by omega, j2⟩
theorem s_linesOf {R : Nat → Nat} (hG : yGd R) {x : Nat} (h64 : x < 64) (hx : yar R x) {m : xmm} (hm : yCS R 97 101 102 m) : fX1_linesOf_97 (nI x) m = some (nI (ylm R x 64), m) := by
  have l : ∀ (d k : Nat), k + d = 64 → bX1_linesOf_97_7 (nI x) (nI (ylm R x k)) (nI (yli R k)) (nI k) m = some (nI (ylm R x 64), m) := by
    intro d
    induction d with
    | zero =>
      intro k hk
      have e : k = 64 := by omega
      subst e
      apply bX1_linesOf_97_7_i
      simp (disch := omega) only [yl3, yl4, yl5, yl6, yl7, yl8, yl9, yl10, yl13, yl16, yl20, yl21, yl22, yl23, yl24, yl32, yl40, yl48, yl57, yl59, yl63, yl64, yl97, yl99, yl122, yl255, yl256, yl400, yl1000, yl2000, yl2048, yc0_eq, yc0_eq2, yc0_le, yc0_ge, yc0_lt, yc0_gt, yc0_ad, yc0_da, yc0_sb, yc0_ml, yc0_lm, yc1_eq, yc1_eq2, yc1_le, yc1_ge, yc1_lt, yc1_gt, yc1_ad, yc1_da, yc1_sb, yc1_ml, yc1_lm, yc2_eq, yc2_eq2, yc2_le, yc2_ge, yc2_lt, yc2_gt, yc2_ad, yc2_da, yc2_sb, yc2_ml, yc2_lm, yc31_ge, ymodn, yI_1sl, yc2_dv, yn1_eq, yn1_lt, xgd_t, xlt_e, Option.bind_some, nI_add, pk_mul, pk_sub, pk_div, pk_rem, yI_and, yI_or, yI_xor, yI_nd, yI_nd2, yI_31, yI_shl, nI_leI, nI_ltI, nI_eq, nI_clamp, xinb_t, yP_z, yP_if, if_pos]
    | succ d ih =>
      intro k hk
      have k64 : k < 64 := by omega
      have e := ih (k + 1) (by omega)
      have es : yli R (k + 1) = yli R k + yif (yLa R k) 1 0 := rfl
      have yb28 := yli_b R (show k ≤ 64 by omega)
      rw [es, ylm_s k64] at e
      have ar := s_isArrow (v := 101) rfl rfl hm.1 hG.1 k64
      have ag := s_against k64 m
      have a64 : 8 * (k % 8) + k / 8 < 64 := by omega
      have q1 : m.1 102 k = m.1 102 x ↔ ycl (yad R) (yan x) (yan k) := eq_comm.trans (yCT_eq hG hm.2.1 h64 k64 hx)
      have q2 : m.1 102 (8 * (k % 8) + k / 8) = m.1 102 x ↔ ycl (yad R) (yan x) (yrv (yan k)) := by
        rw [← yan_rv k64]
        exact eq_comm.trans (yCT_eq hG hm.2.1 h64 a64 hx)
      apply bX1_linesOf_97_7_i
      by_cases hl : k / 8 < k % 8
      · by_cases ha : yb (R (k / 8)) (k % 8)
        · have L : yLa R k := ⟨ha, hl⟩
          rw [yif_t L] at e
          by_cases hc : ycl (yad R) (yan x) (yan k)
          · rw [yif_t ⟨L, Or.inl hc⟩] at e
            simp (disch := omega) only [yl3, yl4, yl5, yl6, yl7, yl8, yl9, yl10, yl13, yl16, yl20, yl21, yl22, yl23, yl24, yl32, yl40, yl48, yl57, yl59, yl63, yl64, yl97, yl99, yl122, yl255, yl256, yl400, yl1000, yl2000, yl2048, yc0_eq, yc0_eq2, yc0_le, yc0_ge, yc0_lt, yc0_gt, yc0_ad, yc0_da, yc0_sb, yc0_ml, yc0_lm, yc1_eq, yc1_eq2, yc1_le, yc1_ge, yc1_lt, yc1_gt, yc1_ad, yc1_da, yc1_sb, yc1_ml, yc1_lm, yc2_eq, yc2_eq2, yc2_le, yc2_ge, yc2_lt, yc2_gt, yc2_ad, yc2_da, yc2_sb, yc2_ml, yc2_lm, yc31_ge, ymodn, yI_1sl, yc2_dv, yn1_eq, yn1_lt, xgd_t, xlt_e, Option.bind_some, nI_add, pk_mul, pk_sub, pk_div, pk_rem, yI_and, yI_or, yI_xor, yI_nd, yI_nd2, yI_31, yI_shl, nI_leI, nI_ltI, nI_eq, nI_clamp, xinb_t, yP_z, yP_if, if_neg, ag, ar, yif_t ha, if_pos (q1.mpr hc)]
            apply bX1_linesOf_97_71_i
            simp (disch := omega) only [yl3, yl4, yl5, yl6, yl7, yl8, yl9, yl10, yl13, yl16, yl20, yl21, yl22, yl23, yl24, yl32, yl40, yl48, yl57, yl59, yl63, yl64, yl97, yl99, yl122, yl255, yl256, yl400, yl1000, yl2000, yl2048, yc0_eq, yc0_eq2, yc0_le, yc0_ge, yc0_lt, yc0_gt, yc0_ad, yc0_da, yc0_sb, yc0_ml, yc0_lm, yc1_eq, yc1_eq2, yc1_le, yc1_ge, yc1_lt, yc1_gt, yc1_ad, yc1_da, yc1_sb, yc1_ml, yc1_lm, yc2_eq, yc2_eq2, yc2_le, yc2_ge, yc2_lt, yc2_gt, yc2_ad, yc2_da, yc2_sb, yc2_ml, yc2_lm, yc31_ge, ymodn, yI_1sl, yc2_dv, yn1_eq, yn1_lt, xgd_t, xlt_e, Option.bind_some, nI_add, pk_mul, pk_sub, pk_div, pk_rem, yI_and, yI_or, yI_xor, yI_nd, yI_nd2, yI_31, yI_shl, nI_leI, nI_ltI, nI_eq, nI_clamp, xinb_t, yP_z, yP_if, yI_1shl]
            exact e
          · by_cases hc2 : ycl (yad R) (yan x) (yrv (yan k))
            · rw [yif_t ⟨L, Or.inr hc2⟩] at e
              simp (disch := omega) only [yl3, yl4, yl5, yl6, yl7, yl8, yl9, yl10, yl13, yl16, yl20, yl21, yl22, yl23, yl24, yl32, yl40, yl48, yl57, yl59, yl63, yl64, yl97, yl99, yl122, yl255, yl256, yl400, yl1000, yl2000, yl2048, yc0_eq, yc0_eq2, yc0_le, yc0_ge, yc0_lt, yc0_gt, yc0_ad, yc0_da, yc0_sb, yc0_ml, yc0_lm, yc1_eq, yc1_eq2, yc1_le, yc1_ge, yc1_lt, yc1_gt, yc1_ad, yc1_da, yc1_sb, yc1_ml, yc1_lm, yc2_eq, yc2_eq2, yc2_le, yc2_ge, yc2_lt, yc2_gt, yc2_ad, yc2_da, yc2_sb, yc2_ml, yc2_lm, yc31_ge, ymodn, yI_1sl, yc2_dv, yn1_eq, yn1_lt, xgd_t, xlt_e, Option.bind_some, nI_add, pk_mul, pk_sub, pk_div, pk_rem, yI_and, yI_or, yI_xor, yI_nd, yI_nd2, yI_31, yI_shl, nI_leI, nI_ltI, nI_eq, nI_clamp, xinb_t, yP_z, yP_if, if_neg, ag, ar, yif_t ha, if_neg (fun t => hc (q1.mp t)), if_pos (q2.mpr hc2)]
              apply bX1_linesOf_97_71_i
              simp (disch := omega) only [yl3, yl4, yl5, yl6, yl7, yl8, yl9, yl10, yl13, yl16, yl20, yl21, yl22, yl23, yl24, yl32, yl40, yl48, yl57, yl59, yl63, yl64, yl97, yl99, yl122, yl255, yl256, yl400, yl1000, yl2000, yl2048, yc0_eq, yc0_eq2, yc0_le, yc0_ge, yc0_lt, yc0_gt, yc0_ad, yc0_da, yc0_sb, yc0_ml, yc0_lm, yc1_eq, yc1_eq2, yc1_le, yc1_ge, yc1_lt, yc1_gt, yc1_ad, yc1_da, yc1_sb, yc1_ml, yc1_lm, yc2_eq, yc2_eq2, yc2_le, yc2_ge, yc2_lt, yc2_gt, yc2_ad, yc2_da, yc2_sb, yc2_ml, yc2_lm, yc31_ge, ymodn, yI_1sl, yc2_dv, yn1_eq, yn1_lt, xgd_t, xlt_e, Option.bind_some, nI_add, pk_mul, pk_sub, pk_div, pk_rem, yI_and, yI_or, yI_xor, yI_nd, yI_nd2, yI_31, yI_shl, nI_leI, nI_ltI, nI_eq, nI_clamp, xinb_t, yP_z, yP_if, yI_1shl]
              exact e
            · rw [yif_f (fun t => t.2.elim hc hc2)] at e
              simp (disch := omega) only [yl3, yl4, yl5, yl6, yl7, yl8, yl9, yl10, yl13, yl16, yl20, yl21, yl22, yl23, yl24, yl32, yl40, yl48, yl57, yl59, yl63, yl64, yl97, yl99, yl122, yl255, yl256, yl400, yl1000, yl2000, yl2048, yc0_eq, yc0_eq2, yc0_le, yc0_ge, yc0_lt, yc0_gt, yc0_ad, yc0_da, yc0_sb, yc0_ml, yc0_lm, yc1_eq, yc1_eq2, yc1_le, yc1_ge, yc1_lt, yc1_gt, yc1_ad, yc1_da, yc1_sb, yc1_ml, yc1_lm, yc2_eq, yc2_eq2, yc2_le, yc2_ge, yc2_lt, yc2_gt, yc2_ad, yc2_da, yc2_sb, yc2_ml, yc2_lm, yc31_ge, ymodn, yI_1sl, yc2_dv, yn1_eq, yn1_lt, xgd_t, xlt_e, Option.bind_some, nI_add, pk_mul, pk_sub, pk_div, pk_rem, yI_and, yI_or, yI_xor, yI_nd, yI_nd2, yI_31, yI_shl, nI_leI, nI_ltI, nI_eq, nI_clamp, xinb_t, yP_z, yP_if, if_neg, ag, ar, yif_t ha, if_neg (fun t => hc (q1.mp t)), if_neg (fun t => hc2 (q2.mp t))]
              exact e
        · have L : ¬ yLa R k := fun t => ha t.1
          rw [yif_f L, yif_f (fun t => L t.1), Nat.add_zero] at e
          simp (disch := omega) only [yl3, yl4, yl5, yl6, yl7, yl8, yl9, yl10, yl13, yl16, yl20, yl21, yl22, yl23, yl24, yl32, yl40, yl48, yl57, yl59, yl63, yl64, yl97, yl99, yl122, yl255, yl256, yl400, yl1000, yl2000, yl2048, yc0_eq, yc0_eq2, yc0_le, yc0_ge, yc0_lt, yc0_gt, yc0_ad, yc0_da, yc0_sb, yc0_ml, yc0_lm, yc1_eq, yc1_eq2, yc1_le, yc1_ge, yc1_lt, yc1_gt, yc1_ad, yc1_da, yc1_sb, yc1_ml, yc1_lm, yc2_eq, yc2_eq2, yc2_le, yc2_ge, yc2_lt, yc2_gt, yc2_ad, yc2_da, yc2_sb, yc2_ml, yc2_lm, yc31_ge, ymodn, yI_1sl, yc2_dv, yn1_eq, yn1_lt, xgd_t, xlt_e, Option.bind_some, nI_add, pk_mul, pk_sub, pk_div, pk_rem, yI_and, yI_or, yI_xor, yI_nd, yI_nd2, yI_31, yI_shl, nI_leI, nI_ltI, nI_eq, nI_clamp, xinb_t, yP_z, yP_if, if_neg, ag, ar, yif_f ha]
          exact e
      · have L : ¬ yLa R k := fun t => hl t.2
        have na : (8 * (k % 8) + k / 8) ≤ k := by omega
        rw [yif_f L, yif_f (fun t => L t.1), Nat.add_zero] at e
        simp (disch := omega) only [yl3, yl4, yl5, yl6, yl7, yl8, yl9, yl10, yl13, yl16, yl20, yl21, yl22, yl23, yl24, yl32, yl40, yl48, yl57, yl59, yl63, yl64, yl97, yl99, yl122, yl255, yl256, yl400, yl1000, yl2000, yl2048, yc0_eq, yc0_eq2, yc0_le, yc0_ge, yc0_lt, yc0_gt, yc0_ad, yc0_da, yc0_sb, yc0_ml, yc0_lm, yc1_eq, yc1_eq2, yc1_le, yc1_ge, yc1_lt, yc1_gt, yc1_ad, yc1_da, yc1_sb, yc1_ml, yc1_lm, yc2_eq, yc2_eq2, yc2_le, yc2_ge, yc2_lt, yc2_gt, yc2_ad, yc2_da, yc2_sb, yc2_ml, yc2_lm, yc31_ge, ymodn, yI_1sl, yc2_dv, yn1_eq, yn1_lt, xgd_t, xlt_e, Option.bind_some, nI_add, pk_mul, pk_sub, pk_div, pk_rem, yI_and, yI_or, yI_xor, yI_nd, yI_nd2, yI_31, yI_shl, nI_leI, nI_ltI, nI_eq, nI_clamp, xinb_t, yP_z, yP_if, if_neg, ag, if_pos na]
        exact e
  have z : ylm R x 0 = 0 := by
    refine Classical.byContradiction fun hne => ?_
    obtain ⟨i, hi⟩ := yex_ne hne
    obtain ⟨j, j1, _⟩ := (ylm_b (by omega)).mp hi
    exact absurd j1 (Nat.not_lt_zero j)
  have s := l 64 0 rfl
  rw [z] at s
  apply fX1_linesOf_97_i
  exact s
