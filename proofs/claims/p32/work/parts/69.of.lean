/-! lines in the order of their numbers -/
def yLa (R : Nat → Nat) (k : Nat) : Prop := yar R k ∧ k / 8 < k % 8
noncomputable def yli (R : Nat → Nat) (k : Nat) : Nat := yct (yLa R) k
theorem yli_ar (R : Nat → Nat) : ∀ p, ysm (fun p => ypp (R p)) p = yct (yar R) (8 * p) := by
  intro p
  induction p with
  | zero => rfl
  | succ p ih =>
    have e : 8 * (p + 1) = 8 * p + 8 := by omega
    rw [ysm_s, e, yct_add, ih]
    congr 1
    apply yct_c
    intro k hk
    show yb (R p) k ↔ yad R ((8 * p + k) / 8) ((8 * p + k) % 8)
    rw [show (8 * p + k) / 8 = p by omega, show (8 * p + k) % 8 = k by omega]
    exact Iff.rfl
theorem yli_tot {R : Nat → Nat} (hG : yGd R) : yln R = yli R 64 := by
  have e1 : yct (yar R) 64 = yct (fun k => yLa R k ∨ (yar R k ∧ k % 8 < k / 8)) 64 := yct_c fun k hk => by
    constructor
    · intro t
      rcases Nat.lt_trichotomy (k / 8) (k % 8) with g | g | g
      · exact Or.inl ⟨t, g⟩
      · have t' : yad R (k / 8) (k % 8) := t
        rw [g] at t'
        exact absurd t' (hG.2.1.2 _)
      · exact Or.inr ⟨t, g⟩
    · rintro (t | t)
      · exact t.1
      · exact t.1
  have e2 : yct (fun k => yar R k ∧ k % 8 < k / 8) 64 = yct (yLa R) 64 := by
    refine yhc_u (yhc_b (Q := fun x => x < 64 ∧ yLa R x) (fun k => 8 * (k % 8) + k / 8) (fun k => 8 * (k % 8) + k / 8) (fun k hk => ?_) (fun k hk => ?_) (yhc_ct _ 64)) (yhc_ct _ 64)
    · obtain ⟨k1, k2, k3⟩ := hk
      refine ⟨⟨by omega, ?_, by show (8 * (k % 8) + k / 8) / 8 < (8 * (k % 8) + k / 8) % 8; rw [show (8 * (k % 8) + k / 8) / 8 = k % 8 by omega, show (8 * (k % 8) + k / 8) % 8 = k / 8 by omega]; omega⟩, by omega⟩
      show yad R ((8 * (k % 8) + k / 8) / 8) ((8 * (k % 8) + k / 8) % 8)
      rw [show (8 * (k % 8) + k / 8) / 8 = k % 8 by omega, show (8 * (k % 8) + k / 8) % 8 = k / 8 by omega]
      exact hG.2.1.1 _ _ k2
    · obtain ⟨k1, k2, k3⟩ := hk
      refine ⟨⟨by omega, ?_, by show (8 * (k % 8) + k / 8) % 8 < (8 * (k % 8) + k / 8) / 8; rw [show (8 * (k % 8) + k / 8) / 8 = k % 8 by omega, show (8 * (k % 8) + k / 8) % 8 = k / 8 by omega]; omega⟩, by omega⟩
      show yad R ((8 * (k % 8) + k / 8) / 8) ((8 * (k % 8) + k / 8) % 8)
      rw [show (8 * (k % 8) + k / 8) / 8 = k % 8 by omega, show (8 * (k % 8) + k / 8) % 8 = k / 8 by omega]
      exact hG.2.1.1 _ _ k2
  unfold yln
  rw [yli_ar R 8, e1, yct_or (fun k t1 t2 => by have := t1.2; have := t2.2; omega), e2]
  show (yct (yLa R) 64 + yct (yLa R) 64) / 2 = yct (yLa R) 64
  omega
theorem yli_mono (R : Nat → Nat) : ∀ {j k : Nat}, j ≤ k → yli R j ≤ yli R k := by
  intro j k h
  obtain ⟨d, rfl⟩ : ∃ d, k = j + d := ⟨k - j, by omega⟩
  unfold yli
  rw [yct_add]
  omega
theorem yli_lt {R : Nat → Nat} {j k : Nat} (h : j < k) (hj : yLa R j) : yli R j < yli R k := by
  have a := yli_mono R (show j + 1 ≤ k from h)
  have b : yli R (j + 1) = yli R j + 1 := by
    unfold yli
    rw [yct_s, yif_t hj]
  omega
/-- the line of a number -/
def yLI (R : Nat → Nat) (i k : Nat) : Prop := k < 64 ∧ yLa R k ∧ yli R k = i
theorem yLI_ex {R : Nat → Nat} {i : Nat} : ∀ {M : Nat}, M ≤ 64 → i < yli R M → ∃ k, k < M ∧ yLI R i k := by
  intro M
  induction M with
  | zero => intro _ h; exact absurd h (Nat.not_lt_zero i)
  | succ M ih =>
    intro hM h
    by_cases h2 : i < yli R M
    · obtain ⟨k, k1, k2⟩ := ih (by omega) h2
      exact ⟨k, by omega, k2⟩
    · have e : yli R (M + 1) = yli R M + yif (yLa R M) 1 0 := rfl
      rw [e] at h
      by_cases hl : yLa R M
      · rw [yif_t hl] at h
        exact ⟨M, by omega, by omega, hl, by omega⟩
      · rw [yif_f hl] at h; omega
theorem yLI_u {R : Nat → Nat} {i j k : Nat} (h : yLI R i j) (h2 : yLI R i k) : j = k := by
  obtain ⟨_, a, b⟩ := h
  obtain ⟨_, c, d⟩ := h2
  rcases Nat.lt_trichotomy j k with g | g | g
  · have := yli_lt g a; omega
  · exact g
  · have := yli_lt g c; omega
theorem s_lineAt_l {v r n : Nat} (h : ynet v r) {R : Nat → Nat} (hG : yGr n R) (x : Int32) {m : xmm} (hR : yrw r R m) : (∀ k, (∃ i, i < 64 ∧ x = nI i ∧ yLI R i k) → fX3_lineAt v x m = some (nI k, m)) ∧ ((¬ ∃ i k, i < 64 ∧ x = nI i ∧ yLI R i k) → fX3_lineAt v x m = some (-1, m)) := by
  obtain ⟨a1, a2, a3, a4, a5⟩ := h
  have step : ∀ (k : Nat), k < 64 → ∀ {z : Int32 × xmm}, yif (yli R k < 64 ∧ yLa R k ∧ x = nI (yli R k)) (some (nI k, m)) (bX3_lineAt_4 v x (nI (yli R (k + 1))) (nI (k + 1)) m) = some z → bX3_lineAt_4 v x (nI (yli R k)) (nI k) m = some z := by
    intro k hk z hz
    have ar := s_isArrow a5 a4 hR (fun p _ => yGr_8 hG p) hk
    have lk : yli R k ≤ k := yct_le _ k
    have es : yli R (k + 1) = yli R k + yif (yLa R k) 1 0 := rfl
    apply bX3_lineAt_4_i
    by_cases hl : k / 8 < k % 8
    · have na : ¬ (8 * (k % 8) + k / 8) ≤ k := by omega
      by_cases ha : yb (R (k / 8)) (k % 8)
      · have L : yLa R k := ⟨ha, hl⟩
        simp (disch := omega) only [yl3, yl4, yl5, yl6, yl7, yl8, yl9, yl10, yl13, yl16, yl20, yl21, yl22, yl23, yl24, yl32, yl40, yl48, yl57, yl59, yl63, yl64, yl97, yl99, yl122, yl255, yl256, yl400, yl1000, yl2000, yl2048, yc0_eq, yc0_eq2, yc0_le, yc0_ge, yc0_lt, yc0_gt, yc0_ad, yc0_da, yc0_sb, yc0_ml, yc0_lm, yc1_eq, yc1_eq2, yc1_le, yc1_ge, yc1_lt, yc1_gt, yc1_ad, yc1_da, yc1_sb, yc1_ml, yc1_lm, yc2_eq, yc2_eq2, yc2_le, yc2_ge, yc2_lt, yc2_gt, yc2_ad, yc2_da, yc2_sb, yc2_ml, yc2_lm, yc31_ge, ymodn, yI_1sl, yc2_dv, yn1_eq, yn1_lt, xgd_t, xlt_e, Option.bind_some, nI_add, pk_mul, pk_sub, pk_div, pk_rem, yI_and, yI_or, yI_xor, yI_nd, yI_nd2, yI_31, yI_shl, nI_leI, nI_ltI, nI_eq, nI_clamp, xinb_t, yP_z, yP_if, if_neg, s_against hk, a1, a2, a3, xgr, Bool.not_false, ar, yif_t ha]
        by_cases ex : x = nI (yli R k)
        · rw [yif_t ⟨by omega, L, ex⟩] at hz
          rw [if_pos ex.symm]
          exact hz
        · rw [yif_f (fun t => ex t.2.2), es, yif_t L] at hz
          rw [if_neg (fun t => ex t.symm)]
          exact hz
      · have L : ¬ yLa R k := fun t => ha t.1
        rw [yif_f (fun t => L t.2.1), es, yif_f L] at hz
        simp (disch := omega) only [yl3, yl4, yl5, yl6, yl7, yl8, yl9, yl10, yl13, yl16, yl20, yl21, yl22, yl23, yl24, yl32, yl40, yl48, yl57, yl59, yl63, yl64, yl97, yl99, yl122, yl255, yl256, yl400, yl1000, yl2000, yl2048, yc0_eq, yc0_eq2, yc0_le, yc0_ge, yc0_lt, yc0_gt, yc0_ad, yc0_da, yc0_sb, yc0_ml, yc0_lm, yc1_eq, yc1_eq2, yc1_le, yc1_ge, yc1_lt, yc1_gt, yc1_ad, yc1_da, yc1_sb, yc1_ml, yc1_lm, yc2_eq, yc2_eq2, yc2_le, yc2_ge, yc2_lt, yc2_gt, yc2_ad, yc2_da, yc2_sb, yc2_ml, yc2_lm, yc31_ge, ymodn, yI_1sl, yc2_dv, yn1_eq, yn1_lt, xgd_t, xlt_e, Option.bind_some, nI_add, pk_mul, pk_sub, pk_div, pk_rem, yI_and, yI_or, yI_xor, yI_nd, yI_nd2, yI_31, yI_shl, nI_leI, nI_ltI, nI_eq, nI_clamp, xinb_t, yP_z, yP_if, if_neg, s_against hk, a1, a2, a3, xgr, Bool.not_false, ar, yif_f ha]
        exact hz
    · have L : ¬ yLa R k := fun t => hl t.2
      have na : (8 * (k % 8) + k / 8) ≤ k := by omega
      rw [yif_f (fun t => L t.2.1), es, yif_f L] at hz
      simp (disch := omega) only [yl3, yl4, yl5, yl6, yl7, yl8, yl9, yl10, yl13, yl16, yl20, yl21, yl22, yl23, yl24, yl32, yl40, yl48, yl57, yl59, yl63, yl64, yl97, yl99, yl122, yl255, yl256, yl400, yl1000, yl2000, yl2048, yc0_eq, yc0_eq2, yc0_le, yc0_ge, yc0_lt, yc0_gt, yc0_ad, yc0_da, yc0_sb, yc0_ml, yc0_lm, yc1_eq, yc1_eq2, yc1_le, yc1_ge, yc1_lt, yc1_gt, yc1_ad, yc1_da, yc1_sb, yc1_ml, yc1_lm, yc2_eq, yc2_eq2, yc2_le, yc2_ge, yc2_lt, yc2_gt, yc2_ad, yc2_da, yc2_sb, yc2_ml, yc2_lm, yc31_ge, ymodn, yI_1sl, yc2_dv, yn1_eq, yn1_lt, xgd_t, xlt_e, Option.bind_some, nI_add, pk_mul, pk_sub, pk_div, pk_rem, yI_and, yI_or, yI_xor, yI_nd, yI_nd2, yI_31, yI_shl, nI_leI, nI_ltI, nI_eq, nI_clamp, xinb_t, yP_z, yP_if, if_neg, s_against hk, if_pos na]
      exact hz
  constructor
  · rintro k ⟨i, i1, ex, k1, k2, k3⟩
    have l : ∀ (d j : Nat), j + d = k → bX3_lineAt_4 v x (nI (yli R j)) (nI j) m = some (nI k, m) := by
      intro d
      induction d with
      | zero =>
        intro j hj
        have e : j = k := by omega
        subst e
        apply step j k1
        rw [yif_t ⟨by omega, k2, by rw [k3]; exact ex⟩]
      | succ d ih =>
        intro j hj
        apply step j (by omega)
        rw [yif_f]
        · exact ih (j + 1) (by omega)
        · rintro ⟨t1, t2, t3⟩
          have := yli_lt (show j < k by omega) t2
          rw [ex] at t3
          have := (nI_eq (by omega) (by omega)).mp t3
          omega
    apply fX3_lineAt_i
    exact l k 0 (Nat.zero_add k)
  · intro no
    have l : ∀ (d j : Nat), j + d = 64 → bX3_lineAt_4 v x (nI (yli R j)) (nI j) m = some (-1, m) := by
      intro d
      induction d with
      | zero =>
        intro j hj
        have e : j = 64 := by omega
        subst e
        apply bX3_lineAt_4_i
        simp (disch := omega) only [yl3, yl4, yl5, yl6, yl7, yl8, yl9, yl10, yl13, yl16, yl20, yl21, yl22, yl23, yl24, yl32, yl40, yl48, yl57, yl59, yl63, yl64, yl97, yl99, yl122, yl255, yl256, yl400, yl1000, yl2000, yl2048, yc0_eq, yc0_eq2, yc0_le, yc0_ge, yc0_lt, yc0_gt, yc0_ad, yc0_da, yc0_sb, yc0_ml, yc0_lm, yc1_eq, yc1_eq2, yc1_le, yc1_ge, yc1_lt, yc1_gt, yc1_ad, yc1_da, yc1_sb, yc1_ml, yc1_lm, yc2_eq, yc2_eq2, yc2_le, yc2_ge, yc2_lt, yc2_gt, yc2_ad, yc2_da, yc2_sb, yc2_ml, yc2_lm, yc31_ge, ymodn, yI_1sl, yc2_dv, yn1_eq, yn1_lt, xgd_t, xlt_e, Option.bind_some, nI_add, pk_mul, pk_sub, pk_div, pk_rem, yI_and, yI_or, yI_xor, yI_nd, yI_nd2, yI_31, yI_shl, nI_leI, nI_ltI, nI_eq, nI_clamp, xinb_t, yP_z, yP_if, if_pos]
      | succ d ih =>
        intro j hj
        apply step j (by omega)
        rw [yif_f]
        · exact ih (j + 1) (by omega)
        · rintro ⟨t1, t2, t3⟩
          exact no ⟨yli R j, j, t1, t3, by omega, t2, rfl⟩
    apply fX3_lineAt_i
    exact l 64 0 rfl
