/-! whether an arrow forces another; the model's search -/
theorem s_compels {R : Nat → Nat} {v : Nat} (hv : Nat.beq v 1999 = false) (hk : xkd v = (1, 8)) (hR8 : ∀ p, p < 8 → R p < 256) (hsy : ysy (yad R)) {m : xmm} (hR : yrw v R m) {k l : Nat} (hk64 : k < 64) (hl64 : l < 64) (hka : yad R (k / 8) (k % 8)) : fX6_compels v (nI k) (nI l) m = some (yP (yfc (yad R) (yan k) (yan l)), m) := by
  have a8 : k / 8 < 8 := by omega
  have b8 : k % 8 < 8 := by omega
  have ra := hR8 _ a8
  have rb := hR8 _ b8
  apply fX6_compels_i
  simp (disch := omega) only [yl3, yl4, yl5, yl6, yl7, yl8, yl9, yl10, yl13, yl16, yl20, yl21, yl22, yl23, yl24, yl32, yl40, yl48, yl57, yl59, yl63, yl64, yl97, yl99, yl122, yl255, yl256, yl400, yl1000, yl2000, yl2048, yc0_eq, yc0_eq2, yc0_le, yc0_ge, yc0_lt, yc0_gt, yc0_ad, yc0_da, yc0_sb, yc0_ml, yc0_lm, yc1_eq, yc1_eq2, yc1_le, yc1_ge, yc1_lt, yc1_gt, yc1_ad, yc1_da, yc1_sb, yc1_ml, yc1_lm, yc2_eq, yc2_eq2, yc2_le, yc2_ge, yc2_lt, yc2_gt, yc2_ad, yc2_da, yc2_sb, yc2_ml, yc2_lm, yc31_ge, ymodn, yI_1sl, yc2_dv, yn1_eq, yn1_lt, xgd_t, xlt_e, Option.bind_some, nI_add, pk_mul, pk_sub, pk_div, pk_rem, yI_and, yI_or, yI_xor, yI_nd, yI_nd2, yI_31, yI_shl, nI_leI, nI_ltI, nI_eq, nI_clamp, xinb_t, yP_z, yP_if, hv, Bool.not_false, xia_t hk, hR _ a8, hR _ b8, s_contains]
  by_cases h1 : k / 8 = l / 8
  · rw [if_pos h1]
    by_cases h2 : k % 8 = l % 8
    · rw [if_pos h2, yP_f]
      rintro ⟨_, _, ⟨_, g, _⟩ | ⟨_, g, _⟩⟩
      · exact g h2
      · exact g h1
    · rw [if_neg h2]
      by_cases g2 : yb (R (k / 8)) (l % 8)
      · rw [yif_t g2]
        have g2' : yad R (l / 8) (l % 8) := by rw [← h1]; exact g2
        by_cases g3 : yb (R (k % 8)) (l % 8)
        · rw [yif_t g3, yP_f]
          rintro ⟨_, _, ⟨_, _, g⟩ | ⟨g, _, _⟩⟩
          · exact g g3
          · exact h2 g
        · rw [yif_f g3, yP_t ⟨hka, g2', Or.inl ⟨h1, h2, g3⟩⟩]
      · rw [yif_f g2, yP_f]
        intro e
        exact g2 (by rw [h1]; exact e.2.1)
  · rw [if_neg h1]
    by_cases h2 : k % 8 = l % 8
    · rw [if_pos h2]
      by_cases g2 : yb (R (k % 8)) (l / 8)
      · rw [yif_t g2]
        have g2' : yad R (l / 8) (l % 8) := by rw [← h2]; exact hsy.1 _ _ g2
        by_cases g3 : yb (R (k / 8)) (l / 8)
        · rw [yif_t g3, yP_f]
          rintro ⟨_, _, ⟨g, _, _⟩ | ⟨_, _, g⟩⟩
          · exact h1 g
          · exact g g3
        · rw [yif_f g3, yP_t ⟨hka, g2', Or.inr ⟨h2, h1, g3⟩⟩]
      · rw [yif_f g2, yP_f]
        intro e
        exact g2 (by have := hsy.1 _ _ e.2.1; rw [h2]; exact this)
    · rw [if_neg h2, yP_f]
      rintro ⟨_, _, ⟨g, _, _⟩ | ⟨g, _, _⟩⟩
      · exact h1 g
      · exact h2 g
