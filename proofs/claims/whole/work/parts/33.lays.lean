/-! whether an arrow forces another; the model's search -/
theorem s_forcesIt {R : Nat → Nat} {v : Nat} {N : Nat} (hv : Nat.beq v 1999 = false) (hk : xkd v = (1, N)) (hN : 8 ≤ N ∧ N < 100) (hR8 : ∀ p, p < 8 → R p < 256) {m : xmm} (hR : yrw v R m) {k l : Nat} (hk64 : k < 64) (hl64 : l < 64) : fX12_forcesIt v (nI k) (nI l) m = some (yP (yfc (yad R) (yan k) (yan l)), m) := by
  have a8 : k / 8 < 8 := by omega
  have b8 : k % 8 < 8 := by omega
  have c8 : l / 8 < 8 := by omega
  have d8 : l % 8 < 8 := by omega
  have ra := hR8 _ a8
  have rb := hR8 _ b8
  have rc := hR8 _ c8
  apply fX12_forcesIt_i
  have e1 : ∀ x : Nat, x < 8 → ∀ y : Nat, y < 8 → fX12_isArrow v (nI x) (nI y) m = some (yP (yb (R x) y), m) := fun x hx y hy => s_isArrow12 hv hk (by omega) (by omega) (by omega) (hR x hx) (by have := hR8 x hx; omega)
  by_cases hkl : k = l
  · subst hkl
    rw [if_pos rfl, yP_f]
    rintro ⟨_, _, ⟨_, g, _⟩ | ⟨_, g, _⟩⟩
    · exact g rfl
    · exact g rfl
  · have hne : ¬ nI k = nI l := fun e => hkl ((nI_eq (by omega) (by omega)).mp e)
    rw [if_neg hne]
    have last : bX12_forcesIt_69 v (nI (k / 8)) (nI (k % 8)) (nI (l / 8)) (nI (l % 8)) m = some (yP (k % 8 = l % 8 ∧ ¬ yb (R (k / 8)) (l / 8)), m) := by
      apply bX12_forcesIt_69_i
      simp (disch := omega) only [yl3, yl4, yl5, yl6, yl7, yl8, yl9, yl10, yl13, yl16, yl20, yl21, yl22, yl23, yl24, yl32, yl40, yl48, yl57, yl59, yl63, yl64, yl97, yl99, yl122, yl255, yl256, yl400, yl1000, yl2000, yl2048, yc0_eq, yc0_eq2, yc0_le, yc0_ge, yc0_lt, yc0_gt, yc0_ad, yc0_da, yc0_sb, yc0_ml, yc0_lm, yc1_eq, yc1_eq2, yc1_le, yc1_ge, yc1_lt, yc1_gt, yc1_ad, yc1_da, yc1_sb, yc1_ml, yc1_lm, yc2_eq, yc2_eq2, yc2_le, yc2_ge, yc2_lt, yc2_gt, yc2_ad, yc2_da, yc2_sb, yc2_ml, yc2_lm, yc31_ge, ymodn, yI_1sl, yc2_dv, yn1_eq, yn1_lt, xgd_t, xlt_e, Option.bind_some, nI_add, pk_mul, pk_sub, pk_div, pk_rem, yI_and, yI_or, yI_xor, yI_nd, yI_nd2, yI_31, yI_shl, nI_leI, nI_ltI, nI_eq, nI_clamp, xinb_t, yP_z, yP_if, hv, Bool.not_false, xia_t hk, hR _ a8, s_has]
      by_cases h1 : k % 8 = l % 8
      · rw [if_pos h1]
        by_cases h2 : yb (R (k / 8)) (l / 8)
        · rw [yif_t h2, yP_f (fun e => e.2 h2)]
        · rw [yif_f h2, yP_t ⟨h1, h2⟩]
      · rw [if_neg h1, yP_f (fun e => h1 e.1)]
    simp (disch := omega) only [yl3, yl4, yl5, yl6, yl7, yl8, yl9, yl10, yl13, yl16, yl20, yl21, yl22, yl23, yl24, yl32, yl40, yl48, yl57, yl59, yl63, yl64, yl97, yl99, yl122, yl255, yl256, yl400, yl1000, yl2000, yl2048, yc0_eq, yc0_eq2, yc0_le, yc0_ge, yc0_lt, yc0_gt, yc0_ad, yc0_da, yc0_sb, yc0_ml, yc0_lm, yc1_eq, yc1_eq2, yc1_le, yc1_ge, yc1_lt, yc1_gt, yc1_ad, yc1_da, yc1_sb, yc1_ml, yc1_lm, yc2_eq, yc2_eq2, yc2_le, yc2_ge, yc2_lt, yc2_gt, yc2_ad, yc2_da, yc2_sb, yc2_ml, yc2_lm, yc31_ge, ymodn, yI_1sl, yc2_dv, yn1_eq, yn1_lt, xgd_t, xlt_e, Option.bind_some, nI_add, pk_mul, pk_sub, pk_div, pk_rem, yI_and, yI_or, yI_xor, yI_nd, yI_nd2, yI_31, yI_shl, nI_leI, nI_ltI, nI_eq, nI_clamp, xinb_t, yP_z, yP_if, hv, Bool.not_false, e1, xia_t hk, hR _ b8, s_has, last]
    by_cases g1 : yb (R (k / 8)) (k % 8)
    · rw [yif_t g1]
      by_cases g2 : yb (R (l / 8)) (l % 8)
      · rw [yif_t g2]
        by_cases h1 : k / 8 = l / 8
        · rw [if_pos h1]
          have hd : ¬ k % 8 = l % 8 := by omega
          by_cases h2 : yb (R (k % 8)) (l % 8)
          · rw [yif_t h2, yP_f (fun e => hd e.1), yP_f]
            rintro ⟨_, _, ⟨_, _, g⟩ | ⟨g, _, _⟩⟩
            · exact g h2
            · exact hd g
          · rw [yif_f h2, yP_t ⟨g1, g2, Or.inl ⟨h1, hd, h2⟩⟩]
        · rw [if_neg h1]
          congr 1
          congr 1
          apply yP_c
          constructor
          · rintro ⟨q1, q2⟩
            exact ⟨g1, g2, Or.inr ⟨q1, h1, q2⟩⟩
          · rintro ⟨_, _, ⟨g, _, _⟩ | ⟨g, _, g'⟩⟩
            · exact absurd g h1
            · exact ⟨g, g'⟩
      · rw [yif_f g2, yP_f (fun e => g2 e.2.1)]
    · rw [yif_f g1, yP_f (fun e => g1 e.1)]
theorem s_compels {R : Nat → Nat} {v : Nat} (hv : Nat.beq v 1999 = false) (hk : xkd v = (1, 8)) (hR8 : ∀ p, p < 8 → R p < 256) (hsy : ysy (yad R)) {m : xmm} (hR : yrw v R m) {k l : Nat} (hk64 : k < 64) (hl64 : l < 64) (hka : yad R (k / 8) (k % 8)) : fX6_compels v (nI k) (nI l) m = some (yP (yfc (yad R) (yan k) (yan l)), m) := by
  have a8 : k / 8 < 8 := by omega
  have b8 : k % 8 < 8 := by omega
  have ra := hR8 _ a8
  have rb := hR8 _ b8
  apply fX6_compels_i
  simp (disch := omega) only [yl3, yl4, yl5, yl6, yl7, yl8, yl9, yl10, yl13, yl16, yl20, yl21, yl22, yl23, yl24, yl32, yl40, yl48, yl57, yl59, yl63, yl64, yl97, yl99, yl122, yl255, yl256, yl400, yl1000, yl2000, yl2048, yc0_eq, yc0_eq2, yc0_le, yc0_ge, yc0_lt, yc0_gt, yc0_ad, yc0_da, yc0_sb, yc0_ml, yc0_lm, yc1_eq, yc1_eq2, yc1_le, yc1_ge, yc1_lt, yc1_gt, yc1_ad, yc1_da, yc1_sb, yc1_ml, yc1_lm, yc2_eq, yc2_eq2, yc2_le, yc2_ge, yc2_lt, yc2_gt, yc2_ad, yc2_da, yc2_sb, yc2_ml, yc2_lm, yc31_ge, ymodn, yI_1sl, yc2_dv, yn1_eq, yn1_lt, xgd_t, xlt_e, Option.bind_some, nI_add, pk_mul, pk_sub, pk_div, pk_rem, yI_and, yI_or, yI_xor, yI_nd, yI_nd2, yI_31, yI_shl, nI_leI, nI_ltI, nI_eq, nI_clamp, xinb_t, yP_z, yP_if, hv, Bool.not_false, xia_t hk, hR _ a8, hR _ b8, s_contains]
  by_cases h1 : k / 8 = l / 8
  · rw [if_pos h1]
    by_cases h2 : k % 8 = l % 8
    · rw [if_pos h2, yP_f]
      rintro ⟨_, _, ⟨_, g, _⟩ | ⟨_, g, _⟩⟩
      · exact g h2
      · exact g h1
    · rw [if_neg h2]
      by_cases g2 : yb (R (k / 8)) (l % 8)
      · rw [yif_t g2]
        have g2' : yad R (l / 8) (l % 8) := by rw [← h1]; exact g2
        by_cases g3 : yb (R (k % 8)) (l % 8)
        · rw [yif_t g3, yP_f]
          rintro ⟨_, _, ⟨_, _, g⟩ | ⟨g, _, _⟩⟩
          · exact g g3
          · exact h2 g
        · rw [yif_f g3, yP_t ⟨hka, g2', Or.inl ⟨h1, h2, g3⟩⟩]
      · rw [yif_f g2, yP_f]
        intro e
        exact g2 (by rw [h1]; exact e.2.1)
  · rw [if_neg h1]
    by_cases h2 : k % 8 = l % 8
    · rw [if_pos h2]
      by_cases g2 : yb (R (k % 8)) (l / 8)
      · rw [yif_t g2]
        have g2' : yad R (l / 8) (l % 8) := by rw [← h2]; exact hsy.1 _ _ g2
        by_cases g3 : yb (R (k / 8)) (l / 8)
        · rw [yif_t g3, yP_f]
          rintro ⟨_, _, ⟨g, _, _⟩ | ⟨_, _, g⟩⟩
          · exact h1 g
          · exact g g3
        · rw [yif_f g3, yP_t ⟨hka, g2', Or.inr ⟨h2, h1, g3⟩⟩]
      · rw [yif_f g2, yP_f]
        intro e
        exact g2 (by have := hsy.1 _ _ e.2.1; rw [h2]; exact this)
    · rw [if_neg h2, yP_f]
      rintro ⟨_, _, ⟨g, _, _⟩ | ⟨g, _, _⟩⟩
      · exact h1 g
      · exact h2 g
theorem s_lc_l {R : Nat → Nat} {x i v u : Nat} {N : Nat} (hv : Nat.beq v 1999 = false) (hkd : xkd v = (1, N)) (hN : 8 ≤ N ∧ N < 100) (hn : v ∉ [144, 160, 161]) (hR8 : ∀ p, p < 8 → R p < 256) : ∀ (d k : Nat), k + d = 64 → ∀ (F : Nat → Prop) (f : Nat → Nat) (s : Nat) (m : xmm), yrw v R m → yBI (yad R) x i (fun z => z < k) F f s → yBM 161 160 144 31 (yad R) x F f s m → i < s → f i = u → ∃ m' F' f' s', (∀ {z : xmm}, bX12_laysClass_144_42 v (nI (i + 1)) m' = some z → bX12_laysClass_144_53 v (nI i) (nI k) m = some z) ∧ yBI (yad R) x i (fun z => z < 64) F' f' s' ∧ yBM 161 160 144 31 (yad R) x F' f' s' m' ∧ (yfr [144, 160, 161] m m' ∧ ∀ j, j ≠ 31 → m'.1 144 j = m.1 144 j) ∧ i < s' ∧ f' i = u := by
  intro d
  induction d with
  | zero =>
    intro k hk F f s m hR h hm hi hfi
    have e : k = 64 := by omega
    subst e
    have hs : s ≤ 64 := ypig 64 s f (fun j hj => (h.2.1 j hj).1) h.2.2.2.1
    refine ⟨m, F, f, s, fun {z} hz => ?_, h, hm, ⟨yfr_r, fun _ _ => rfl⟩, hi, hfi⟩
    apply bX12_laysClass_144_53_i
    simp (disch := omega) only [yl3, yl4, yl5, yl6, yl7, yl8, yl9, yl10, yl13, yl16, yl20, yl21, yl22, yl23, yl24, yl32, yl40, yl48, yl57, yl59, yl63, yl64, yl97, yl99, yl122, yl255, yl256, yl400, yl1000, yl2000, yl2048, yc0_eq, yc0_eq2, yc0_le, yc0_ge, yc0_lt, yc0_gt, yc0_ad, yc0_da, yc0_sb, yc0_ml, yc0_lm, yc1_eq, yc1_eq2, yc1_le, yc1_ge, yc1_lt, yc1_gt, yc1_ad, yc1_da, yc1_sb, yc1_ml, yc1_lm, yc2_eq, yc2_eq2, yc2_le, yc2_ge, yc2_lt, yc2_gt, yc2_ad, yc2_da, yc2_sb, yc2_ml, yc2_lm, yc31_ge, ymodn, yI_1sl, yc2_dv, yn1_eq, yn1_lt, xgd_t, xlt_e, Option.bind_some, nI_add, pk_mul, pk_sub, pk_div, pk_rem, yI_and, yI_or, yI_xor, yI_nd, yI_nd2, yI_31, yI_shl, nI_leI, nI_ltI, nI_eq, nI_clamp, xinb_t, yP_z, yP_if, if_pos]
    exact hz
  | succ d ih =>
    intro k hk F f s m hR h hm hi hfi
    have hs : s ≤ 64 := ypig 64 s f (fun j hj => (h.2.1 j hj).1) h.2.2.2.1
    have hu : u < 64 := by rw [← hfi]; exact (h.2.1 i hi).1
    have qk := hm.1 k (by omega)
    by_cases hF : F k
    · have hd : ydt (yad R) (yan x) (yan k) < 2 ^ 31 := by
        obtain ⟨_, p1, p2, p3, _⟩ := h
        obtain ⟨j, j1, j2⟩ := (p2 k hF).2.2
        have e1 := (p1 j j1).2.2
        rw [j2] at e1
        omega
      obtain ⟨m', F', f', s', e1, e2⟩ := ih (k + 1) (by omega) F f s m hR (yBI_h h fun z hz hh _ => by
        by_cases e : z = k
        · subst e; exact Or.inr hF
        · exact Or.inl (by omega)) hm hi hfi
      refine ⟨m', F', f', s', fun {z} hz => ?_, e2⟩
      apply bX12_laysClass_144_53_i
      rw [yif_t hF] at qk
      simp (disch := omega) only [yl3, yl4, yl5, yl6, yl7, yl8, yl9, yl10, yl13, yl16, yl20, yl21, yl22, yl23, yl24, yl32, yl40, yl48, yl57, yl59, yl63, yl64, yl97, yl99, yl122, yl255, yl256, yl400, yl1000, yl2000, yl2048, yc0_eq, yc0_eq2, yc0_le, yc0_ge, yc0_lt, yc0_gt, yc0_ad, yc0_da, yc0_sb, yc0_ml, yc0_lm, yc1_eq, yc1_eq2, yc1_le, yc1_ge, yc1_lt, yc1_gt, yc1_ad, yc1_da, yc1_sb, yc1_ml, yc1_lm, yc2_eq, yc2_eq2, yc2_le, yc2_ge, yc2_lt, yc2_gt, yc2_ad, yc2_da, yc2_sb, yc2_ml, yc2_lm, yc31_ge, ymodn, yI_1sl, yc2_dv, yn1_eq, yn1_lt, xgd_t, xlt_e, Option.bind_some, nI_add, pk_mul, pk_sub, pk_div, pk_rem, yI_and, yI_or, yI_xor, yI_nd, yI_nd2, yI_31, yI_shl, nI_leI, nI_ltI, nI_eq, nI_clamp, xinb_t, yP_z, yP_if, if_neg, qk, if_pos]
      exact e1 hz
    · rw [yif_f hF] at qk
      have hneg : ¬ (0 : Int32) ≤ -1 := by decide
      have hfor := s_forcesIt hv hkd hN hR8 hR (k := u) (l := k) hu (by omega)
      have qi := hm.2.1 i hi
      rw [hfi] at qi
      by_cases hf : yfc (yad R) (yan u) (yan k)
      · have hs64 := yBI_lt h (by omega) hF
        obtain ⟨d1, h'⟩ := yBI_add h hi (z := k) (by omega) hF (by rw [hfi]; exact hf)
        have Fu : F u := by rw [← hfi]; exact (h.2.1 i hi).2.1
        have qu := hm.1 u hu
        rw [yif_t Fu] at qu
        obtain ⟨m', F', f', s', e1, e2, e3, e4, e5⟩ := ih (k + 1) (by omega) (fun y => F y ∨ y = k) (yup f s k) (s + 1) (xwi (xwi (xwi m 161 k (nI (ydt (yad R) (yan x) (yan u) + 1))) 160 s (nI k)) 144 31 (nI (s + 1))) (fun p hp => by
            rw [xwi_k (fun e => hn (by rw [e]; decide)), xwi_k (fun e => hn (by rw [e]; decide)), xwi_k (fun e => hn (by rw [e]; decide))]; exact hR p hp) (yBI_h h' fun z hz hh _ => by
            by_cases e : z = k
            · exact Or.inr (Or.inr e)
            · exact Or.inl (by omega)) ⟨fun z hz => by
              rw [xwi_k (by decide), xwi_k (by decide)]
              by_cases e : z = k
              · subst e
                rw [xwi_e, yif_t (Or.inr rfl), d1, hfi]
              · rw [xwi_i e, hm.1 z hz]
                exact yif_c ⟨Or.inl, fun h => h.elim id fun h => absurd h e⟩, fun j hj => by
              rw [xwi_k (by decide)]
              by_cases e : j = s
              · subst e
                rw [xwi_e, yup_e]
              · rw [xwi_i e, xwi_k (by decide), yup_n e]
                exact hm.2.1 j (by omega), by rw [xwi_e]⟩ (by omega) (by rw [yup_n (by omega)]; exact hfi)
        refine ⟨m', F', f', s', fun {z} hz => ?_, e2, e3, ⟨yfr_t (yfr_w (yfr_w (yfr_w yfr_r (by decide)) (by decide)) (by decide)) e4.1, fun j hj => by rw [e4.2 j hj, xwi_i hj, xwi_k (by decide), xwi_k (by decide)]⟩, e5⟩
        apply bX12_laysClass_144_53_i
        simp (disch := omega) only [yl3, yl4, yl5, yl6, yl7, yl8, yl9, yl10, yl13, yl16, yl20, yl21, yl22, yl23, yl24, yl32, yl40, yl48, yl57, yl59, yl63, yl64, yl97, yl99, yl122, yl255, yl256, yl400, yl1000, yl2000, yl2048, yc0_eq, yc0_eq2, yc0_le, yc0_ge, yc0_lt, yc0_gt, yc0_ad, yc0_da, yc0_sb, yc0_ml, yc0_lm, yc1_eq, yc1_eq2, yc1_le, yc1_ge, yc1_lt, yc1_gt, yc1_ad, yc1_da, yc1_sb, yc1_ml, yc1_lm, yc2_eq, yc2_eq2, yc2_le, yc2_ge, yc2_lt, yc2_gt, yc2_ad, yc2_da, yc2_sb, yc2_ml, yc2_lm, yc31_ge, ymodn, yI_1sl, yc2_dv, yn1_eq, yn1_lt, xgd_t, xlt_e, Option.bind_some, nI_add, pk_mul, pk_sub, pk_div, pk_rem, yI_and, yI_or, yI_xor, yI_nd, yI_nd2, yI_31, yI_shl, nI_leI, nI_ltI, nI_eq, nI_clamp, xinb_t, yP_z, yP_if, if_neg, qk, hneg, if_false, hv, Bool.not_false, qi, hfor, yif_t hf, qu, xwi_e, xwi_k, hm.2.2]
        exact e1 hz
      · obtain ⟨m', F', f', s', e1, e2⟩ := ih (k + 1) (by omega) F f s m hR (yBI_h h fun z hz hh hf' => by
          by_cases e : z = k
          · subst e; rw [hfi] at hf'; exact absurd hf' hf
          · exact Or.inl (by omega)) hm hi hfi
        refine ⟨m', F', f', s', fun {z} hz => ?_, e2⟩
        apply bX12_laysClass_144_53_i
        simp (disch := omega) only [yl3, yl4, yl5, yl6, yl7, yl8, yl9, yl10, yl13, yl16, yl20, yl21, yl22, yl23, yl24, yl32, yl40, yl48, yl57, yl59, yl63, yl64, yl97, yl99, yl122, yl255, yl256, yl400, yl1000, yl2000, yl2048, yc0_eq, yc0_eq2, yc0_le, yc0_ge, yc0_lt, yc0_gt, yc0_ad, yc0_da, yc0_sb, yc0_ml, yc0_lm, yc1_eq, yc1_eq2, yc1_le, yc1_ge, yc1_lt, yc1_gt, yc1_ad, yc1_da, yc1_sb, yc1_ml, yc1_lm, yc2_eq, yc2_eq2, yc2_le, yc2_ge, yc2_lt, yc2_gt, yc2_ad, yc2_da, yc2_sb, yc2_ml, yc2_lm, yc31_ge, ymodn, yI_1sl, yc2_dv, yn1_eq, yn1_lt, xgd_t, xlt_e, Option.bind_some, nI_add, pk_mul, pk_sub, pk_div, pk_rem, yI_and, yI_or, yI_xor, yI_nd, yI_nd2, yI_31, yI_shl, nI_leI, nI_ltI, nI_eq, nI_clamp, xinb_t, yP_z, yP_if, if_neg, qk, hneg, if_false, hv, Bool.not_false, qi, hfor, yif_f hf]
        exact e1 hz
theorem s_lc_m {R : Nat → Nat} {x v : Nat} {N : Nat} (hv : Nat.beq v 1999 = false) (hk : xkd v = (1, N)) (hN : 8 ≤ N ∧ N < 100) (hn : v ∉ [144, 160, 161]) (hR8 : ∀ p, p < 8 → R p < 256) (h8 : yg8 (yad R)) (hx : yad R (yan x).1 (yan x).2) : ∀ (d i : Nat), i + d = 64 → ∀ (F : Nat → Prop) (f : Nat → Nat) (s : Nat) (m : xmm), yrw v R m → yBI (yad R) x i (fun _ => False) F f s → yBM 161 160 144 31 (yad R) x F f s m → ∃ m', bX12_laysClass_144_42 v (nI i) m = some m' ∧ ySp 161 160 144 31 (yad R) x m' ∧ yfr [144, 160, 161] m m' ∧ ∀ j, j ≠ 31 → m'.1 144 j = m.1 144 j := by
  intro d
  induction d with
  | zero =>
    intro i hi F f s m hR h hm
    have hs : s ≤ 64 := ypig 64 s f (fun j hj => (h.2.1 j hj).1) h.2.2.2.1
    refine ⟨m, ?_, ySp_of h8 h (by omega) hx hm, yfr_r, fun _ _ => rfl⟩
    apply bX12_laysClass_144_42_i
    simp (disch := omega) only [yl3, yl4, yl5, yl6, yl7, yl8, yl9, yl10, yl13, yl16, yl20, yl21, yl22, yl23, yl24, yl32, yl40, yl48, yl57, yl59, yl63, yl64, yl97, yl99, yl122, yl255, yl256, yl400, yl1000, yl2000, yl2048, yc0_eq, yc0_eq2, yc0_le, yc0_ge, yc0_lt, yc0_gt, yc0_ad, yc0_da, yc0_sb, yc0_ml, yc0_lm, yc1_eq, yc1_eq2, yc1_le, yc1_ge, yc1_lt, yc1_gt, yc1_ad, yc1_da, yc1_sb, yc1_ml, yc1_lm, yc2_eq, yc2_eq2, yc2_le, yc2_ge, yc2_lt, yc2_gt, yc2_ad, yc2_da, yc2_sb, yc2_ml, yc2_lm, yc31_ge, ymodn, yI_1sl, yc2_dv, yn1_eq, yn1_lt, xgd_t, xlt_e, Option.bind_some, nI_add, pk_mul, pk_sub, pk_div, pk_rem, yI_and, yI_or, yI_xor, yI_nd, yI_nd2, yI_31, yI_shl, nI_leI, nI_ltI, nI_eq, nI_clamp, xinb_t, yP_z, yP_if, hm.2.2, if_pos]
  | succ d ih =>
    intro i hi F f s m hR h hm
    have hs : s ≤ 64 := ypig 64 s f (fun j hj => (h.2.1 j hj).1) h.2.2.2.1
    by_cases his : i < s
    · obtain ⟨m1, F1, f1, s1, r1, r2, r3, r4, r5, r6⟩ := s_lc_l hv hk hN hn hR8 64 0 rfl F f s m hR (yBI_h h fun z hz hh _ => absurd hh (Nat.not_lt_zero z)) hm his rfl
      obtain ⟨m', e1, e2, e3, e4⟩ := ih (i + 1) (by omega) F1 f1 s1 m1 (fun p hp => by rw [yfr_1 r4.1 v p hn]; exact hR p hp) (yBI_n h8 r2 r5 hx fun z hz _ => hz) r3
      refine ⟨m', ?_, e2, yfr_t r4.1 e3, fun j hj => (e4 j hj).trans (r4.2 j hj)⟩
      apply bX12_laysClass_144_42_i
      simp (disch := omega) only [yl3, yl4, yl5, yl6, yl7, yl8, yl9, yl10, yl13, yl16, yl20, yl21, yl22, yl23, yl24, yl32, yl40, yl48, yl57, yl59, yl63, yl64, yl97, yl99, yl122, yl255, yl256, yl400, yl1000, yl2000, yl2048, yc0_eq, yc0_eq2, yc0_le, yc0_ge, yc0_lt, yc0_gt, yc0_ad, yc0_da, yc0_sb, yc0_ml, yc0_lm, yc1_eq, yc1_eq2, yc1_le, yc1_ge, yc1_lt, yc1_gt, yc1_ad, yc1_da, yc1_sb, yc1_ml, yc1_lm, yc2_eq, yc2_eq2, yc2_le, yc2_ge, yc2_lt, yc2_gt, yc2_ad, yc2_da, yc2_sb, yc2_ml, yc2_lm, yc31_ge, ymodn, yI_1sl, yc2_dv, yn1_eq, yn1_lt, xgd_t, xlt_e, Option.bind_some, nI_add, pk_mul, pk_sub, pk_div, pk_rem, yI_and, yI_or, yI_xor, yI_nd, yI_nd2, yI_31, yI_shl, nI_leI, nI_ltI, nI_eq, nI_clamp, xinb_t, yP_z, yP_if, hm.2.2, if_neg]
      exact r1 e1
    · refine ⟨m, ?_, ySp_of h8 h (by omega) hx hm, yfr_r, fun _ _ => rfl⟩
      apply bX12_laysClass_144_42_i
      simp (disch := omega) only [yl3, yl4, yl5, yl6, yl7, yl8, yl9, yl10, yl13, yl16, yl20, yl21, yl22, yl23, yl24, yl32, yl40, yl48, yl57, yl59, yl63, yl64, yl97, yl99, yl122, yl255, yl256, yl400, yl1000, yl2000, yl2048, yc0_eq, yc0_eq2, yc0_le, yc0_ge, yc0_lt, yc0_gt, yc0_ad, yc0_da, yc0_sb, yc0_ml, yc0_lm, yc1_eq, yc1_eq2, yc1_le, yc1_ge, yc1_lt, yc1_gt, yc1_ad, yc1_da, yc1_sb, yc1_ml, yc1_lm, yc2_eq, yc2_eq2, yc2_le, yc2_ge, yc2_lt, yc2_gt, yc2_ad, yc2_da, yc2_sb, yc2_ml, yc2_lm, yc31_ge, ymodn, yI_1sl, yc2_dv, yn1_eq, yn1_lt, xgd_t, xlt_e, Option.bind_some, nI_add, pk_mul, pk_sub, pk_div, pk_rem, yI_and, yI_or, yI_xor, yI_nd, yI_nd2, yI_31, yI_shl, nI_leI, nI_ltI, nI_eq, nI_clamp, xinb_t, yP_z, yP_if, hm.2.2, if_pos]
theorem s_lc_c {v x : Nat} : ∀ (d k : Nat) (m : xmm), k + d = 64 → (∀ z, z < k → m.1 161 z = -1) → ∃ m0, (∀ {z : xmm}, bX12_laysClass_144_2 v (nI x) (nI 64) m0 = some z → bX12_laysClass_144_2 v (nI x) (nI k) m = some z) ∧ (∀ z, z < 64 → m0.1 161 z = -1) ∧ yfr [161] m m0 := by
  intro d
  induction d with
  | zero =>
    intro k m hk h
    have e : k = 64 := by omega
    subst e
    exact ⟨m, id, h, yfr_r⟩
  | succ d ih =>
    intro k m hk h
    obtain ⟨m0, e1, e2, e3⟩ := ih (k + 1) (xwi m 161 k (-1)) (by omega) (by
      intro z hz
      by_cases e : z = k
      · subst e; exact xwi_e _ _ _ _
      · rw [xwi_i e]; exact h z (by omega))
    refine ⟨m0, fun {z} hz => ?_, e2, yfr_t (yfr_w yfr_r (by decide)) e3⟩
    apply bX12_laysClass_144_2_i
    simp (disch := omega) only [yl3, yl4, yl5, yl6, yl7, yl8, yl9, yl10, yl13, yl16, yl20, yl21, yl22, yl23, yl24, yl32, yl40, yl48, yl57, yl59, yl63, yl64, yl97, yl99, yl122, yl255, yl256, yl400, yl1000, yl2000, yl2048, yc0_eq, yc0_eq2, yc0_le, yc0_ge, yc0_lt, yc0_gt, yc0_ad, yc0_da, yc0_sb, yc0_ml, yc0_lm, yc1_eq, yc1_eq2, yc1_le, yc1_ge, yc1_lt, yc1_gt, yc1_ad, yc1_da, yc1_sb, yc1_ml, yc1_lm, yc2_eq, yc2_eq2, yc2_le, yc2_ge, yc2_lt, yc2_gt, yc2_ad, yc2_da, yc2_sb, yc2_ml, yc2_lm, yc31_ge, ymodn, yI_1sl, yc2_dv, yn1_eq, yn1_lt, xgd_t, xlt_e, Option.bind_some, nI_add, pk_mul, pk_sub, pk_div, pk_rem, yI_and, yI_or, yI_xor, yI_nd, yI_nd2, yI_31, yI_shl, nI_leI, nI_ltI, nI_eq, nI_clamp, xinb_t, yP_z, yP_if, if_neg]
    exact e1 hz
/-- the model's class of an arrow -/
theorem s_laysClass {R : Nat → Nat} {x v : Nat} {N : Nat} (hv : Nat.beq v 1999 = false) (hk : xkd v = (1, N)) (hN : 8 ≤ N ∧ N < 100) (hn : v ∉ [144, 160, 161]) (hR8 : ∀ p, p < 8 → R p < 256) (h8 : yg8 (yad R)) (h64 : x < 64) (hx : yad R (yan x).1 (yan x).2) {m : xmm} (hR : yrw v R m) : ∃ m', fX12_laysClass_144 v (nI x) m = some m' ∧ ySp 161 160 144 31 (yad R) x m' ∧ yfr [144, 160, 161] m m' ∧ ∀ j, j ≠ 31 → m'.1 144 j = m.1 144 j := by
  obtain ⟨m0, a1, a2, a3⟩ := s_lc_c (v := v) (x := x) 64 0 m rfl (fun z hz => absurd hz (Nat.not_lt_zero z))
  have hm : yBM 161 160 144 31 (yad R) x (fun z => z = x) (fun _ => x) 1 (xwi (xwi (xwi m0 160 0 (nI x)) 161 x 0) 144 31 1) := by
    refine ⟨fun z hz => ?_, fun j hj => ?_, ?_⟩
    · rw [xwi_k (by decide)]
      by_cases e : z = x
      · subst e
        rw [xwi_e, yif_t rfl, ydt_self]; rfl
      · rw [xwi_i e, xwi_k (by decide), yif_f e]
        exact a2 z hz
    · have e : j = 0 := by omega
      subst e
      rw [xwi_k (by decide), xwi_k (by decide), xwi_e]
    · rw [xwi_e]; rfl
  have f1 : yfr [144, 160, 161] m (xwi (xwi (xwi m0 160 0 (nI x)) 161 x 0) 144 31 1) := yfr_w (yfr_w (yfr_w (yfr_m a3 (by decide)) (by decide)) (by decide)) (by decide)
  obtain ⟨m', e1, e2, e3, e4⟩ := s_lc_m hv hk hN hn hR8 h8 hx 64 0 rfl _ _ _ _ (fun p hp => by rw [yfr_1 f1 v p hn]; exact hR p hp) (yBI_0 (yad R) h64) hm
  refine ⟨m', ?_, e2, yfr_t f1 e3, fun j hj => ?_⟩
  · apply fX12_laysClass_144_i
    apply a1
    apply bX12_laysClass_144_2_i
    rw [if_pos (by decide)]
    simp (disch := omega) only [yl3, yl4, yl5, yl6, yl7, yl8, yl9, yl10, yl13, yl16, yl20, yl21, yl22, yl23, yl24, yl32, yl40, yl48, yl57, yl59, yl63, yl64, yl97, yl99, yl122, yl255, yl256, yl400, yl1000, yl2000, yl2048, yc0_eq, yc0_eq2, yc0_le, yc0_ge, yc0_lt, yc0_gt, yc0_ad, yc0_da, yc0_sb, yc0_ml, yc0_lm, yc1_eq, yc1_eq2, yc1_le, yc1_ge, yc1_lt, yc1_gt, yc1_ad, yc1_da, yc1_sb, yc1_ml, yc1_lm, yc2_eq, yc2_eq2, yc2_le, yc2_ge, yc2_lt, yc2_gt, yc2_ad, yc2_da, yc2_sb, yc2_ml, yc2_lm, yc31_ge, ymodn, yI_1sl, yc2_dv, yn1_eq, yn1_lt, xgd_t, xlt_e, Option.bind_some, nI_add, pk_mul, pk_sub, pk_div, pk_rem, yI_and, yI_or, yI_xor, yI_nd, yI_nd2, yI_31, yI_shl, nI_leI, nI_ltI, nI_eq, nI_clamp, xinb_t, yP_z, yP_if]
    exact e1
  · rw [e4 j hj, xwi_i hj, xwi_k (by decide), xwi_k (by decide)]
    exact yfr_1 a3 144 j (by decide)
