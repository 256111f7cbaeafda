/-! the model's arrows -/
theorem s_copies_l {v w : Nat} (hv : Nat.beq v 1999 = false) (hkd : xkd v = (1, 9)) (hw : Nat.beq w 1999 = false) (hkw : xkd w = (1, 9)) (hn : v ≠ w) : ∀ (d k : Nat) (m : xmm), k + d = 9 → ∃ m', bX12_copies_2 v w (nI k) m = some m' ∧ (∀ p, m'.1 w p = if k ≤ p ∧ p < 9 then m.1 v p else m.1 w p) ∧ yfr [w] m m' := by
  intro d
  induction d with
  | zero =>
    intro k m hk
    refine ⟨m, ?_, fun p => by rw [if_neg (by omega)], yfr_r⟩
    apply bX12_copies_2_i
    simp (disch := omega) only [yl3, yl4, yl5, yl6, yl7, yl8, yl9, yl10, yl13, yl16, yl20, yl21, yl22, yl23, yl24, yl32, yl40, yl48, yl57, yl59, yl63, yl64, yl97, yl99, yl122, yl255, yl256, yl400, yl1000, yl2000, yl2048, yc0_eq, yc0_eq2, yc0_le, yc0_ge, yc0_lt, yc0_gt, yc0_ad, yc0_da, yc0_sb, yc0_ml, yc0_lm, yc1_eq, yc1_eq2, yc1_le, yc1_ge, yc1_lt, yc1_gt, yc1_ad, yc1_da, yc1_sb, yc1_ml, yc1_lm, yc2_eq, yc2_eq2, yc2_le, yc2_ge, yc2_lt, yc2_gt, yc2_ad, yc2_da, yc2_sb, yc2_ml, yc2_lm, yc31_ge, ymodn, yI_1sl, yc2_dv, yn1_eq, yn1_lt, xgd_t, xlt_e, Option.bind_some, nI_add, pk_mul, pk_sub, pk_div, pk_rem, yI_and, yI_or, yI_xor, yI_nd, yI_nd2, yI_31, yI_shl, nI_leI, nI_ltI, nI_eq, nI_clamp, xinb_t, yP_z, yP_if, if_pos]
  | succ d ih =>
    intro k m hk
    obtain ⟨m', e1, e2, e3⟩ := ih (k + 1) (xwi m w k (m.1 v k)) (by omega)
    refine ⟨m', ?_, fun p => ?_, yfr_t (yfr_w yfr_r (List.mem_singleton.mpr rfl)) e3⟩
    · apply bX12_copies_2_i
      simp (disch := omega) only [yl3, yl4, yl5, yl6, yl7, yl8, yl9, yl10, yl13, yl16, yl20, yl21, yl22, yl23, yl24, yl32, yl40, yl48, yl57, yl59, yl63, yl64, yl97, yl99, yl122, yl255, yl256, yl400, yl1000, yl2000, yl2048, yc0_eq, yc0_eq2, yc0_le, yc0_ge, yc0_lt, yc0_gt, yc0_ad, yc0_da, yc0_sb, yc0_ml, yc0_lm, yc1_eq, yc1_eq2, yc1_le, yc1_ge, yc1_lt, yc1_gt, yc1_ad, yc1_da, yc1_sb, yc1_ml, yc1_lm, yc2_eq, yc2_eq2, yc2_le, yc2_ge, yc2_lt, yc2_gt, yc2_ad, yc2_da, yc2_sb, yc2_ml, yc2_lm, yc31_ge, ymodn, yI_1sl, yc2_dv, yn1_eq, yn1_lt, xgd_t, xlt_e, Option.bind_some, nI_add, pk_mul, pk_sub, pk_div, pk_rem, yI_and, yI_or, yI_xor, yI_nd, yI_nd2, yI_31, yI_shl, nI_leI, nI_ltI, nI_eq, nI_clamp, xinb_t, yP_z, yP_if, if_neg, hv, hw, Bool.not_false, xia_t hkd, xia_t hkw]
      exact e1
    · rw [e2 p, xwi_k hn]
      by_cases e : p = k
      · subst e
        rw [if_neg (by omega), if_pos (by omega), xwi_e]
      · rw [xwi_i e]
        by_cases h : k ≤ p ∧ p < 9
        · rw [if_pos h, if_pos (by omega)]
        · rw [if_neg h, if_neg (by omega)]
theorem s_copies {v w : Nat} (hv : Nat.beq v 1999 = false) (hkd : xkd v = (1, 9)) (hw : Nat.beq w 1999 = false) (hkw : xkd w = (1, 9)) (hn : v ≠ w) (m : xmm) : ∃ m', fX12_copies v w m = some m' ∧ (∀ p, p < 9 → m'.1 w p = m.1 v p) ∧ yfr [w] m m' := by
  obtain ⟨m', e1, e2, e3⟩ := s_copies_l hv hkd hw hkw hn 9 0 m rfl
  refine ⟨m', ?_, fun p hp => by rw [e2 p, if_pos (by omega)], e3⟩
  apply fX12_copies_i
  exact e1
noncomputable def yloI (L : Nat → Nat) : Int32 := yif (∃ k, yar L k) (nI (ylo L)) (-1)
theorem s_leastLeft_l {L : Nat → Nat} (hL : yGd L) {m : xmm} (h : yrw 163 L m) : ∀ (d p : Nat), p + d = 8 → (∀ j, j < 8 * p → ¬ yar L j) → bX12_leastLeft_144_2 (nI p) m = some (yloI L, m) := by
  intro d
  induction d with
  | zero =>
    intro p hp hn
    apply bX12_leastLeft_144_2_i
    simp (disch := omega) only [yl3, yl4, yl5, yl6, yl7, yl8, yl9, yl10, yl13, yl16, yl20, yl21, yl22, yl23, yl24, yl32, yl40, yl48, yl57, yl59, yl63, yl64, yl97, yl99, yl122, yl255, yl256, yl400, yl1000, yl2000, yl2048, yc0_eq, yc0_eq2, yc0_le, yc0_ge, yc0_lt, yc0_gt, yc0_ad, yc0_da, yc0_sb, yc0_ml, yc0_lm, yc1_eq, yc1_eq2, yc1_le, yc1_ge, yc1_lt, yc1_gt, yc1_ad, yc1_da, yc1_sb, yc1_ml, yc1_lm, yc2_eq, yc2_eq2, yc2_le, yc2_ge, yc2_lt, yc2_gt, yc2_ad, yc2_da, yc2_sb, yc2_ml, yc2_lm, yc31_ge, ymodn, yI_1sl, yc2_dv, yn1_eq, yn1_lt, xgd_t, xlt_e, Option.bind_some, nI_add, pk_mul, pk_sub, pk_div, pk_rem, yI_and, yI_or, yI_xor, yI_nd, yI_nd2, yI_31, yI_shl, nI_leI, nI_ltI, nI_eq, nI_clamp, xinb_t, yP_z, yP_if, if_pos]
    have : ¬ ∃ k, yar L k := fun ⟨k, hk⟩ => hn k (by have := yar_64 hL hk; omega) hk
    unfold yloI
    rw [yif_f this]
  | succ d ih =>
    intro p hp hn
    apply bX12_leastLeft_144_2_i
    simp (disch := omega) only [yl3, yl4, yl5, yl6, yl7, yl8, yl9, yl10, yl13, yl16, yl20, yl21, yl22, yl23, yl24, yl32, yl40, yl48, yl57, yl59, yl63, yl64, yl97, yl99, yl122, yl255, yl256, yl400, yl1000, yl2000, yl2048, yc0_eq, yc0_eq2, yc0_le, yc0_ge, yc0_lt, yc0_gt, yc0_ad, yc0_da, yc0_sb, yc0_ml, yc0_lm, yc1_eq, yc1_eq2, yc1_le, yc1_ge, yc1_lt, yc1_gt, yc1_ad, yc1_da, yc1_sb, yc1_ml, yc1_lm, yc2_eq, yc2_eq2, yc2_le, yc2_ge, yc2_lt, yc2_gt, yc2_ad, yc2_da, yc2_sb, yc2_ml, yc2_lm, yc31_ge, ymodn, yI_1sl, yc2_dv, yn1_eq, yn1_lt, xgd_t, xlt_e, Option.bind_some, nI_add, pk_mul, pk_sub, pk_div, pk_rem, yI_and, yI_or, yI_xor, yI_nd, yI_nd2, yI_31, yI_shl, nI_leI, nI_ltI, nI_eq, nI_clamp, xinb_t, yP_z, yP_if, if_neg]
    have inner : ∀ (e q : Nat), q + e = 8 → p < q → (∀ j, j < 8 * p + q → ¬ yar L j) → bX12_leastLeft_144_12 (nI p) (nI q) m = some (yloI L, m) := by
      intro e
      induction e with
      | zero =>
        intro q hq hpq hn2
        apply bX12_leastLeft_144_12_i
        simp (disch := omega) only [yl3, yl4, yl5, yl6, yl7, yl8, yl9, yl10, yl13, yl16, yl20, yl21, yl22, yl23, yl24, yl32, yl40, yl48, yl57, yl59, yl63, yl64, yl97, yl99, yl122, yl255, yl256, yl400, yl1000, yl2000, yl2048, yc0_eq, yc0_eq2, yc0_le, yc0_ge, yc0_lt, yc0_gt, yc0_ad, yc0_da, yc0_sb, yc0_ml, yc0_lm, yc1_eq, yc1_eq2, yc1_le, yc1_ge, yc1_lt, yc1_gt, yc1_ad, yc1_da, yc1_sb, yc1_ml, yc1_lm, yc2_eq, yc2_eq2, yc2_le, yc2_ge, yc2_lt, yc2_gt, yc2_ad, yc2_da, yc2_sb, yc2_ml, yc2_lm, yc31_ge, ymodn, yI_1sl, yc2_dv, yn1_eq, yn1_lt, xgd_t, xlt_e, Option.bind_some, nI_add, pk_mul, pk_sub, pk_div, pk_rem, yI_and, yI_or, yI_xor, yI_nd, yI_nd2, yI_31, yI_shl, nI_leI, nI_ltI, nI_eq, nI_clamp, xinb_t, yP_z, yP_if, if_pos]
        exact ih (p + 1) (by omega) (fun j hj => hn2 j (by omega))
      | succ e ih2 =>
        intro q hq hpq hn2
        apply bX12_leastLeft_144_12_i
        have hp8 : p < 8 := by omega
        have hb := hL.1 p hp8
        simp (disch := omega) only [yl3, yl4, yl5, yl6, yl7, yl8, yl9, yl10, yl13, yl16, yl20, yl21, yl22, yl23, yl24, yl32, yl40, yl48, yl57, yl59, yl63, yl64, yl97, yl99, yl122, yl255, yl256, yl400, yl1000, yl2000, yl2048, yc0_eq, yc0_eq2, yc0_le, yc0_ge, yc0_lt, yc0_gt, yc0_ad, yc0_da, yc0_sb, yc0_ml, yc0_lm, yc1_eq, yc1_eq2, yc1_le, yc1_ge, yc1_lt, yc1_gt, yc1_ad, yc1_da, yc1_sb, yc1_ml, yc1_lm, yc2_eq, yc2_eq2, yc2_le, yc2_ge, yc2_lt, yc2_gt, yc2_ad, yc2_da, yc2_sb, yc2_ml, yc2_lm, yc31_ge, ymodn, yI_1sl, yc2_dv, yn1_eq, yn1_lt, xgd_t, xlt_e, Option.bind_some, nI_add, pk_mul, pk_sub, pk_div, pk_rem, yI_and, yI_or, yI_xor, yI_nd, yI_nd2, yI_31, yI_shl, nI_leI, nI_ltI, nI_eq, nI_clamp, xinb_t, yP_z, yP_if, if_neg, h p hp8, s_has]
        by_cases hc : yb (L p) q
        · rw [yif_t hc]
          have ha : yar L (8 * p + q) := by unfold yar; rw [yan_of (by omega)]; exact hc
          have e1 := ylo_eq ha hn2
          unfold yloI
          rw [yif_t ⟨_, ha⟩, e1]
        · rw [yif_f hc]
          refine ih2 (q + 1) (by omega) (by omega) (fun j hj => ?_)
          by_cases e : j = 8 * p + q
          · subst e
            unfold yar
            rw [yan_of (by omega)]
            exact hc
          · exact hn2 j (by omega)
    refine inner (7 - p) (p + 1) (by omega) (by omega) (fun j hj ha => ?_)
    by_cases e : j < 8 * p
    · exact hn j e ha
    · have e1 : j / 8 = p := by omega
      have e2 : j % 8 < p + 1 := by omega
      have ha' : yad L (j / 8) (j % 8) := ha
      by_cases e3 : j % 8 = p
      · rw [e1, e3] at ha'; exact hL.2.1.2 _ ha'
      · refine hn (8 * (j % 8) + j / 8) (by omega) ?_
        unfold yar
        rw [yan_of (by omega)]
        exact hL.2.1.1 _ _ ha'
theorem s_leastLeft {L : Nat → Nat} (hL : yGd L) {m : xmm} (h : yrw 163 L m) : fX12_leastLeft_144 m = some (yloI L, m) := by
  apply fX12_leastLeft_144_i
  exact s_leastLeft_l hL h 8 0 rfl (fun j hj => absurd hj (by omega))
/-- stage i in the model's cells -/
def yMI (R : Nat → Nat) (b i : Nat) (m : xmm) : Prop := yAI R b i 163 164 166 144 39 m ∧ yrw 165 (yci (yTi R b i)) m
theorem s_la_80 {A B : Nat → Nat} {n bb : Nat} {f : Nat → Nat} {s : Nat} (hs : s ≤ 64) (hf : ∀ j, j < s → f j < 64) : ∀ (d i : Nat) (m : xmm), i + d = s → m.1 144 31 = nI s → (∀ j, j < s → m.1 160 j = nI (f j)) → m.1 144 39 = nI n → (∀ a, a < 8 → m.1 164 a = nI (ybs (fun c => yb (A a) c ∨ ∃ j, j < i ∧ yan (f j) = (a, c)) 8)) → (∀ a, a < 8 → m.1 165 a = nI (ybs (fun c => yb (B a) c ∨ ∃ j, j < i ∧ yan (f j) = (c, a)) 8)) → ∃ m', (∀ {z : xmm}, bX12_laysArrows_144_185 (nI bb) (nI 0) m' = some z → bX12_laysArrows_144_80 (nI bb) (nI i) m = some z) ∧ (∀ a, a < 8 → m'.1 164 a = nI (ybs (fun c => yb (A a) c ∨ ∃ j, j < s ∧ yan (f j) = (a, c)) 8)) ∧ (∀ a, a < 8 → m'.1 165 a = nI (ybs (fun c => yb (B a) c ∨ ∃ j, j < s ∧ yan (f j) = (c, a)) 8)) ∧ (∀ z, z < 64 → m'.1 166 z = yif (∃ j, i ≤ j ∧ j < s ∧ (f j = z ∨ ytn (f j) = z)) (nI n) (m.1 166 z)) ∧ yfr [164, 165, 166] m m' := by
  intro d
  induction d with
  | zero =>
    intro i m hi h1 h2 h3 h4 h5
    have e : i = s := by omega
    subst e
    refine ⟨m, fun {z} hz => ?_, h4, h5, fun z hz => ?_, yfr_r⟩
    · apply bX12_laysArrows_144_80_i
      simp (disch := omega) only [yl3, yl4, yl5, yl6, yl7, yl8, yl9, yl10, yl13, yl16, yl20, yl21, yl22, yl23, yl24, yl32, yl40, yl48, yl57, yl59, yl63, yl64, yl97, yl99, yl122, yl255, yl256, yl400, yl1000, yl2000, yl2048, yc0_eq, yc0_eq2, yc0_le, yc0_ge, yc0_lt, yc0_gt, yc0_ad, yc0_da, yc0_sb, yc0_ml, yc0_lm, yc1_eq, yc1_eq2, yc1_le, yc1_ge, yc1_lt, yc1_gt, yc1_ad, yc1_da, yc1_sb, yc1_ml, yc1_lm, yc2_eq, yc2_eq2, yc2_le, yc2_ge, yc2_lt, yc2_gt, yc2_ad, yc2_da, yc2_sb, yc2_ml, yc2_lm, yc31_ge, ymodn, yI_1sl, yc2_dv, yn1_eq, yn1_lt, xgd_t, xlt_e, Option.bind_some, nI_add, pk_mul, pk_sub, pk_div, pk_rem, yI_and, yI_or, yI_xor, yI_nd, yI_nd2, yI_31, yI_shl, nI_leI, nI_ltI, nI_eq, nI_clamp, xinb_t, yP_z, yP_if, h1, if_pos]
      exact hz
    · rw [yif_f]
      rintro ⟨j, j1, j2, _⟩
      omega
  | succ d ih =>
    intro i m hi h1 h2 h3 h4 h5
    have hu := hf i (by omega)
    have ha8 : f i / 8 < 8 := by omega
    have hb8 : f i % 8 < 8 := by omega
    have ht := ytn_lt hu
    have hya : yan (f i) = (f i / 8, f i % 8) := rfl
    obtain ⟨m', e1, e3, e4, e5, e6⟩ := ih (i + 1) (xwi (xwi (xwi (xwi m 164 (f i / 8) (nI (ybs (fun c => yb (A (f i / 8)) c ∨ ∃ j, j < i + 1 ∧ yan (f j) = (f i / 8, c)) 8))) 165 (f i % 8) (nI (ybs (fun c => yb (B (f i % 8)) c ∨ ∃ j, j < i + 1 ∧ yan (f j) = (c, f i % 8)) 8))) 166 (f i) (nI n)) 166 (ytn (f i)) (nI n)) (by omega)
      (by rw [xwi_k (by decide), xwi_k (by decide), xwi_k (by decide), xwi_k (by decide)]; exact h1)
      (fun j hj => by rw [xwi_k (by decide), xwi_k (by decide), xwi_k (by decide), xwi_k (by decide)]; exact h2 j hj)
      (by rw [xwi_k (by decide), xwi_k (by decide), xwi_k (by decide), xwi_k (by decide)]; exact h3)
      (fun a ha => by
        rw [xwi_k (by decide), xwi_k (by decide), xwi_k (by decide)]
        by_cases eb : a = f i / 8
        · subst eb; rw [xwi_e]
        · rw [xwi_i eb, h4 a ha]
          congr 1
          apply ybs_c
          intro c hc
          constructor
          · rintro (q | ⟨j, j1, j2⟩)
            · exact Or.inl q
            · exact Or.inr ⟨j, by omega, j2⟩
          · rintro (q | ⟨j, j1, j2⟩)
            · exact Or.inl q
            · by_cases ej : j = i
              · subst ej; exact absurd (congrArg Prod.fst j2).symm eb
              · exact Or.inr ⟨j, by omega, j2⟩)
      (fun a ha => by
        rw [xwi_k (by decide), xwi_k (by decide)]
        by_cases eb : a = f i % 8
        · subst eb; rw [xwi_e]
        · rw [xwi_i eb, xwi_k (by decide), h5 a ha]
          congr 1
          apply ybs_c
          intro c hc
          constructor
          · rintro (q | ⟨j, j1, j2⟩)
            · exact Or.inl q
            · exact Or.inr ⟨j, by omega, j2⟩
          · rintro (q | ⟨j, j1, j2⟩)
            · exact Or.inl q
            · by_cases ej : j = i
              · subst ej; exact absurd (congrArg Prod.snd j2).symm eb
              · exact Or.inr ⟨j, by omega, j2⟩)
    refine ⟨m', fun {z} hz => ?_, e3, e4, fun z hz => ?_, yfr_t (yfr_w (yfr_w (yfr_w (yfr_w yfr_r (by decide)) (by decide)) (by decide)) (by decide)) e6⟩
    · apply bX12_laysArrows_144_80_i
      have o1 : nI (ybs (fun c => yb (A (f i / 8)) c ∨ ∃ j, j < i ∧ yan (f j) = (f i / 8, c)) 8 ||| 2 ^ (f i % 8)) = nI (ybs (fun c => yb (A (f i / 8)) c ∨ ∃ j, j < i + 1 ∧ yan (f j) = (f i / 8, c)) 8) := by
        rw [ybs_o1 hb8]
        congr 1
        apply ybs_c
        intro c hc
        constructor
        · rintro ((q | ⟨j, j1, j2⟩) | q)
          · exact Or.inl q
          · exact Or.inr ⟨j, by omega, j2⟩
          · exact Or.inr ⟨i, by omega, by rw [hya, q]⟩
        · rintro (q | ⟨j, j1, j2⟩)
          · exact Or.inl (Or.inl q)
          · by_cases ej : j = i
            · subst ej; exact Or.inr (congrArg Prod.snd j2).symm
            · exact Or.inl (Or.inr ⟨j, by omega, j2⟩)
      have o2 : nI (ybs (fun c => yb (B (f i % 8)) c ∨ ∃ j, j < i ∧ yan (f j) = (c, f i % 8)) 8 ||| 2 ^ (f i / 8)) = nI (ybs (fun c => yb (B (f i % 8)) c ∨ ∃ j, j < i + 1 ∧ yan (f j) = (c, f i % 8)) 8) := by
        rw [ybs_o1 ha8]
        congr 1
        apply ybs_c
        intro c hc
        constructor
        · rintro ((q | ⟨j, j1, j2⟩) | q)
          · exact Or.inl q
          · exact Or.inr ⟨j, by omega, j2⟩
          · exact Or.inr ⟨i, by omega, by rw [hya, q]⟩
        · rintro (q | ⟨j, j1, j2⟩)
          · exact Or.inl (Or.inl q)
          · by_cases ej : j = i
            · subst ej; exact Or.inr (congrArg Prod.fst j2).symm
            · exact Or.inl (Or.inr ⟨j, by omega, j2⟩)
      simp (disch := omega) only [yl3, yl4, yl5, yl6, yl7, yl8, yl9, yl10, yl13, yl16, yl20, yl21, yl22, yl23, yl24, yl32, yl40, yl48, yl57, yl59, yl63, yl64, yl97, yl99, yl122, yl255, yl256, yl400, yl1000, yl2000, yl2048, yc0_eq, yc0_eq2, yc0_le, yc0_ge, yc0_lt, yc0_gt, yc0_ad, yc0_da, yc0_sb, yc0_ml, yc0_lm, yc1_eq, yc1_eq2, yc1_le, yc1_ge, yc1_lt, yc1_gt, yc1_ad, yc1_da, yc1_sb, yc1_ml, yc1_lm, yc2_eq, yc2_eq2, yc2_le, yc2_ge, yc2_lt, yc2_gt, yc2_ad, yc2_da, yc2_sb, yc2_ml, yc2_lm, yc31_ge, ymodn, yI_1sl, yc2_dv, yn1_eq, yn1_lt, xgd_t, xlt_e, Option.bind_some, nI_add, pk_mul, pk_sub, pk_div, pk_rem, yI_and, yI_or, yI_xor, yI_nd, yI_nd2, yI_31, yI_shl, nI_leI, nI_ltI, nI_eq, nI_clamp, xinb_t, yP_z, yP_if, if_neg, h1, h2 i (by omega), h4 _ ha8, xwi_k, h5 _ hb8, h3, s_turned', o1, o2]
      exact e1 hz
    · rw [e5 z hz]
      by_cases h : ∃ j, i + 1 ≤ j ∧ j < s ∧ (f j = z ∨ ytn (f j) = z)
      · obtain ⟨j, j1, j2, j3⟩ := h
        rw [yif_t ⟨j, j1, j2, j3⟩, yif_t ⟨j, by omega, j2, j3⟩]
      · rw [yif_f h]
        by_cases ez : z = ytn (f i)
        · subst ez
          rw [xwi_e, yif_t ⟨i, Nat.le_refl _, by omega, Or.inr rfl⟩]
        · rw [xwi_i ez]
          by_cases ez2 : z = f i
          · subst ez2
            rw [xwi_e, yif_t ⟨i, Nat.le_refl _, by omega, Or.inl rfl⟩]
          · rw [xwi_i ez2, xwi_k (by decide), xwi_k (by decide), yif_f]
            rintro ⟨j, j1, j2, j3⟩
            by_cases ej : j = i
            · subst ej
              rcases j3 with j3 | j3
              · exact ez2 j3.symm
              · exact ez j3.symm
            · exact h ⟨j, by omega, j2, j3⟩
theorem s_la_185 {L : Nat → Nat} {n bb : Nat} {f : Nat → Nat} {s : Nat} (hs : s ≤ 64) (hf : ∀ j, j < s → f j < 64) : ∀ (d i : Nat) (m : xmm), i + d = s → m.1 144 31 = nI s → (∀ j, j < s → m.1 160 j = nI (f j)) → m.1 144 39 = nI n → (∀ a, a < 8 → m.1 163 a = nI (ybs (fun c => yb (L a) c ∧ ∀ j, j < i → yan (f j) ≠ (a, c) ∧ yan (f j) ≠ (c, a)) 8)) → ∃ m', (∀ {z : xmm}, ((fX12_leastLeft_144 m').bind fun (w2 : Int32 × xmm) => bX12_laysArrows_144_46 (nI bb) w2.1 w2.2) = some z → bX12_laysArrows_144_185 (nI bb) (nI i) m = some z) ∧ m'.1 144 39 = nI (n + 1) ∧ (∀ a, a < 8 → m'.1 163 a = nI (ybs (fun c => yb (L a) c ∧ ∀ j, j < s → yan (f j) ≠ (a, c) ∧ yan (f j) ≠ (c, a)) 8)) ∧ yfm [163] [39] m m' := by
  intro d
  induction d with
  | zero =>
    intro i m hi h1 h2 h3 h4
    have e : i = s := by omega
    subst e
    refine ⟨xwi m 144 39 (nI (n + 1)), fun {z} hz => ?_, by rw [xwi_e], fun a ha => by rw [xwi_k (by decide)]; exact h4 a ha, yfm_f yfm_r (by decide)⟩
    apply bX12_laysArrows_144_185_i
    simp (disch := omega) only [yl3, yl4, yl5, yl6, yl7, yl8, yl9, yl10, yl13, yl16, yl20, yl21, yl22, yl23, yl24, yl32, yl40, yl48, yl57, yl59, yl63, yl64, yl97, yl99, yl122, yl255, yl256, yl400, yl1000, yl2000, yl2048, yc0_eq, yc0_eq2, yc0_le, yc0_ge, yc0_lt, yc0_gt, yc0_ad, yc0_da, yc0_sb, yc0_ml, yc0_lm, yc1_eq, yc1_eq2, yc1_le, yc1_ge, yc1_lt, yc1_gt, yc1_ad, yc1_da, yc1_sb, yc1_ml, yc1_lm, yc2_eq, yc2_eq2, yc2_le, yc2_ge, yc2_lt, yc2_gt, yc2_ad, yc2_da, yc2_sb, yc2_ml, yc2_lm, yc31_ge, ymodn, yI_1sl, yc2_dv, yn1_eq, yn1_lt, xgd_t, xlt_e, Option.bind_some, nI_add, pk_mul, pk_sub, pk_div, pk_rem, yI_and, yI_or, yI_xor, yI_nd, yI_nd2, yI_31, yI_shl, nI_leI, nI_ltI, nI_eq, nI_clamp, xinb_t, yP_z, yP_if, h1, h3, if_pos]
    exact hz
  | succ d ih =>
    intro i m hi h1 h2 h3 h4
    have hu := hf i (by omega)
    have ha8 : f i / 8 < 8 := by omega
    have hb8 : f i % 8 < 8 := by omega
    have hya : yan (f i) = (f i / 8, f i % 8) := rfl
    obtain ⟨m', e1, e2, e3, e4⟩ := ih (i + 1) (xwi (xwi m 163 (f i / 8) (nI (ynd (ybs (fun c => yb (L (f i / 8)) c ∧ ∀ j, j < i → yan (f j) ≠ (f i / 8, c) ∧ yan (f j) ≠ (c, f i / 8)) 8) (2 ^ (f i % 8))))) 163 (f i % 8) (nI (ybs (fun c => yb (L (f i % 8)) c ∧ ∀ j, j < i + 1 → yan (f j) ≠ (f i % 8, c) ∧ yan (f j) ≠ (c, f i % 8)) 8))) (by omega)
      (by rw [xwi_k (by decide), xwi_k (by decide)]; exact h1)
      (fun j hj => by rw [xwi_k (by decide), xwi_k (by decide)]; exact h2 j hj)
      (by rw [xwi_k (by decide), xwi_k (by decide)]; exact h3)
      (fun a ha => by
        by_cases ea : a = f i % 8
        · subst ea; rw [xwi_e]
        · rw [xwi_i ea]
          by_cases eb : a = f i / 8
          · subst eb
            rw [xwi_e, ybs_n1]
            congr 1
            apply ybs_c
            intro c hc
            constructor
            · rintro ⟨⟨q1, q2⟩, q3⟩
              refine ⟨q1, fun j hj => ?_⟩
              by_cases ej : j = i
              · subst ej
                rw [hya]
                exact ⟨fun e => q3 (congrArg Prod.snd e).symm, fun e => ea (congrArg Prod.snd e).symm⟩
              · exact q2 j (by omega)
            · rintro ⟨q1, q2⟩
              refine ⟨⟨q1, fun j hj => q2 j (by omega)⟩, fun e => ?_⟩
              have := (q2 i (by omega)).1
              rw [hya, e] at this
              exact this rfl
          · rw [xwi_i eb, h4 a ha]
            congr 1
            apply ybs_c
            intro c hc
            constructor
            · rintro ⟨q1, q2⟩
              refine ⟨q1, fun j hj => ?_⟩
              by_cases ej : j = i
              · subst ej
                rw [hya]
                exact ⟨fun e => eb (congrArg Prod.fst e).symm, fun e => ea (congrArg Prod.snd e).symm⟩
              · exact q2 j (by omega)
            · rintro ⟨q1, q2⟩
              exact ⟨q1, fun j hj => q2 j (by omega)⟩)
    refine ⟨m', fun {z} hz => ?_, e2, e3, yfm_t (yfm_w (yfm_w yfm_r (by decide) (by decide)) (by decide) (by decide)) e4⟩
    apply bX12_laysArrows_144_185_i
    have last : (xwi m 163 (f i / 8) (nI (ynd (ybs (fun c => yb (L (f i / 8)) c ∧ ∀ j, j < i → yan (f j) ≠ (f i / 8, c) ∧ yan (f j) ≠ (c, f i / 8)) 8) (2 ^ (f i % 8))))).1 163 (f i % 8) &&& (nI (2 ^ (f i / 8)) ^^^ (-1 : Int32)) = nI (ybs (fun c => yb (L (f i % 8)) c ∧ ∀ j, j < i + 1 → yan (f j) ≠ (f i % 8, c) ∧ yan (f j) ≠ (c, f i % 8)) 8) := by
      by_cases eb : f i % 8 = f i / 8
      · rw [eb, xwi_e, yI_nd, ybs_n1, ybs_n1]
        congr 1
        apply ybs_c
        intro c hc
        constructor
        · rintro ⟨⟨⟨q1, q2⟩, q3⟩, q4⟩
          refine ⟨q1, fun j hj => ?_⟩
          by_cases ej : j = i
          · subst ej
            rw [hya]
            refine ⟨fun e => q3 ?_, fun e => q4 (congrArg Prod.fst e).symm⟩
            have e7 : f j % 8 = c := congrArg Prod.snd e
            exact e7.symm.trans eb
          · exact q2 j (by omega)
        · rintro ⟨q1, q2⟩
          have q3 := q2 i (by omega)
          rw [hya] at q3
          refine ⟨⟨⟨q1, fun j hj => q2 j (by omega)⟩, fun e => ?_⟩, fun e => ?_⟩
          · apply q3.1
            rw [e, eb]
          · apply q3.2
            rw [e, eb]
      · rw [xwi_i eb, h4 _ hb8, yI_nd, ybs_n1]
        congr 1
        apply ybs_c
        intro c hc
        constructor
        · rintro ⟨⟨q1, q2⟩, q3⟩
          refine ⟨q1, fun j hj => ?_⟩
          by_cases ej : j = i
          · subst ej
            rw [hya]
            exact ⟨fun e => eb (congrArg Prod.fst e).symm, fun e => q3 (congrArg Prod.fst e).symm⟩
          · exact q2 j (by omega)
        · rintro ⟨q1, q2⟩
          have q3 := q2 i (by omega)
          rw [hya] at q3
          refine ⟨⟨q1, fun j hj => q2 j (by omega)⟩, fun e => ?_⟩
          apply q3.2
          rw [e]
    simp (disch := omega) only [yl3, yl4, yl5, yl6, yl7, yl8, yl9, yl10, yl13, yl16, yl20, yl21, yl22, yl23, yl24, yl32, yl40, yl48, yl57, yl59, yl63, yl64, yl97, yl99, yl122, yl255, yl256, yl400, yl1000, yl2000, yl2048, yc0_eq, yc0_eq2, yc0_le, yc0_ge, yc0_lt, yc0_gt, yc0_ad, yc0_da, yc0_sb, yc0_ml, yc0_lm, yc1_eq, yc1_eq2, yc1_le, yc1_ge, yc1_lt, yc1_gt, yc1_ad, yc1_da, yc1_sb, yc1_ml, yc1_lm, yc2_eq, yc2_eq2, yc2_le, yc2_ge, yc2_lt, yc2_gt, yc2_ad, yc2_da, yc2_sb, yc2_ml, yc2_lm, yc31_ge, ymodn, yI_1sl, yc2_dv, yn1_eq, yn1_lt, xgd_t, xlt_e, Option.bind_some, nI_add, pk_mul, pk_sub, pk_div, pk_rem, yI_and, yI_or, yI_xor, yI_nd, yI_nd2, yI_31, yI_shl, nI_leI, nI_ltI, nI_eq, nI_clamp, xinb_t, yP_z, yP_if, if_neg, h1, h2 i (by omega), h4 _ ha8, xwi_k, last]
    exact e1 hz
theorem s_la_step {R : Nat → Nat} (hR : yGd R) {b bb i : Nat} (hex : ∃ k, yar (yLs R b i) k) {m : xmm} (h : yMI R b i m) : ∃ m1 m', fX12_laysClass_144 163 (nI (ysq b i (ylo (yLs R b i)))) m = some m1 ∧ (∀ {z : xmm}, ((fX12_leastLeft_144 m').bind fun (w2 : Int32 × xmm) => bX12_laysArrows_144_46 (nI bb) w2.1 w2.2) = some z → bX12_laysArrows_144_80 (nI bb) (nI 0) m1 = some z) ∧ yMI R b (i + 1) m' ∧ yfm [160, 161, 163, 164, 165, 166] [31, 39] m m' := by
  obtain ⟨⟨h1, h2, h3, h4, h5⟩, h6⟩ := h
  have hL := yLs_gd hR b i
  obtain ⟨x64, xar⟩ := ysq_ar hL b i hex
  obtain ⟨m1, a1, ⟨f, s, b1, b2, b3, b4, b5, b6, b7⟩, a3, a4⟩ := s_laysClass (v := 163) rfl rfl (by omega) (by decide) hL.1 hL.2.2 x64 xar h1
  have fin : ∀ a c, a < 8 → c < 8 → ((∃ j, j < s ∧ yan (f j) = (a, c)) ↔ ycli R b i (a, c)) := by
    intro a c ha hc
    constructor
    · rintro ⟨j, j1, j2⟩
      have := (b3 j j1).2.2
      rw [j2] at this
      exact ⟨hex, this⟩
    · intro e
      have e2 : ycl (yad (yLs R b i)) (yan (ysq b i (ylo (yLs R b i)))) (yan (8 * a + c)) := by rw [yan_of hc]; exact e.2
      obtain ⟨j, j1, j2⟩ := b5 (8 * a + c) (by omega) e2
      exact ⟨j, j1, by rw [j2, yan_of hc]⟩
  have f1 : yfm [160, 161, 163, 164, 165, 166] [31, 39] m m1 := ⟨yfr_m a3 (by decide), fun j hj => a4 j fun e => hj (by rw [e]; decide)⟩
  have z0 : ∀ (S : Nat), S < 256 → ∀ (P : Nat → Nat → Prop), nI S = nI (ybs (fun c => yb S c ∨ ∃ j, j < 0 ∧ P j c) 8) := by
    intro S hS P
    congr 1
    apply ytb_ext
    intro c
    show yb _ c ↔ yb _ c
    rw [yb_bs]
    exact ⟨fun e => ⟨ytb_of (n := 8) hS e, Or.inl e⟩, fun e => e.2.elim id fun ⟨j, hj, _⟩ => absurd hj (Nat.not_lt_zero j)⟩
  obtain ⟨m2, c1, c3, c4, c5, c6⟩ := s_la_80 (A := yro (yTi R b i)) (B := yci (yTi R b i)) (n := i) (bb := bb) b1 (fun j hj => (b3 j hj).2.1) s 0 m1 (by omega) b2 (fun j hj => (b3 j hj).1) (by rw [a4 39 (by decide)]; exact h4) (fun a ha => by
      rw [yfr_1 a3 164 a (by decide), h2 a ha]
      exact z0 _ (yro_lt _ a) _) (fun a ha => by
      rw [yfr_1 a3 165 a (by decide), h6 a ha]
      exact z0 _ (yci_lt _ a) _)
  obtain ⟨m', d1, d2, d3, d4⟩ := s_la_185 (L := yLs R b i) (n := i) (bb := bb) b1 (fun j hj => (b3 j hj).2.1) s 0 m2 (by omega) (by rw [yfr_1 c6 144 31 (by decide)]; exact b2) (fun j hj => by rw [yfr_1 c6 160 j (by decide)]; exact (b3 j hj).1) (by rw [yfr_1 c6 144 39 (by decide), a4 39 (by decide)]; exact h4) (fun a ha => by
      rw [yfr_1 c6 163 a (by decide), yfr_1 a3 163 a (by decide), h1 a ha]
      congr 1
      apply ytb_ext
      intro c
      show yb _ c ↔ yb _ c
      rw [yb_bs]
      exact ⟨fun e => ⟨ytb_of (n := 8) (hL.1 a ha) e, e, fun j hj => absurd hj (Nat.not_lt_zero j)⟩, fun e => e.2.1⟩)
  have tadd : ∀ a c, a < 8 → c < 8 → ((yTi R b i a c ∨ ∃ j, j < s ∧ yan (f j) = (a, c)) ↔ yTi R b (i + 1) a c) := by
    intro a c ha hc
    rw [fin a c ha hc]
    constructor
    · rintro (⟨j, j1, j2⟩ | e)
      · exact ⟨j, by omega, j2⟩
      · exact ⟨i, by omega, e⟩
    · rintro ⟨j, j1, j2⟩
      by_cases e : j = i
      · subst e; exact Or.inr j2
      · exact Or.inl ⟨j, by omega, j2⟩
  refine ⟨m1, m', a1, fun {z} hz => c1 (d1 hz), ⟨⟨fun a ha => ?_, fun a ha => ?_, fun k hk hka hkn => ?_, d2, fun j hj => ?_⟩, fun a ha => ?_⟩, yfm_t (yfm_t f1 (yfm_m (J := []) (yfm_of c6 (by decide)) (by decide) (by decide))) (yfm_m d4 (by decide) (by decide))⟩
  · rw [d3 a ha]
    congr 1
    apply ytb_ext
    intro c
    show yb _ c ↔ yad _ a c
    rw [yb_bs, yLs_ad hR]
    constructor
    · rintro ⟨q1, q2, q3⟩
      refine ⟨q2, fun e => ?_, fun e => ?_⟩
      · obtain ⟨j, j1, j2⟩ := (fin a c ha q1).mpr e
        exact (q3 j j1).1 j2
      · obtain ⟨j, j1, j2⟩ := (fin c a q1 ha).mpr e
        exact (q3 j j1).2 j2
    · rintro ⟨q1, q2, q3⟩
      have hc := (hL.2.2 _ _ q1).2
      exact ⟨hc, q1, fun j hj => ⟨fun e => q2 ((fin a c ha hc).mp ⟨j, hj, e⟩), fun e => q3 ((fin c a hc ha).mp ⟨j, hj, e⟩)⟩⟩
  · rw [yfm_1 d4 164 a (by decide), c3 a ha]
    congr 1
    apply ybs_c
    intro c hc
    have e0 : yb (yro (yTi R b i) a) c ↔ yTi R b i a c := by
      show yb (ybs _ 8) c ↔ _
      rw [yb_bs]
      exact ⟨fun e => e.2, fun e => ⟨hc, e⟩⟩
    rw [e0]
    exact tadd a c ha hc
  · rw [yfm_1 d4 166 k (by decide), c5 k hk]
    have key : (∃ j, 0 ≤ j ∧ j < s ∧ (f j = k ∨ ytn (f j) = k)) ↔ (ycli R b i (yan k) ∨ ycli R b i (yrv (yan k))) := by
      have hk8 : k / 8 < 8 := by omega
      have hk9 : k % 8 < 8 := by omega
      constructor
      · rintro ⟨j, _, j1, j2 | j2⟩
        · exact Or.inl ((fin _ _ hk8 hk9).mp ⟨j, j1, by rw [j2]; rfl⟩)
        · refine Or.inr ((fin _ _ hk9 hk8).mp ⟨j, j1, ?_⟩)
          have e := (b3 j j1).2.1
          rw [← j2]
          have : yan (f j) = yrv (yan (ytn (f j))) := by rw [ytn_an e]; rfl
          exact this
      · rintro (e | e)
        · obtain ⟨j, j1, j2⟩ := (fin _ _ hk8 hk9).mpr e
          exact ⟨j, Nat.zero_le _, j1, Or.inl (yan_i j2)⟩
        · obtain ⟨j, j1, j2⟩ := (fin _ _ hk9 hk8).mpr e
          refine ⟨j, Nat.zero_le _, j1, Or.inr ?_⟩
          have e := (b3 j j1).2.1
          apply yan_i
          rw [ytn_an e, j2]
          rfl
    by_cases hin : yar (yLs R b i) k
    · have e1 : yse R b k = i := yse_eq hR hin hkn
      rw [e1]
      have : ycli R b i (yan k) ∨ ycli R b i (yrv (yan k)) := by
        refine Classical.byContradiction fun hn => hkn ((yLs_ad hR b i).mpr ⟨hin, fun e => hn (Or.inl e), fun e => hn (Or.inr e)⟩)
      rw [yif_t (key.mpr this)]
    · rw [yif_f]
      · rw [yfr_1 a3 166 k (by decide)]
        exact h3 k hk hka hin
      · rw [key]
        rintro (e | e)
        · exact hin (ycli_g hR e)
        · exact hin (hL.2.1.1 _ _ (ycli_g hR e))
  · by_cases e : j = i
    · subst e; exact hex
    · exact h5 j (by omega)
  · rw [yfm_1 d4 165 a (by decide), c4 a ha]
    congr 1
    apply ybs_c
    intro c hc
    have e0 : yb (yci (yTi R b i) a) c ↔ yTi R b i c a := by
      show yb (ybs _ 8) c ↔ _
      rw [yb_bs]
      exact ⟨fun e => e.2, fun e => ⟨hc, e⟩⟩
    rw [e0]
    exact tadd c a hc ha
theorem s_la_46 {R : Nat → Nat} (hR : yGd R) {b : Nat} (hb : b < 2) : ∀ (d i : Nat), i + d = 65 → ∀ (m : xmm), yMI R b i m → ∃ m', ((fX12_leastLeft_144 m).bind fun (w2 : Int32 × xmm) => bX12_laysArrows_144_46 (nI b) w2.1 w2.2) = some m' ∧ yMI R b (yN R b) m' ∧ yfm [160, 161, 163, 164, 165, 166] [31, 39] m m' := by
  intro d
  induction d with
  | zero =>
    intro i hi m h
    obtain ⟨k, hk⟩ := h.1.2.2.2.2 64 (by omega)
    exact absurd hk (yLs_ge hR b 64 k (yar_64 (yLs_gd hR b 64) hk))
  | succ d ih =>
    intro i hi m h
    have hL := yLs_gd hR b i
    rw [s_leastLeft hL h.1.1, Option.bind_some]
    by_cases hex : ∃ k, yar (yLs R b i) k
    · obtain ⟨m1, m2, a1, a2, a3, a4⟩ := s_la_step hR (bb := b) hex h
      obtain ⟨m', e1, e2, e3⟩ := ih (i + 1) (by omega) m2 a3
      refine ⟨m', ?_, e2, yfm_t a4 e3⟩
      have lo := ylo_s hex
      have lo64 := yar_64 hL lo.1
      have h4 := h.1.2.2.2.1
      have i64 : i ≤ 64 := by omega
      unfold yloI
      rw [yif_t hex]
      apply bX12_laysArrows_144_46_i
      by_cases hi0 : i = 0
      · by_cases hb1 : b = 1
        · have esq : ysq b i (ylo (yLs R b i)) = ytn (ylo (yLs R b i)) := if_pos ⟨hi0, hb1⟩
          rw [esq] at a1
          simp (disch := omega) only [yl3, yl4, yl5, yl6, yl7, yl8, yl9, yl10, yl13, yl16, yl20, yl21, yl22, yl23, yl24, yl32, yl40, yl48, yl57, yl59, yl63, yl64, yl97, yl99, yl122, yl255, yl256, yl400, yl1000, yl2000, yl2048, yc0_eq, yc0_eq2, yc0_le, yc0_ge, yc0_lt, yc0_gt, yc0_ad, yc0_da, yc0_sb, yc0_ml, yc0_lm, yc1_eq, yc1_eq2, yc1_le, yc1_ge, yc1_lt, yc1_gt, yc1_ad, yc1_da, yc1_sb, yc1_ml, yc1_lm, yc2_eq, yc2_eq2, yc2_le, yc2_ge, yc2_lt, yc2_gt, yc2_ad, yc2_da, yc2_sb, yc2_ml, yc2_lm, yc31_ge, ymodn, yI_1sl, yc2_dv, yn1_eq, yn1_lt, xgd_t, xlt_e, Option.bind_some, nI_add, pk_mul, pk_sub, pk_div, pk_rem, yI_and, yI_or, yI_xor, yI_nd, yI_nd2, yI_31, yI_shl, nI_leI, nI_ltI, nI_eq, nI_clamp, xinb_t, yP_z, yP_if, if_neg, h4, if_pos, s_turned', a1]
          exact a2 e1
        · have esq : ysq b i (ylo (yLs R b i)) = ylo (yLs R b i) := if_neg (fun e => hb1 e.2)
          rw [esq] at a1
          simp (disch := omega) only [yl3, yl4, yl5, yl6, yl7, yl8, yl9, yl10, yl13, yl16, yl20, yl21, yl22, yl23, yl24, yl32, yl40, yl48, yl57, yl59, yl63, yl64, yl97, yl99, yl122, yl255, yl256, yl400, yl1000, yl2000, yl2048, yc0_eq, yc0_eq2, yc0_le, yc0_ge, yc0_lt, yc0_gt, yc0_ad, yc0_da, yc0_sb, yc0_ml, yc0_lm, yc1_eq, yc1_eq2, yc1_le, yc1_ge, yc1_lt, yc1_gt, yc1_ad, yc1_da, yc1_sb, yc1_ml, yc1_lm, yc2_eq, yc2_eq2, yc2_le, yc2_ge, yc2_lt, yc2_gt, yc2_ad, yc2_da, yc2_sb, yc2_ml, yc2_lm, yc31_ge, ymodn, yI_1sl, yc2_dv, yn1_eq, yn1_lt, xgd_t, xlt_e, Option.bind_some, nI_add, pk_mul, pk_sub, pk_div, pk_rem, yI_and, yI_or, yI_xor, yI_nd, yI_nd2, yI_31, yI_shl, nI_leI, nI_ltI, nI_eq, nI_clamp, xinb_t, yP_z, yP_if, if_neg, h4, if_pos, a1]
          exact a2 e1
      · have esq : ysq b i (ylo (yLs R b i)) = ylo (yLs R b i) := if_neg (fun e => hi0 e.1)
        rw [esq] at a1
        simp (disch := omega) only [yl3, yl4, yl5, yl6, yl7, yl8, yl9, yl10, yl13, yl16, yl20, yl21, yl22, yl23, yl24, yl32, yl40, yl48, yl57, yl59, yl63, yl64, yl97, yl99, yl122, yl255, yl256, yl400, yl1000, yl2000, yl2048, yc0_eq, yc0_eq2, yc0_le, yc0_ge, yc0_lt, yc0_gt, yc0_ad, yc0_da, yc0_sb, yc0_ml, yc0_lm, yc1_eq, yc1_eq2, yc1_le, yc1_ge, yc1_lt, yc1_gt, yc1_ad, yc1_da, yc1_sb, yc1_ml, yc1_lm, yc2_eq, yc2_eq2, yc2_le, yc2_ge, yc2_lt, yc2_gt, yc2_ad, yc2_da, yc2_sb, yc2_ml, yc2_lm, yc31_ge, ymodn, yI_1sl, yc2_dv, yn1_eq, yn1_lt, xgd_t, xlt_e, Option.bind_some, nI_add, pk_mul, pk_sub, pk_div, pk_rem, yI_and, yI_or, yI_xor, yI_nd, yI_nd2, yI_31, yI_shl, nI_leI, nI_ltI, nI_eq, nI_clamp, xinb_t, yP_z, yP_if, if_neg, h4, a1]
        exact a2 e1
    · refine ⟨m, ?_, by rw [yN_eq hR hex h.1.2.2.2.2]; exact h, yfm_r⟩
      unfold yloI
      rw [yif_f hex]
      apply bX12_laysArrows_144_46_i
      exact if_pos (show (-1 : Int32) < 0 by decide)
theorem s_la_15 {b : Nat} : ∀ (d k : Nat) (m : xmm), k + d = 8 → (∀ z, z < k → m.1 164 z = 0 ∧ m.1 165 z = 0) → ∃ m0, (∀ {z : xmm}, ((fX12_leastLeft_144 m0).bind fun (w2 : Int32 × xmm) => bX12_laysArrows_144_46 (nI b) w2.1 w2.2) = some z → bX12_laysArrows_144_15 (nI b) (nI k) m = some z) ∧ (∀ z, z < 8 → m0.1 164 z = 0 ∧ m0.1 165 z = 0) ∧ yfr [164, 165] m m0 := by
  intro d
  induction d with
  | zero =>
    intro k m hk h
    have e : k = 8 := by omega
    subst e
    refine ⟨m, fun {z} hz => ?_, h, yfr_r⟩
    apply bX12_laysArrows_144_15_i
    rw [if_pos (by decide)]
    exact hz
  | succ d ih =>
    intro k m hkd h
    obtain ⟨m0, e1, e2, e3⟩ := ih (k + 1) (xwi (xwi m 164 k 0) 165 k 0) (by omega) (by
      intro z hz
      rw [xwi_k (by decide)]
      by_cases e : z = k
      · subst e; rw [xwi_e, xwi_e]; exact ⟨rfl, rfl⟩
      · rw [xwi_i e, xwi_i e, xwi_k (by decide)]; exact h z (by omega))
    refine ⟨m0, fun {z} hz => ?_, e2, yfr_t (yfr_w (yfr_w yfr_r (by decide)) (by decide)) e3⟩
    apply bX12_laysArrows_144_15_i
    simp (disch := omega) only [yl3, yl4, yl5, yl6, yl7, yl8, yl9, yl10, yl13, yl16, yl20, yl21, yl22, yl23, yl24, yl32, yl40, yl48, yl57, yl59, yl63, yl64, yl97, yl99, yl122, yl255, yl256, yl400, yl1000, yl2000, yl2048, yc0_eq, yc0_eq2, yc0_le, yc0_ge, yc0_lt, yc0_gt, yc0_ad, yc0_da, yc0_sb, yc0_ml, yc0_lm, yc1_eq, yc1_eq2, yc1_le, yc1_ge, yc1_lt, yc1_gt, yc1_ad, yc1_da, yc1_sb, yc1_ml, yc1_lm, yc2_eq, yc2_eq2, yc2_le, yc2_ge, yc2_lt, yc2_gt, yc2_ad, yc2_da, yc2_sb, yc2_ml, yc2_lm, yc31_ge, ymodn, yI_1sl, yc2_dv, yn1_eq, yn1_lt, xgd_t, xlt_e, Option.bind_some, nI_add, pk_mul, pk_sub, pk_div, pk_rem, yI_and, yI_or, yI_xor, yI_nd, yI_nd2, yI_31, yI_shl, nI_leI, nI_ltI, nI_eq, nI_clamp, xinb_t, yP_z, yP_if, if_neg]
    exact e1 hz
theorem s_laysArrows {R : Nat → Nat} (hR : yGd R) {b : Nat} (hb : b < 2) {v : Nat} (hv : Nat.beq v 1999 = false) (hkd : xkd v = (1, 9)) (hn : v ≠ 163) {m : xmm} (h : yrw v R m) : ∃ m', fX12_laysArrows_144 v (nI b) m = some m' ∧ yMI R b (yN R b) m' ∧ yfm [160, 161, 163, 164, 165, 166] [31, 39] m m' := by
  obtain ⟨m1, a1, a2, a3⟩ := s_copies hv hkd (w := 163) rfl rfl hn m
  obtain ⟨m2, c1, c2, c3⟩ := s_la_15 (b := b) 8 0 (xwi m1 144 39 0) rfl (fun z hz => absurd hz (Nat.not_lt_zero z))
  have zz : ∀ p, ybs (fun c => yTi R b 0 p c) 8 = 0 ∧ ybs (fun c => yTi R b 0 c p) 8 = 0 := by
    intro p
    constructor
    · apply ytb_ext
      intro c
      show yb (ybs _ 8) c ↔ yb 0 c
      rw [yb_bs]
      exact ⟨fun ⟨_, j, hj, _⟩ => absurd hj (Nat.not_lt_zero j), fun e => absurd e yb_0⟩
    · apply ytb_ext
      intro c
      show yb (ybs _ 8) c ↔ yb 0 c
      rw [yb_bs]
      exact ⟨fun ⟨_, j, hj, _⟩ => absurd hj (Nat.not_lt_zero j), fun e => absurd e yb_0⟩
  obtain ⟨m', e1, e2, e3⟩ := s_la_46 hR hb 65 0 rfl m2 ⟨⟨fun p hp => by rw [yfr_1 c3 163 p (by decide), xwi_k (by decide), a2 p (by omega)]; exact h p hp, fun p hp => by
      rw [(c2 p hp).1]
      show 0 = nI (ybs _ 8)
      rw [(zz p).1]
      rfl, fun k _ h1 h2 => absurd h1 h2, by rw [yfr_1 c3 144 39 (by decide), xwi_e]; rfl, fun j hj => absurd hj (Nat.not_lt_zero j)⟩, fun p hp => by
      rw [(c2 p hp).2]
      show 0 = nI (ybs _ 8)
      rw [(zz p).2]
      rfl⟩
  refine ⟨m', ?_, e2, ?_⟩
  · apply fX12_laysArrows_144_i
    rw [hv, a1]
    simp only [Bool.not_false, xgd_t, Option.bind_some, xlt_e]
    exact c1 e1
  · refine yfm_t ?_ e3
    exact yfm_t (yfm_f (yfm_m (J := []) (yfm_of a3 (by decide)) (by decide) (by decide)) (by decide)) (yfm_m (J := []) (yfm_of c3 (by decide)) (by decide) (by decide))
