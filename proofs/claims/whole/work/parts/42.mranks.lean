/-! the model's order: levels, covers, ways, straight orders -/
/-- the model's order is laid -/
def yML (n : Nat) (T : yG) (m : xmm) : Prop := m.1 144 17 = nI n ∧ yrw 164 (yro T) m ∧ yrw 165 (yci T) m
theorem yML_f {n : Nat} {T : yG} {L J : List Nat} {m m' : xmm} (h : yML n T m) (hf : yfm L J m m') (h1 : 17 ∉ J) (h2 : 164 ∉ 144 :: L) (h3 : 165 ∉ 144 :: L) : yML n T m' := ⟨by rw [hf.2 17 h1]; exact h.1, fun p hp => by rw [yfm_1 hf 164 p h2]; exact h.2.1 p hp, fun p hp => by rw [yfm_1 hf 165 p h3]; exact h.2.2 p hp⟩
theorem yML_r {n : Nat} {T : yG} {L : List Nat} {m m' : xmm} (h : yML n T m) (hf : yfr L m m') (h1 : 144 ∉ L) (h2 : 164 ∉ L) (h3 : 165 ∉ L) : yML n T m' := ⟨by rw [yfr_1 hf 144 17 h1]; exact h.1, fun p hp => by rw [yfr_1 hf 164 p h2]; exact h.2.1 p hp, fun p hp => by rw [yfr_1 hf 165 p h3]; exact h.2.2 p hp⟩
/-! levels -/
/-- one less, or NONE -/
def yv (k : Nat) : Int32 := if k = 0 then -1 else nI (k - 1)
theorem yv_le {a k : Nat} (ha : a < 2 ^ 30) (hk : k < 2 ^ 30) : nI a ≤ yv k ↔ a < k := by
  unfold yv
  by_cases h : k = 0
  · rw [if_pos h]
    have h2 : (-1 : Int32).toInt = -1 := by decide
    rw [Int32.le_iff_toInt_le, nI_toInt (by omega), h2]
    omega
  · rw [if_neg h, nI_leI (by omega) (by omega)]
    omega
theorem yv_s (k : Nat) : yv (k + 1) = nI k := by
  unfold yv
  rw [if_neg (by omega), Nat.add_sub_cancel]
theorem ymx_le {f : Nat → Nat} {c : Nat} : ∀ {n : Nat}, (∀ k, k < n → f k ≤ c) → ymx f n ≤ c := by
  intro n h
  rcases ymx_at (f := f) (n := n) with e | ⟨j, j1, e⟩
  · omega
  · rw [e]; exact h j j1
noncomputable def yow (n : Nat) (T : yG) (r : Nat) (l : Nat → Nat) (p q : Nat) : Nat := if r = 0 then 0 else ymx (fun q => yif (T q p) (l q + 1) 0) q
theorem s_mgl_32 {n : Nat} {T : yG} (hT : yPo n T) (hn : n ≤ 8) {r : Nat} (hr : r < 100) {m : xmm} (h : yML n T m) {l : Nat → Nat} (hl : ∀ p, p < n → m.1 172 p = nI (l p)) (hl2 : ∀ p, l p ≤ 8) {p M : Nat} (hp : p < n) (hM : M ≤ 20) : ∀ (d q : Nat), q + d = n → ∀ {z : Int32 × xmm}, bX12_greatestLevel_144_18 (yv (max M (yow n T r l p n + 1))) (nI r) (nI (p + 1)) (xwi m 172 p (nI (yow n T r l p n))) = some z → bX12_greatestLevel_144_32 (yv M) (nI r) (nI p) (nI (yow n T r l p q)) (nI q) m = some z := by
  have bo : ∀ q, yow n T r l p q ≤ 9 := by
    intro q
    unfold yow
    by_cases h0 : r = 0
    · rw [if_pos h0]; exact Nat.zero_le _
    · rw [if_neg h0]
      apply ymx_le
      intro j _
      by_cases hx : T j p
      · rw [yif_t hx]; have := hl2 j; omega
      · rw [yif_f hx]; omega
  intro d
  induction d with
  | zero =>
    intro q hq z hz
    have e : q = n := by omega
    subst e
    apply bX12_greatestLevel_144_32_i
    have b := bo q
    have e2 : (nI (yow q T r l p q) ≤ yv M) ↔ yow q T r l p q < M := yv_le (by omega) (by omega)
    by_cases hc : yow q T r l p q < M
    · rw [show max M (yow q T r l p q + 1) = M by omega] at hz
      simp (disch := omega) only [yl3, yl4, yl5, yl6, yl7, yl8, yl9, yl10, yl13, yl16, yl20, yl21, yl22, yl23, yl24, yl32, yl40, yl48, yl57, yl59, yl63, yl64, yl97, yl99, yl122, yl255, yl256, yl400, yl1000, yl2000, yl2048, yc0_eq, yc0_eq2, yc0_le, yc0_ge, yc0_lt, yc0_gt, yc0_ad, yc0_da, yc0_sb, yc0_ml, yc0_lm, yc1_eq, yc1_eq2, yc1_le, yc1_ge, yc1_lt, yc1_gt, yc1_ad, yc1_da, yc1_sb, yc1_ml, yc1_lm, yc2_eq, yc2_eq2, yc2_le, yc2_ge, yc2_lt, yc2_gt, yc2_ad, yc2_da, yc2_sb, yc2_ml, yc2_lm, yc31_ge, ymodn, yI_1sl, yc2_dv, yn1_eq, yn1_lt, xgd_t, xlt_e, Option.bind_some, nI_add, pk_mul, pk_sub, pk_div, pk_rem, yI_and, yI_or, yI_xor, yI_nd, yI_nd2, yI_31, yI_shl, nI_leI, nI_ltI, nI_eq, nI_clamp, xinb_t, yP_z, yP_if, h.1, if_pos, if_pos (e2.mpr hc)]
      exact hz
    · rw [show max M (yow q T r l p q + 1) = yow q T r l p q + 1 by omega, yv_s] at hz
      simp (disch := omega) only [yl3, yl4, yl5, yl6, yl7, yl8, yl9, yl10, yl13, yl16, yl20, yl21, yl22, yl23, yl24, yl32, yl40, yl48, yl57, yl59, yl63, yl64, yl97, yl99, yl122, yl255, yl256, yl400, yl1000, yl2000, yl2048, yc0_eq, yc0_eq2, yc0_le, yc0_ge, yc0_lt, yc0_gt, yc0_ad, yc0_da, yc0_sb, yc0_ml, yc0_lm, yc1_eq, yc1_eq2, yc1_le, yc1_ge, yc1_lt, yc1_gt, yc1_ad, yc1_da, yc1_sb, yc1_ml, yc1_lm, yc2_eq, yc2_eq2, yc2_le, yc2_ge, yc2_lt, yc2_gt, yc2_ad, yc2_da, yc2_sb, yc2_ml, yc2_lm, yc31_ge, ymodn, yI_1sl, yc2_dv, yn1_eq, yn1_lt, xgd_t, xlt_e, Option.bind_some, nI_add, pk_mul, pk_sub, pk_div, pk_rem, yI_and, yI_or, yI_xor, yI_nd, yI_nd2, yI_31, yI_shl, nI_leI, nI_ltI, nI_eq, nI_clamp, xinb_t, yP_z, yP_if, h.1, if_pos, if_neg (fun e => hc (e2.mp e))]
      exact hz
  | succ d ih =>
    intro q hq z hz
    apply bX12_greatestLevel_144_32_i
    have b := bo q
    have c1 := yci_lt T p
    have lq := hl2 q
    by_cases h0 : r = 0
    · have e1 : yow n T r l p (q + 1) = yow n T r l p q := by unfold yow; rw [if_pos h0, if_pos h0]
      have := ih (q + 1) (by omega) hz
      rw [e1] at this
      simp (disch := omega) only [yl3, yl4, yl5, yl6, yl7, yl8, yl9, yl10, yl13, yl16, yl20, yl21, yl22, yl23, yl24, yl32, yl40, yl48, yl57, yl59, yl63, yl64, yl97, yl99, yl122, yl255, yl256, yl400, yl1000, yl2000, yl2048, yc0_eq, yc0_eq2, yc0_le, yc0_ge, yc0_lt, yc0_gt, yc0_ad, yc0_da, yc0_sb, yc0_ml, yc0_lm, yc1_eq, yc1_eq2, yc1_le, yc1_ge, yc1_lt, yc1_gt, yc1_ad, yc1_da, yc1_sb, yc1_ml, yc1_lm, yc2_eq, yc2_eq2, yc2_le, yc2_ge, yc2_lt, yc2_gt, yc2_ad, yc2_da, yc2_sb, yc2_ml, yc2_lm, yc31_ge, ymodn, yI_1sl, yc2_dv, yn1_eq, yn1_lt, xgd_t, xlt_e, Option.bind_some, nI_add, pk_mul, pk_sub, pk_div, pk_rem, yI_and, yI_or, yI_xor, yI_nd, yI_nd2, yI_31, yI_shl, nI_leI, nI_ltI, nI_eq, nI_clamp, xinb_t, yP_z, yP_if, h.1, if_neg, if_pos]
      exact this
    · have eT : yb (yci T p) q ↔ T q p := yci_b hT hn
      have e1 : yow n T r l p (q + 1) = max (yow n T r l p q) (yif (T q p) (l q + 1) 0) := by
        unfold yow; rw [if_neg h0, if_neg h0, ymx_s]
      have := ih (q + 1) (by omega) hz
      rw [e1] at this
      by_cases hx : T q p
      · rw [yif_t hx] at this
        by_cases hc : l q + 1 ≤ yow n T r l p q
        · rw [show max (yow n T r l p q) (l q + 1) = yow n T r l p q by omega] at this
          simp (disch := omega) only [yl3, yl4, yl5, yl6, yl7, yl8, yl9, yl10, yl13, yl16, yl20, yl21, yl22, yl23, yl24, yl32, yl40, yl48, yl57, yl59, yl63, yl64, yl97, yl99, yl122, yl255, yl256, yl400, yl1000, yl2000, yl2048, yc0_eq, yc0_eq2, yc0_le, yc0_ge, yc0_lt, yc0_gt, yc0_ad, yc0_da, yc0_sb, yc0_ml, yc0_lm, yc1_eq, yc1_eq2, yc1_le, yc1_ge, yc1_lt, yc1_gt, yc1_ad, yc1_da, yc1_sb, yc1_ml, yc1_lm, yc2_eq, yc2_eq2, yc2_le, yc2_ge, yc2_lt, yc2_gt, yc2_ad, yc2_da, yc2_sb, yc2_ml, yc2_lm, yc31_ge, ymodn, yI_1sl, yc2_dv, yn1_eq, yn1_lt, xgd_t, xlt_e, Option.bind_some, nI_add, pk_mul, pk_sub, pk_div, pk_rem, yI_and, yI_or, yI_xor, yI_nd, yI_nd2, yI_31, yI_shl, nI_leI, nI_ltI, nI_eq, nI_clamp, xinb_t, yP_z, yP_if, h.1, if_neg, h.2.2 p (by omega), s_has, yif_t (eT.mpr hx), hl q (by omega), if_pos]
          exact this
        · rw [show max (yow n T r l p q) (l q + 1) = l q + 1 by omega] at this
          simp (disch := omega) only [yl3, yl4, yl5, yl6, yl7, yl8, yl9, yl10, yl13, yl16, yl20, yl21, yl22, yl23, yl24, yl32, yl40, yl48, yl57, yl59, yl63, yl64, yl97, yl99, yl122, yl255, yl256, yl400, yl1000, yl2000, yl2048, yc0_eq, yc0_eq2, yc0_le, yc0_ge, yc0_lt, yc0_gt, yc0_ad, yc0_da, yc0_sb, yc0_ml, yc0_lm, yc1_eq, yc1_eq2, yc1_le, yc1_ge, yc1_lt, yc1_gt, yc1_ad, yc1_da, yc1_sb, yc1_ml, yc1_lm, yc2_eq, yc2_eq2, yc2_le, yc2_ge, yc2_lt, yc2_gt, yc2_ad, yc2_da, yc2_sb, yc2_ml, yc2_lm, yc31_ge, ymodn, yI_1sl, yc2_dv, yn1_eq, yn1_lt, xgd_t, xlt_e, Option.bind_some, nI_add, pk_mul, pk_sub, pk_div, pk_rem, yI_and, yI_or, yI_xor, yI_nd, yI_nd2, yI_31, yI_shl, nI_leI, nI_ltI, nI_eq, nI_clamp, xinb_t, yP_z, yP_if, h.1, if_neg, h.2.2 p (by omega), s_has, yif_t (eT.mpr hx), hl q (by omega)]
          exact this
      · rw [yif_f hx, Nat.max_zero] at this
        simp (disch := omega) only [yl3, yl4, yl5, yl6, yl7, yl8, yl9, yl10, yl13, yl16, yl20, yl21, yl22, yl23, yl24, yl32, yl40, yl48, yl57, yl59, yl63, yl64, yl97, yl99, yl122, yl255, yl256, yl400, yl1000, yl2000, yl2048, yc0_eq, yc0_eq2, yc0_le, yc0_ge, yc0_lt, yc0_gt, yc0_ad, yc0_da, yc0_sb, yc0_ml, yc0_lm, yc1_eq, yc1_eq2, yc1_le, yc1_ge, yc1_lt, yc1_gt, yc1_ad, yc1_da, yc1_sb, yc1_ml, yc1_lm, yc2_eq, yc2_eq2, yc2_le, yc2_ge, yc2_lt, yc2_gt, yc2_ad, yc2_da, yc2_sb, yc2_ml, yc2_lm, yc31_ge, ymodn, yI_1sl, yc2_dv, yn1_eq, yn1_lt, xgd_t, xlt_e, Option.bind_some, nI_add, pk_mul, pk_sub, pk_div, pk_rem, yI_and, yI_or, yI_xor, yI_nd, yI_nd2, yI_31, yI_shl, nI_leI, nI_ltI, nI_eq, nI_clamp, xinb_t, yP_z, yP_if, h.1, if_neg, h.2.2 p (by omega), s_has, yif_f (fun e => hx (eT.mp e))]
        exact this
/-- a round of the model's levels -/
theorem s_mgl_18 {n : Nat} {T : yG} (hT : yPo n T) (hn : n ≤ 8) {r : Nat} (hr : r < n) : ∀ (d p : Nat), p + d = n → ∀ (l : Nat → Nat) (M : Nat) (m : xmm), yML n T m → (∀ p, p < n → m.1 172 p = nI (l p)) → (∀ p, l p ≤ 8) → (r > 0 → ∀ p, l p ≤ ylev n T p) → (∀ q, q < p → l q ≤ ylev n T q) → (r > 0 → ∀ q, ylev n T q < r → l q = ylev n T q) → (∀ q, q < p → ylev n T q ≤ r → l q = ylev n T q) → M ≤ ymx (fun p => ylev n T p + 1) n → (∀ q, q < p → l q + 1 ≤ M) → ∃ (l' : Nat → Nat) (M' : Nat) (m' : xmm), (∀ {z : Int32 × xmm}, bX12_greatestLevel_144_4 (yv M') (nI (r + 1)) m' = some z → bX12_greatestLevel_144_18 (yv M) (nI r) (nI p) m = some z) ∧ (∀ p, p < n → m'.1 172 p = nI (l' p)) ∧ (∀ p, l' p ≤ 8) ∧ (∀ p, p < n → l' p ≤ ylev n T p) ∧ (∀ q, q < n → ylev n T q ≤ r → l' q = ylev n T q) ∧ M' ≤ ymx (fun p => ylev n T p + 1) n ∧ (∀ q, q < n → l' q + 1 ≤ M') ∧ yfr [172] m m' := by
  have ML : ymx (fun p => ylev n T p + 1) n ≤ 9 := ymx_le fun k _ => by have := ylev_le hT k; omega
  intro d
  induction d with
  | zero =>
    intro p hp l M m h h1 h2 h3 h4 h5 h6 h7 h8
    have e : p = n := by omega
    subst e
    refine ⟨l, M, m, fun {z} hz => ?_, h1, h2, h4, h6, h7, h8, yfr_r⟩
    apply bX12_greatestLevel_144_18_i
    simp (disch := omega) only [yl3, yl4, yl5, yl6, yl7, yl8, yl9, yl10, yl13, yl16, yl20, yl21, yl22, yl23, yl24, yl32, yl40, yl48, yl57, yl59, yl63, yl64, yl97, yl99, yl122, yl255, yl256, yl400, yl1000, yl2000, yl2048, yc0_eq, yc0_eq2, yc0_le, yc0_ge, yc0_lt, yc0_gt, yc0_ad, yc0_da, yc0_sb, yc0_ml, yc0_lm, yc1_eq, yc1_eq2, yc1_le, yc1_ge, yc1_lt, yc1_gt, yc1_ad, yc1_da, yc1_sb, yc1_ml, yc1_lm, yc2_eq, yc2_eq2, yc2_le, yc2_ge, yc2_lt, yc2_gt, yc2_ad, yc2_da, yc2_sb, yc2_ml, yc2_lm, yc31_ge, ymodn, yI_1sl, yc2_dv, yn1_eq, yn1_lt, xgd_t, xlt_e, Option.bind_some, nI_add, pk_mul, pk_sub, pk_div, pk_rem, yI_and, yI_or, yI_xor, yI_nd, yI_nd2, yI_31, yI_shl, nI_leI, nI_ltI, nI_eq, nI_clamp, xinb_t, yP_z, yP_if, h.1, if_pos]
    exact hz
  | succ d ih =>
    intro p hp l M m h h1 h2 h3 h4 h5 h6 h7 h8
    have ho1 : yow n T r l p n ≤ ylev n T p := by
      unfold yow
      by_cases h0 : r = 0
      · rw [if_pos h0]; exact Nat.zero_le _
      · rw [if_neg h0]
        apply ymx_le
        intro j _
        by_cases hx : T j p
        · rw [yif_t hx]
          have := h3 (by omega) j
          have := ylev_ge hT hx
          omega
        · rw [yif_f hx]; exact Nat.zero_le _
    have ho2 : ylev n T p ≤ r → yow n T r l p n = ylev n T p := by
      intro hle
      unfold yow
      by_cases h0 : r = 0
      · rw [if_pos h0]; omega
      · rw [if_neg h0, ylev_eq hT p]
        apply ymx_c
        intro j _
        by_cases hx : T j p
        · have := ylev_ge hT hx
          rw [yif_t hx, yif_t hx, h5 (by omega) j (by omega)]
        · rw [yif_f hx, yif_f hx]
    have b := ylev_le hT p
    obtain ⟨l', M', m', e1, e2⟩ := ih (p + 1) (by omega) (fun q => if q = p then yow n T r l p n else l q) (max M (yow n T r l p n + 1)) (xwi m 172 p (nI (yow n T r l p n))) (yML_r h (yfr_w yfr_r (List.mem_singleton.mpr rfl)) (by decide) (by decide) (by decide)) (fun q hq => by
        by_cases e : q = p
        · subst e; rw [xwi_e, if_pos rfl]
        · rw [xwi_i e, if_neg e]; exact h1 q hq) (fun q => by
        by_cases e : q = p
        · rw [if_pos e]; omega
        · rw [if_neg e]; exact h2 q) (fun hr0 q => by
        by_cases e : q = p
        · rw [if_pos e, e]; exact ho1
        · rw [if_neg e]; exact h3 hr0 q) (fun q hq => by
        by_cases e : q = p
        · rw [if_pos e, e]; exact ho1
        · rw [if_neg e]; exact h4 q (by omega)) (fun hr0 q hq => by
        by_cases e : q = p
        · subst e; rw [if_pos rfl]; exact ho2 (by omega)
        · rw [if_neg e]; exact h5 hr0 q hq) (fun q hq hle => by
        by_cases e : q = p
        · subst e; rw [if_pos rfl]; exact ho2 hle
        · rw [if_neg e]; exact h6 q (by omega) hle) (by
        have := ymx_ge (f := fun p => ylev n T p + 1) (j := p) (n := n) (by omega)
        omega) (fun q hq => by
        by_cases e : q = p
        · rw [if_pos e]; omega
        · rw [if_neg e]
          have := h8 q (by omega)
          omega)
    refine ⟨l', M', m', fun {z} hz => ?_, e2.1, e2.2.1, e2.2.2.1, e2.2.2.2.1, e2.2.2.2.2.1, e2.2.2.2.2.2.1, yfr_t (yfr_w yfr_r (by decide)) e2.2.2.2.2.2.2⟩
    apply bX12_greatestLevel_144_18_i
    simp (disch := omega) only [yl3, yl4, yl5, yl6, yl7, yl8, yl9, yl10, yl13, yl16, yl20, yl21, yl22, yl23, yl24, yl32, yl40, yl48, yl57, yl59, yl63, yl64, yl97, yl99, yl122, yl255, yl256, yl400, yl1000, yl2000, yl2048, yc0_eq, yc0_eq2, yc0_le, yc0_ge, yc0_lt, yc0_gt, yc0_ad, yc0_da, yc0_sb, yc0_ml, yc0_lm, yc1_eq, yc1_eq2, yc1_le, yc1_ge, yc1_lt, yc1_gt, yc1_ad, yc1_da, yc1_sb, yc1_ml, yc1_lm, yc2_eq, yc2_eq2, yc2_le, yc2_ge, yc2_lt, yc2_gt, yc2_ad, yc2_da, yc2_sb, yc2_ml, yc2_lm, yc31_ge, ymodn, yI_1sl, yc2_dv, yn1_eq, yn1_lt, xgd_t, xlt_e, Option.bind_some, nI_add, pk_mul, pk_sub, pk_div, pk_rem, yI_and, yI_or, yI_xor, yI_nd, yI_nd2, yI_31, yI_shl, nI_leI, nI_ltI, nI_eq, nI_clamp, xinb_t, yP_z, yP_if, h.1, if_neg]
    have z0 : yow n T r l p 0 = 0 := by unfold yow; by_cases h0 : r = 0 <;> simp [h0, ymx]
    have := s_mgl_32 hT hn (r := r) (by omega) h h1 h2 (p := p) (M := M) (by omega) (by omega) n 0 (by omega) (e1 hz)
    rw [z0] at this
    exact this
theorem s_mgl_4 {n : Nat} {T : yG} (hT : yPo n T) (hn : n ≤ 8) : ∀ (d r : Nat), r + d = n → 0 < r → ∀ (l : Nat → Nat) (M : Nat) (m : xmm), yML n T m → (∀ p, p < n → m.1 172 p = nI (l p)) → (∀ p, l p ≤ 8) → (∀ p, p < n → l p ≤ ylev n T p) → (∀ q, q < n → ylev n T q < r → l q = ylev n T q) → M ≤ ymx (fun p => ylev n T p + 1) n → (∀ q, q < n → l q + 1 ≤ M) → ∃ m', bX12_greatestLevel_144_4 (yv M) (nI r) m = some (yv (ymx (fun p => ylev n T p + 1) n), m') ∧ (∀ p, p < n → m'.1 172 p = nI (ylev n T p)) ∧ yfr [172] m m' := by
  intro d
  induction d with
  | zero =>
    intro r hr h0 l M m h h1 h2 h3 h4 h5 h6
    have e : r = n := by omega
    subst e
    have eM : M = ymx (fun p => ylev r T p + 1) r := by
      apply Nat.le_antisymm h5
      apply ymx_le
      intro k hk
      have := h6 k hk
      rw [h4 k hk (ylev_n hT hk)] at this
      exact this
    refine ⟨m, ?_, fun p hp => by rw [h1 p hp, h4 p hp (ylev_n hT hp)], yfr_r⟩
    apply bX12_greatestLevel_144_4_i
    simp (disch := omega) only [yl3, yl4, yl5, yl6, yl7, yl8, yl9, yl10, yl13, yl16, yl20, yl21, yl22, yl23, yl24, yl32, yl40, yl48, yl57, yl59, yl63, yl64, yl97, yl99, yl122, yl255, yl256, yl400, yl1000, yl2000, yl2048, yc0_eq, yc0_eq2, yc0_le, yc0_ge, yc0_lt, yc0_gt, yc0_ad, yc0_da, yc0_sb, yc0_ml, yc0_lm, yc1_eq, yc1_eq2, yc1_le, yc1_ge, yc1_lt, yc1_gt, yc1_ad, yc1_da, yc1_sb, yc1_ml, yc1_lm, yc2_eq, yc2_eq2, yc2_le, yc2_ge, yc2_lt, yc2_gt, yc2_ad, yc2_da, yc2_sb, yc2_ml, yc2_lm, yc31_ge, ymodn, yI_1sl, yc2_dv, yn1_eq, yn1_lt, xgd_t, xlt_e, Option.bind_some, nI_add, pk_mul, pk_sub, pk_div, pk_rem, yI_and, yI_or, yI_xor, yI_nd, yI_nd2, yI_31, yI_shl, nI_leI, nI_ltI, nI_eq, nI_clamp, xinb_t, yP_z, yP_if, h.1, if_neg, eM]
  | succ d ih =>
    intro r hr h0 l M m h h1 h2 h3 h4 h5 h6
    obtain ⟨l', M', m1, a1, a2, a3, a4, a5, a6, a7, a8⟩ := s_mgl_18 hT hn (r := r) (by omega) n 0 (by omega) (fun q => if q < n then l q else 0) M m h (fun p hp => by rw [if_pos hp]; exact h1 p hp) (fun p => by
        by_cases e : p < n
        · rw [if_pos e]; exact h2 p
        · rw [if_neg e]; exact Nat.zero_le _) (fun _ p => by
        by_cases e : p < n
        · rw [if_pos e]; exact h3 p e
        · rw [if_neg e]; exact Nat.zero_le _) (fun q hq => absurd hq (Nat.not_lt_zero q)) (fun _ q hq => by
        by_cases e : q < n
        · rw [if_pos e]; exact h4 q e hq
        · rw [if_neg e]
          rcases ylev_at hT q with e2 | ⟨w, hw, _⟩
          · exact e2.symm
          · exact absurd (hT.1 _ _ hw).2 e) (fun q hq => absurd hq (Nat.not_lt_zero q)) h5 (fun q hq => absurd hq (Nat.not_lt_zero q))
    obtain ⟨m', e1, e2, e3⟩ := ih (r + 1) (by omega) (by omega) l' M' m1 (yML_r h a8 (by decide) (by decide) (by decide)) a2 a3 a4 (fun q hq hle => a5 q hq (by omega)) a6 a7
    refine ⟨m', ?_, e2, yfr_t a8 e3⟩
    apply bX12_greatestLevel_144_4_i
    simp (disch := omega) only [yl3, yl4, yl5, yl6, yl7, yl8, yl9, yl10, yl13, yl16, yl20, yl21, yl22, yl23, yl24, yl32, yl40, yl48, yl57, yl59, yl63, yl64, yl97, yl99, yl122, yl255, yl256, yl400, yl1000, yl2000, yl2048, yc0_eq, yc0_eq2, yc0_le, yc0_ge, yc0_lt, yc0_gt, yc0_ad, yc0_da, yc0_sb, yc0_ml, yc0_lm, yc1_eq, yc1_eq2, yc1_le, yc1_ge, yc1_lt, yc1_gt, yc1_ad, yc1_da, yc1_sb, yc1_ml, yc1_lm, yc2_eq, yc2_eq2, yc2_le, yc2_ge, yc2_lt, yc2_gt, yc2_ad, yc2_da, yc2_sb, yc2_ml, yc2_lm, yc31_ge, ymodn, yI_1sl, yc2_dv, yn1_eq, yn1_lt, xgd_t, xlt_e, Option.bind_some, nI_add, pk_mul, pk_sub, pk_div, pk_rem, yI_and, yI_or, yI_xor, yI_nd, yI_nd2, yI_31, yI_shl, nI_leI, nI_ltI, nI_eq, nI_clamp, xinb_t, yP_z, yP_if, h.1, if_pos]
    exact a1 e1
theorem ygl_yv (n : Nat) (T : yG) : ygl n T = yv (ymx (fun p => ylev n T p + 1) n) := by
  unfold ygl yv
  by_cases h : n = 0
  · subst h; rfl
  · rw [if_neg h]
    have e : ∀ k, k ≠ 0 → ymx (fun p => ylev n T p + 1) k = ymx (fun p => ylev n T p) k + 1 := by
      intro k
      induction k with
      | zero => intro h; exact absurd rfl h
      | succ k ih =>
        intro _
        rw [ymx_s, ymx_s]
        by_cases hk : k = 0
        · subst hk
          show max 0 _ = max 0 _ + 1
          rw [Nat.max_eq_right (Nat.zero_le _), Nat.max_eq_right (Nat.zero_le _)]
        · rw [ih hk]; omega
    rw [e n h, if_neg (by omega), Nat.add_sub_cancel]
/-- the model's greatest level; each level is laid -/
theorem s_mgl {n : Nat} {T : yG} (hT : yPo n T) (hn : n ≤ 8) {m : xmm} (h : yML n T m) : ∃ m', fX12_greatestLevel_144 m = some (ygl n T, m') ∧ (∀ p, p < n → m'.1 172 p = nI (ylev n T p)) ∧ yfr [172] m m' := by
  by_cases hn0 : n = 0
  · subst hn0
    refine ⟨m, ?_, fun p hp => absurd hp (Nat.not_lt_zero p), yfr_r⟩
    have i2 : bX12_greatestLevel_144_4 (-1 : Int32) (nI 1) m = some (-1, m) := by
      apply bX12_greatestLevel_144_4_i
      simp (disch := omega) only [yl3, yl4, yl5, yl6, yl7, yl8, yl9, yl10, yl13, yl16, yl20, yl21, yl22, yl23, yl24, yl32, yl40, yl48, yl57, yl59, yl63, yl64, yl97, yl99, yl122, yl255, yl256, yl400, yl1000, yl2000, yl2048, yc0_eq, yc0_eq2, yc0_le, yc0_ge, yc0_lt, yc0_gt, yc0_ad, yc0_da, yc0_sb, yc0_ml, yc0_lm, yc1_eq, yc1_eq2, yc1_le, yc1_ge, yc1_lt, yc1_gt, yc1_ad, yc1_da, yc1_sb, yc1_ml, yc1_lm, yc2_eq, yc2_eq2, yc2_le, yc2_ge, yc2_lt, yc2_gt, yc2_ad, yc2_da, yc2_sb, yc2_ml, yc2_lm, yc31_ge, ymodn, yI_1sl, yc2_dv, yn1_eq, yn1_lt, xgd_t, xlt_e, Option.bind_some, nI_add, pk_mul, pk_sub, pk_div, pk_rem, yI_and, yI_or, yI_xor, yI_nd, yI_nd2, yI_31, yI_shl, nI_leI, nI_ltI, nI_eq, nI_clamp, xinb_t, yP_z, yP_if, h.1, if_neg]
    have i1 : bX12_greatestLevel_144_18 (-1 : Int32) (nI 0) (nI 0) m = some (-1, m) := by
      apply bX12_greatestLevel_144_18_i
      simp (disch := omega) only [yl3, yl4, yl5, yl6, yl7, yl8, yl9, yl10, yl13, yl16, yl20, yl21, yl22, yl23, yl24, yl32, yl40, yl48, yl57, yl59, yl63, yl64, yl97, yl99, yl122, yl255, yl256, yl400, yl1000, yl2000, yl2048, yc0_eq, yc0_eq2, yc0_le, yc0_ge, yc0_lt, yc0_gt, yc0_ad, yc0_da, yc0_sb, yc0_ml, yc0_lm, yc1_eq, yc1_eq2, yc1_le, yc1_ge, yc1_lt, yc1_gt, yc1_ad, yc1_da, yc1_sb, yc1_ml, yc1_lm, yc2_eq, yc2_eq2, yc2_le, yc2_ge, yc2_lt, yc2_gt, yc2_ad, yc2_da, yc2_sb, yc2_ml, yc2_lm, yc31_ge, ymodn, yI_1sl, yc2_dv, yn1_eq, yn1_lt, xgd_t, xlt_e, Option.bind_some, nI_add, pk_mul, pk_sub, pk_div, pk_rem, yI_and, yI_or, yI_xor, yI_nd, yI_nd2, yI_31, yI_shl, nI_leI, nI_ltI, nI_eq, nI_clamp, xinb_t, yP_z, yP_if, h.1, if_pos]
      exact i2
    apply fX12_greatestLevel_144_i
    apply bX12_greatestLevel_144_4_i
    rw [h.1, if_neg (by decide), if_pos rfl]
    exact i1
  · -- the first round lays 0
    have round0 : ∀ (d p : Nat), p + d = n → ∀ (M : Nat) (m : xmm), yML n T m → M ≤ 1 → (0 < p → M = 1) → (∀ q, q < p → m.1 172 q = 0) → ∃ m', (∀ {z : Int32 × xmm}, bX12_greatestLevel_144_4 (yv 1) (nI 1) m' = some z → bX12_greatestLevel_144_18 (yv M) (nI 0) (nI p) m = some z) ∧ (∀ q, q < n → m'.1 172 q = 0) ∧ yfr [172] m m' := by
      intro d
      induction d with
      | zero =>
        intro p hp M m h hM hM1 hz
        have e : p = n := by omega
        subst e
        refine ⟨m, fun {z} hzz => ?_, hz, yfr_r⟩
        apply bX12_greatestLevel_144_18_i
        simp (disch := omega) only [yl3, yl4, yl5, yl6, yl7, yl8, yl9, yl10, yl13, yl16, yl20, yl21, yl22, yl23, yl24, yl32, yl40, yl48, yl57, yl59, yl63, yl64, yl97, yl99, yl122, yl255, yl256, yl400, yl1000, yl2000, yl2048, yc0_eq, yc0_eq2, yc0_le, yc0_ge, yc0_lt, yc0_gt, yc0_ad, yc0_da, yc0_sb, yc0_ml, yc0_lm, yc1_eq, yc1_eq2, yc1_le, yc1_ge, yc1_lt, yc1_gt, yc1_ad, yc1_da, yc1_sb, yc1_ml, yc1_lm, yc2_eq, yc2_eq2, yc2_le, yc2_ge, yc2_lt, yc2_gt, yc2_ad, yc2_da, yc2_sb, yc2_ml, yc2_lm, yc31_ge, ymodn, yI_1sl, yc2_dv, yn1_eq, yn1_lt, xgd_t, xlt_e, Option.bind_some, nI_add, pk_mul, pk_sub, pk_div, pk_rem, yI_and, yI_or, yI_xor, yI_nd, yI_nd2, yI_31, yI_shl, nI_leI, nI_ltI, nI_eq, nI_clamp, xinb_t, yP_z, yP_if, h.1, if_pos]
        rw [hM1 (by omega)]
        exact hzz
      | succ d ih =>
        intro p hp M m h hM hM1 hz
        obtain ⟨m', e1, e2, e3⟩ := ih (p + 1) (by omega) 1 (xwi m 172 p 0) (yML_r h (yfr_w yfr_r (List.mem_singleton.mpr rfl)) (by decide) (by decide) (by decide)) (Nat.le_refl _) (fun _ => rfl) (fun q hq => by
            by_cases e : q = p
            · subst e; rw [xwi_e]
            · rw [xwi_i e]; exact hz q (by omega))
        refine ⟨m', fun {z} hzz => ?_, e2, yfr_t (yfr_w yfr_r (by decide)) e3⟩
        apply bX12_greatestLevel_144_18_i
        simp (disch := omega) only [yl3, yl4, yl5, yl6, yl7, yl8, yl9, yl10, yl13, yl16, yl20, yl21, yl22, yl23, yl24, yl32, yl40, yl48, yl57, yl59, yl63, yl64, yl97, yl99, yl122, yl255, yl256, yl400, yl1000, yl2000, yl2048, yc0_eq, yc0_eq2, yc0_le, yc0_ge, yc0_lt, yc0_gt, yc0_ad, yc0_da, yc0_sb, yc0_ml, yc0_lm, yc1_eq, yc1_eq2, yc1_le, yc1_ge, yc1_lt, yc1_gt, yc1_ad, yc1_da, yc1_sb, yc1_ml, yc1_lm, yc2_eq, yc2_eq2, yc2_le, yc2_ge, yc2_lt, yc2_gt, yc2_ad, yc2_da, yc2_sb, yc2_ml, yc2_lm, yc31_ge, ymodn, yI_1sl, yc2_dv, yn1_eq, yn1_lt, xgd_t, xlt_e, Option.bind_some, nI_add, pk_mul, pk_sub, pk_div, pk_rem, yI_and, yI_or, yI_xor, yI_nd, yI_nd2, yI_31, yI_shl, nI_leI, nI_ltI, nI_eq, nI_clamp, xinb_t, yP_z, yP_if, h.1, if_neg]
        have inner : ∀ (e q : Nat), q + e = n → bX12_greatestLevel_144_32 (yv M) (nI 0) (nI p) 0 (nI q) m = some z := by
          intro e
          induction e with
          | zero =>
            intro q hq
            have eq : q = n := by omega
            subst eq
            apply bX12_greatestLevel_144_32_i
            simp (disch := omega) only [yl3, yl4, yl5, yl6, yl7, yl8, yl9, yl10, yl13, yl16, yl20, yl21, yl22, yl23, yl24, yl32, yl40, yl48, yl57, yl59, yl63, yl64, yl97, yl99, yl122, yl255, yl256, yl400, yl1000, yl2000, yl2048, yc0_eq, yc0_eq2, yc0_le, yc0_ge, yc0_lt, yc0_gt, yc0_ad, yc0_da, yc0_sb, yc0_ml, yc0_lm, yc1_eq, yc1_eq2, yc1_le, yc1_ge, yc1_lt, yc1_gt, yc1_ad, yc1_da, yc1_sb, yc1_ml, yc1_lm, yc2_eq, yc2_eq2, yc2_le, yc2_ge, yc2_lt, yc2_gt, yc2_ad, yc2_da, yc2_sb, yc2_ml, yc2_lm, yc31_ge, ymodn, yI_1sl, yc2_dv, yn1_eq, yn1_lt, xgd_t, xlt_e, Option.bind_some, nI_add, pk_mul, pk_sub, pk_div, pk_rem, yI_and, yI_or, yI_xor, yI_nd, yI_nd2, yI_31, yI_shl, nI_leI, nI_ltI, nI_eq, nI_clamp, xinb_t, yP_z, yP_if, h.1, if_pos]
            rcases (show M = 0 ∨ M = 1 by omega) with e0 | e0
            · subst e0
              rw [if_neg (show ¬ (0 : Int32) ≤ yv 0 by decide)]
              exact e1 hzz
            · subst e0
              rw [if_pos (show (0 : Int32) ≤ yv 1 by decide)]
              exact e1 hzz
          | succ e ihe =>
            intro q hq
            apply bX12_greatestLevel_144_32_i
            simp (disch := omega) only [yl3, yl4, yl5, yl6, yl7, yl8, yl9, yl10, yl13, yl16, yl20, yl21, yl22, yl23, yl24, yl32, yl40, yl48, yl57, yl59, yl63, yl64, yl97, yl99, yl122, yl255, yl256, yl400, yl1000, yl2000, yl2048, yc0_eq, yc0_eq2, yc0_le, yc0_ge, yc0_lt, yc0_gt, yc0_ad, yc0_da, yc0_sb, yc0_ml, yc0_lm, yc1_eq, yc1_eq2, yc1_le, yc1_ge, yc1_lt, yc1_gt, yc1_ad, yc1_da, yc1_sb, yc1_ml, yc1_lm, yc2_eq, yc2_eq2, yc2_le, yc2_ge, yc2_lt, yc2_gt, yc2_ad, yc2_da, yc2_sb, yc2_ml, yc2_lm, yc31_ge, ymodn, yI_1sl, yc2_dv, yn1_eq, yn1_lt, xgd_t, xlt_e, Option.bind_some, nI_add, pk_mul, pk_sub, pk_div, pk_rem, yI_and, yI_or, yI_xor, yI_nd, yI_nd2, yI_31, yI_shl, nI_leI, nI_ltI, nI_eq, nI_clamp, xinb_t, yP_z, yP_if, h.1, if_neg, if_pos]
            exact ihe (q + 1) (by omega)
        exact inner n 0 (by omega)
    obtain ⟨m1, a1, a2, a3⟩ := round0 n 0 (by omega) 0 m h (by omega) (fun h => absurd h (by omega)) (fun q hq => absurd hq (Nat.not_lt_zero q))
    obtain ⟨m', e1, e2, e3⟩ := s_mgl_4 hT hn (n - 1) 1 (by omega) (by omega) (fun _ => 0) 1 m1 (yML_r h a3 (by decide) (by decide) (by decide)) (fun p hp => a2 p hp) (fun _ => Nat.zero_le _) (fun _ _ => Nat.zero_le _) (fun q _ hq => by omega) (by
      have := ymx_ge (f := fun p => ylev n T p + 1) (j := 0) (n := n) (by omega)
      have h1 : 1 ≤ ylev n T 0 + 1 := by omega
      exact Nat.le_trans h1 this) (fun q _ => Nat.le_refl _)
    refine ⟨m', ?_, e2, yfr_t a3 e3⟩
    rw [ygl_yv]
    apply fX12_greatestLevel_144_i
    apply bX12_greatestLevel_144_4_i
    rw [h.1]
    by_cases hlt : (0 : Int32) < nI n
    · rw [if_pos hlt]; exact a1 e1
    · rw [if_neg hlt, if_pos rfl]; exact a1 e1
/-! covers -/
theorem s_mcv_l {n : Nat} {T : yG} (hT : yPo n T) (hn : n ≤ 8) {m : xmm} (h : yML n T m) {a : Nat} (ha : a < 8) : ∀ (d k : Nat), k + d = n → bX12_coversOf_144_4 (nI a) (nI (ybs (fun c => T a c ∧ ∀ q, T a q → ¬ T q c) k)) (nI k) m = some (nI (ycv n T a), m) := by
  intro d
  induction d with
  | zero =>
    intro k hk
    have e : k = n := by omega
    subst e
    apply bX12_coversOf_144_4_i
    simp (disch := omega) only [yl3, yl4, yl5, yl6, yl7, yl8, yl9, yl10, yl13, yl16, yl20, yl21, yl22, yl23, yl24, yl32, yl40, yl48, yl57, yl59, yl63, yl64, yl97, yl99, yl122, yl255, yl256, yl400, yl1000, yl2000, yl2048, yc0_eq, yc0_eq2, yc0_le, yc0_ge, yc0_lt, yc0_gt, yc0_ad, yc0_da, yc0_sb, yc0_ml, yc0_lm, yc1_eq, yc1_eq2, yc1_le, yc1_ge, yc1_lt, yc1_gt, yc1_ad, yc1_da, yc1_sb, yc1_ml, yc1_lm, yc2_eq, yc2_eq2, yc2_le, yc2_ge, yc2_lt, yc2_gt, yc2_ad, yc2_da, yc2_sb, yc2_ml, yc2_lm, yc31_ge, ymodn, yI_1sl, yc2_dv, yn1_eq, yn1_lt, xgd_t, xlt_e, Option.bind_some, nI_add, pk_mul, pk_sub, pk_div, pk_rem, yI_and, yI_or, yI_xor, yI_nd, yI_nd2, yI_31, yI_shl, nI_leI, nI_ltI, nI_eq, nI_clamp, xinb_t, yP_z, yP_if, h.1, if_pos]
    rfl
  | succ d ih =>
    intro k hk
    apply bX12_coversOf_144_4_i
    have e := ih (k + 1) (by omega)
    rw [ybs_s] at e
    have b1 := yro_lt T a
    have b2 := yci_lt T k
    have b3 := yand_lt (yro T a) (yci T k) (n := 8) b1
    have eT : yb (yro T a) k ↔ T a k := yro_b hT hn
    have e0 : yro T a &&& yci T k = 0 ↔ ∀ q, T a q → ¬ T q k := by
      rw [yand0]
      exact ⟨fun h q h1 h2 => h q ((yro_b hT hn).mpr h1) ((yci_b hT hn).mpr h2), fun h q h1 h2 => h q ((yro_b hT hn).mp h1) ((yci_b hT hn).mp h2)⟩
    by_cases h1 : T a k
    · by_cases h2 : ∀ q, T a q → ¬ T q k
      · rw [yif_t ⟨h1, h2⟩] at e
        simp (disch := omega) only [yl3, yl4, yl5, yl6, yl7, yl8, yl9, yl10, yl13, yl16, yl20, yl21, yl22, yl23, yl24, yl32, yl40, yl48, yl57, yl59, yl63, yl64, yl97, yl99, yl122, yl255, yl256, yl400, yl1000, yl2000, yl2048, yc0_eq, yc0_eq2, yc0_le, yc0_ge, yc0_lt, yc0_gt, yc0_ad, yc0_da, yc0_sb, yc0_ml, yc0_lm, yc1_eq, yc1_eq2, yc1_le, yc1_ge, yc1_lt, yc1_gt, yc1_ad, yc1_da, yc1_sb, yc1_ml, yc1_lm, yc2_eq, yc2_eq2, yc2_le, yc2_ge, yc2_lt, yc2_gt, yc2_ad, yc2_da, yc2_sb, yc2_ml, yc2_lm, yc31_ge, ymodn, yI_1sl, yc2_dv, yn1_eq, yn1_lt, xgd_t, xlt_e, Option.bind_some, nI_add, pk_mul, pk_sub, pk_div, pk_rem, yI_and, yI_or, yI_xor, yI_nd, yI_nd2, yI_31, yI_shl, nI_leI, nI_ltI, nI_eq, nI_clamp, xinb_t, yP_z, yP_if, h.1, if_neg, h.2.1 a ha, s_has, yif_t (eT.mpr h1), h.2.2 k (by omega), if_pos (e0.mpr h2)]
        exact e
      · rw [yif_f (fun e => h2 e.2), Nat.or_zero] at e
        simp (disch := omega) only [yl3, yl4, yl5, yl6, yl7, yl8, yl9, yl10, yl13, yl16, yl20, yl21, yl22, yl23, yl24, yl32, yl40, yl48, yl57, yl59, yl63, yl64, yl97, yl99, yl122, yl255, yl256, yl400, yl1000, yl2000, yl2048, yc0_eq, yc0_eq2, yc0_le, yc0_ge, yc0_lt, yc0_gt, yc0_ad, yc0_da, yc0_sb, yc0_ml, yc0_lm, yc1_eq, yc1_eq2, yc1_le, yc1_ge, yc1_lt, yc1_gt, yc1_ad, yc1_da, yc1_sb, yc1_ml, yc1_lm, yc2_eq, yc2_eq2, yc2_le, yc2_ge, yc2_lt, yc2_gt, yc2_ad, yc2_da, yc2_sb, yc2_ml, yc2_lm, yc31_ge, ymodn, yI_1sl, yc2_dv, yn1_eq, yn1_lt, xgd_t, xlt_e, Option.bind_some, nI_add, pk_mul, pk_sub, pk_div, pk_rem, yI_and, yI_or, yI_xor, yI_nd, yI_nd2, yI_31, yI_shl, nI_leI, nI_ltI, nI_eq, nI_clamp, xinb_t, yP_z, yP_if, h.1, if_neg, h.2.1 a ha, s_has, yif_t (eT.mpr h1), h.2.2 k (by omega), if_neg (fun e => h2 (e0.mp e))]
        exact e
    · rw [yif_f (fun e => h1 e.1), Nat.or_zero] at e
      simp (disch := omega) only [yl3, yl4, yl5, yl6, yl7, yl8, yl9, yl10, yl13, yl16, yl20, yl21, yl22, yl23, yl24, yl32, yl40, yl48, yl57, yl59, yl63, yl64, yl97, yl99, yl122, yl255, yl256, yl400, yl1000, yl2000, yl2048, yc0_eq, yc0_eq2, yc0_le, yc0_ge, yc0_lt, yc0_gt, yc0_ad, yc0_da, yc0_sb, yc0_ml, yc0_lm, yc1_eq, yc1_eq2, yc1_le, yc1_ge, yc1_lt, yc1_gt, yc1_ad, yc1_da, yc1_sb, yc1_ml, yc1_lm, yc2_eq, yc2_eq2, yc2_le, yc2_ge, yc2_lt, yc2_gt, yc2_ad, yc2_da, yc2_sb, yc2_ml, yc2_lm, yc31_ge, ymodn, yI_1sl, yc2_dv, yn1_eq, yn1_lt, xgd_t, xlt_e, Option.bind_some, nI_add, pk_mul, pk_sub, pk_div, pk_rem, yI_and, yI_or, yI_xor, yI_nd, yI_nd2, yI_31, yI_shl, nI_leI, nI_ltI, nI_eq, nI_clamp, xinb_t, yP_z, yP_if, h.1, if_neg, h.2.1 a ha, s_has, yif_f (fun e => h1 (eT.mp e))]
      exact e
theorem s_mcv {n : Nat} {T : yG} (hT : yPo n T) (hn : n ≤ 8) {m : xmm} (h : yML n T m) {a : Nat} (ha : a < 8) : fX12_coversOf_144 (nI a) m = some (nI (ycv n T a), m) := by
  apply fX12_coversOf_144_i
  exact s_mcv_l hT hn h ha n 0 (by omega)
theorem s_mncv_l {n : Nat} {T : yG} (hT : yPo n T) (hn : n ≤ 8) {m : xmm} (h : yML n T m) : ∀ (d k : Nat), k + d = n → bX12_coverMany_144_4 (nI (ysm (fun p => ypp (ycv n T p)) k)) (nI k) m = some (nI (yncv n T), m) := by
  intro d
  induction d with
  | zero =>
    intro k hk
    have e : k = n := by omega
    subst e
    apply bX12_coverMany_144_4_i
    simp (disch := omega) only [yl3, yl4, yl5, yl6, yl7, yl8, yl9, yl10, yl13, yl16, yl20, yl21, yl22, yl23, yl24, yl32, yl40, yl48, yl57, yl59, yl63, yl64, yl97, yl99, yl122, yl255, yl256, yl400, yl1000, yl2000, yl2048, yc0_eq, yc0_eq2, yc0_le, yc0_ge, yc0_lt, yc0_gt, yc0_ad, yc0_da, yc0_sb, yc0_ml, yc0_lm, yc1_eq, yc1_eq2, yc1_le, yc1_ge, yc1_lt, yc1_gt, yc1_ad, yc1_da, yc1_sb, yc1_ml, yc1_lm, yc2_eq, yc2_eq2, yc2_le, yc2_ge, yc2_lt, yc2_gt, yc2_ad, yc2_da, yc2_sb, yc2_ml, yc2_lm, yc31_ge, ymodn, yI_1sl, yc2_dv, yn1_eq, yn1_lt, xgd_t, xlt_e, Option.bind_some, nI_add, pk_mul, pk_sub, pk_div, pk_rem, yI_and, yI_or, yI_xor, yI_nd, yI_nd2, yI_31, yI_shl, nI_leI, nI_ltI, nI_eq, nI_clamp, xinb_t, yP_z, yP_if, h.1, if_pos]
    rfl
  | succ d ih =>
    intro k hk
    apply bX12_coverMany_144_4_i
    have e := ih (k + 1) (by omega)
    rw [ysm_s] at e
    have b := ycv_lt hn T k
    simp (disch := omega) only [yl3, yl4, yl5, yl6, yl7, yl8, yl9, yl10, yl13, yl16, yl20, yl21, yl22, yl23, yl24, yl32, yl40, yl48, yl57, yl59, yl63, yl64, yl97, yl99, yl122, yl255, yl256, yl400, yl1000, yl2000, yl2048, yc0_eq, yc0_eq2, yc0_le, yc0_ge, yc0_lt, yc0_gt, yc0_ad, yc0_da, yc0_sb, yc0_ml, yc0_lm, yc1_eq, yc1_eq2, yc1_le, yc1_ge, yc1_lt, yc1_gt, yc1_ad, yc1_da, yc1_sb, yc1_ml, yc1_lm, yc2_eq, yc2_eq2, yc2_le, yc2_ge, yc2_lt, yc2_gt, yc2_ad, yc2_da, yc2_sb, yc2_ml, yc2_lm, yc31_ge, ymodn, yI_1sl, yc2_dv, yn1_eq, yn1_lt, xgd_t, xlt_e, Option.bind_some, nI_add, pk_mul, pk_sub, pk_div, pk_rem, yI_and, yI_or, yI_xor, yI_nd, yI_nd2, yI_31, yI_shl, nI_leI, nI_ltI, nI_eq, nI_clamp, xinb_t, yP_z, yP_if, h.1, if_neg, s_mcv hT hn h (a := k) (by omega), s_bitsOf b]
    exact e
theorem s_mncv {n : Nat} {T : yG} (hT : yPo n T) (hn : n ≤ 8) {m : xmm} (h : yML n T m) : fX12_coverMany_144 m = some (nI (yncv n T), m) := by
  apply fX12_coverMany_144_i
  exact s_mncv_l hT hn h n 0 (by omega)
/-! ways from below -/
theorem yxor2 {S p : Nat} (h : yb S p) : S ^^^ 2 ^ p = ynd S (2 ^ p) := by
  apply ytb_ext
  intro i
  rw [Nat.testBit_xor, show ((ynd S (2 ^ p)).testBit i = true ↔ _) from yb_nd, yb_pw]
  by_cases e : i = p
  · subst e
    have h3 : yb (2 ^ i) i := yb_pw.mpr rfl
    unfold yb at h3 h
    rw [h3, h]
    exact ⟨fun h => absurd h (by decide), fun h => absurd rfl h.2⟩
  · have h2 : (2 ^ p).testBit i = false := by
      rw [Nat.testBit_two_pow]
      exact decide_eq_false (fun h => e h.symm)
    rw [h2, Bool.xor_false]
    exact ⟨fun h => ⟨h, e⟩, fun h => h.1⟩
theorem s_mst_28 {n : Nat} {T : yG} (hT : yPo n T) (hn : n ≤ 8) {S : Nat} (hS : S < 2 ^ n) : ∀ (d p : Nat), p + d = n → ∀ (m : xmm), yML n T m → (∀ S', S' < S → m.1 174 S' = nI (yF n T S')) → m.1 174 S = nI (ysm (fun p => yif (yxm T S p) (yF n T (ynd S (2 ^ p))) 0) p) → ∃ m', (∀ {z : Int32 × xmm}, bX12_straights_144_9 (nI (S + 1)) m' = some z → bX12_straights_144_28 (nI S) (nI p) m = some z) ∧ m'.1 174 S = nI (ysm (fun p => yif (yxm T S p) (yF n T (ynd S (2 ^ p))) 0) n) ∧ (∀ i, i ≠ S → m'.1 174 i = m.1 174 i) ∧ yfr [174] m m' := by
  have h8 := y2p8 hn
  intro d
  induction d with
  | zero =>
    intro p hp m h0 h1 h2
    have e : p = n := by omega
    subst e
    refine ⟨m, fun {z} hz => ?_, h2, fun _ _ => rfl, yfr_r⟩
    apply bX12_straights_144_28_i
    simp (disch := omega) only [yl3, yl4, yl5, yl6, yl7, yl8, yl9, yl10, yl13, yl16, yl20, yl21, yl22, yl23, yl24, yl32, yl40, yl48, yl57, yl59, yl63, yl64, yl97, yl99, yl122, yl255, yl256, yl400, yl1000, yl2000, yl2048, yc0_eq, yc0_eq2, yc0_le, yc0_ge, yc0_lt, yc0_gt, yc0_ad, yc0_da, yc0_sb, yc0_ml, yc0_lm, yc1_eq, yc1_eq2, yc1_le, yc1_ge, yc1_lt, yc1_gt, yc1_ad, yc1_da, yc1_sb, yc1_ml, yc1_lm, yc2_eq, yc2_eq2, yc2_le, yc2_ge, yc2_lt, yc2_gt, yc2_ad, yc2_da, yc2_sb, yc2_ml, yc2_lm, yc31_ge, ymodn, yI_1sl, yc2_dv, yn1_eq, yn1_lt, xgd_t, xlt_e, Option.bind_some, nI_add, pk_mul, pk_sub, pk_div, pk_rem, yI_and, yI_or, yI_xor, yI_nd, yI_nd2, yI_31, yI_shl, nI_leI, nI_ltI, nI_eq, nI_clamp, xinb_t, yP_z, yP_if, h0.1, if_pos]
    exact hz
  | succ d ih =>
    intro p hp m h0 h1 h2
    have b1 := yro_lt T p
    have b3 := yand_lt (yro T p) S (n := 8) b1
    have e0 : yro T p &&& S = 0 ↔ ∀ c, T p c → ¬ yb S c := by
      rw [yand0]
      exact ⟨fun h q h1 => h q ((yro_b hT hn).mpr h1), fun h q h1 => h q ((yro_b hT hn).mp h1)⟩
    by_cases hb : yb S p
    · by_cases hc : ∀ c, T p c → ¬ yb S c
      · have hlt : ynd S (2 ^ p) < S := ysb_lt (fun a ha => (yb_nd.mp ha).1) hb (fun e => (yb_nd.mp e).2 (yb_pw.mpr rfl))
        have hx : yxm T S p := ⟨hb, hc⟩
        obtain ⟨m', e1, e2, e3, e4⟩ := ih (p + 1) (by omega) (xwi m 174 S (nI (ysm (fun p => yif (yxm T S p) (yF n T (ynd S (2 ^ p))) 0) p + yF n T (ynd S (2 ^ p))))) (yML_r h0 (yfr_w yfr_r (List.mem_singleton.mpr rfl)) (by decide) (by decide) (by decide)) (fun S' q1 => by rw [xwi_i (by omega)]; exact h1 S' q1) (by rw [xwi_e, ysm_s, yif_t hx])
        refine ⟨m', fun {z} hz => ?_, e2, fun i hi => by rw [e3 i hi, xwi_i hi], yfr_t (yfr_w yfr_r (by decide)) e4⟩
        apply bX12_straights_144_28_i
        simp (disch := omega) only [yl3, yl4, yl5, yl6, yl7, yl8, yl9, yl10, yl13, yl16, yl20, yl21, yl22, yl23, yl24, yl32, yl40, yl48, yl57, yl59, yl63, yl64, yl97, yl99, yl122, yl255, yl256, yl400, yl1000, yl2000, yl2048, yc0_eq, yc0_eq2, yc0_le, yc0_ge, yc0_lt, yc0_gt, yc0_ad, yc0_da, yc0_sb, yc0_ml, yc0_lm, yc1_eq, yc1_eq2, yc1_le, yc1_ge, yc1_lt, yc1_gt, yc1_ad, yc1_da, yc1_sb, yc1_ml, yc1_lm, yc2_eq, yc2_eq2, yc2_le, yc2_ge, yc2_lt, yc2_gt, yc2_ad, yc2_da, yc2_sb, yc2_ml, yc2_lm, yc31_ge, ymodn, yI_1sl, yc2_dv, yn1_eq, yn1_lt, xgd_t, xlt_e, Option.bind_some, nI_add, pk_mul, pk_sub, pk_div, pk_rem, yI_and, yI_or, yI_xor, yI_nd, yI_nd2, yI_31, yI_shl, nI_leI, nI_ltI, nI_eq, nI_clamp, xinb_t, yP_z, yP_if, h0.1, if_neg, s_has, yif_t hb, h0.2.1 p (by omega), if_pos (e0.mpr hc), yxor2 hb, h2, h1 _ hlt]
        exact e1 hz
      · obtain ⟨m', e1, e2, e3, e4⟩ := ih (p + 1) (by omega) m h0 h1 (by rw [ysm_s, yif_f (fun e => hc e.2), Nat.add_zero]; exact h2)
        refine ⟨m', fun {z} hz => ?_, e2, e3, e4⟩
        apply bX12_straights_144_28_i
        simp (disch := omega) only [yl3, yl4, yl5, yl6, yl7, yl8, yl9, yl10, yl13, yl16, yl20, yl21, yl22, yl23, yl24, yl32, yl40, yl48, yl57, yl59, yl63, yl64, yl97, yl99, yl122, yl255, yl256, yl400, yl1000, yl2000, yl2048, yc0_eq, yc0_eq2, yc0_le, yc0_ge, yc0_lt, yc0_gt, yc0_ad, yc0_da, yc0_sb, yc0_ml, yc0_lm, yc1_eq, yc1_eq2, yc1_le, yc1_ge, yc1_lt, yc1_gt, yc1_ad, yc1_da, yc1_sb, yc1_ml, yc1_lm, yc2_eq, yc2_eq2, yc2_le, yc2_ge, yc2_lt, yc2_gt, yc2_ad, yc2_da, yc2_sb, yc2_ml, yc2_lm, yc31_ge, ymodn, yI_1sl, yc2_dv, yn1_eq, yn1_lt, xgd_t, xlt_e, Option.bind_some, nI_add, pk_mul, pk_sub, pk_div, pk_rem, yI_and, yI_or, yI_xor, yI_nd, yI_nd2, yI_31, yI_shl, nI_leI, nI_ltI, nI_eq, nI_clamp, xinb_t, yP_z, yP_if, h0.1, if_neg, s_has, yif_t hb, h0.2.1 p (by omega), if_neg (fun e => hc (e0.mp e))]
        exact e1 hz
    · obtain ⟨m', e1, e2, e3, e4⟩ := ih (p + 1) (by omega) m h0 h1 (by rw [ysm_s, yif_f (fun e => hb e.1), Nat.add_zero]; exact h2)
      refine ⟨m', fun {z} hz => ?_, e2, e3, e4⟩
      apply bX12_straights_144_28_i
      simp (disch := omega) only [yl3, yl4, yl5, yl6, yl7, yl8, yl9, yl10, yl13, yl16, yl20, yl21, yl22, yl23, yl24, yl32, yl40, yl48, yl57, yl59, yl63, yl64, yl97, yl99, yl122, yl255, yl256, yl400, yl1000, yl2000, yl2048, yc0_eq, yc0_eq2, yc0_le, yc0_ge, yc0_lt, yc0_gt, yc0_ad, yc0_da, yc0_sb, yc0_ml, yc0_lm, yc1_eq, yc1_eq2, yc1_le, yc1_ge, yc1_lt, yc1_gt, yc1_ad, yc1_da, yc1_sb, yc1_ml, yc1_lm, yc2_eq, yc2_eq2, yc2_le, yc2_ge, yc2_lt, yc2_gt, yc2_ad, yc2_da, yc2_sb, yc2_ml, yc2_lm, yc31_ge, ymodn, yI_1sl, yc2_dv, yn1_eq, yn1_lt, xgd_t, xlt_e, Option.bind_some, nI_add, pk_mul, pk_sub, pk_div, pk_rem, yI_and, yI_or, yI_xor, yI_nd, yI_nd2, yI_31, yI_shl, nI_leI, nI_ltI, nI_eq, nI_clamp, xinb_t, yP_z, yP_if, h0.1, if_neg, s_has, yif_f hb]
      exact e1 hz
theorem s_mst_9 {n : Nat} {T : yG} (hT : yPo n T) (hn : n ≤ 8) : ∀ (d S : Nat), S + d = 2 ^ n → 0 < S → ∀ (m : xmm), yML n T m → (∀ S', S' < S → m.1 174 S' = nI (yF n T S')) → ∃ m', bX12_straights_144_9 (nI S) m = some (nI (yW n T 0), m') ∧ yfr [174] m m' := by
  have h8 := y2p8 hn
  intro d
  induction d with
  | zero =>
    intro S hS h0 m h h1
    have e : S = 2 ^ n := by omega
    subst e
    refine ⟨m, ?_, yfr_r⟩
    apply bX12_straights_144_9_i
    have := h1 (2 ^ n - 1) (by omega)
    rw [yFW hT] at this
    simp (disch := omega) only [yl3, yl4, yl5, yl6, yl7, yl8, yl9, yl10, yl13, yl16, yl20, yl21, yl22, yl23, yl24, yl32, yl40, yl48, yl57, yl59, yl63, yl64, yl97, yl99, yl122, yl255, yl256, yl400, yl1000, yl2000, yl2048, yc0_eq, yc0_eq2, yc0_le, yc0_ge, yc0_lt, yc0_gt, yc0_ad, yc0_da, yc0_sb, yc0_ml, yc0_lm, yc1_eq, yc1_eq2, yc1_le, yc1_ge, yc1_lt, yc1_gt, yc1_ad, yc1_da, yc1_sb, yc1_ml, yc1_lm, yc2_eq, yc2_eq2, yc2_le, yc2_ge, yc2_lt, yc2_gt, yc2_ad, yc2_da, yc2_sb, yc2_ml, yc2_lm, yc31_ge, ymodn, yI_1sl, yc2_dv, yn1_eq, yn1_lt, xgd_t, xlt_e, Option.bind_some, nI_add, pk_mul, pk_sub, pk_div, pk_rem, yI_and, yI_or, yI_xor, yI_nd, yI_nd2, yI_31, yI_shl, nI_leI, nI_ltI, nI_eq, nI_clamp, xinb_t, yP_z, yP_if, h.1, if_pos, this]
  | succ d ih =>
    intro S hS h0 m h h1
    obtain ⟨m1, a1, a2, a3, a4⟩ := s_mst_28 hT hn (S := S) (by omega) n 0 (by omega) (xwi m 174 S 0) (yML_r h (yfr_w yfr_r (List.mem_singleton.mpr rfl)) (by decide) (by decide) (by decide)) (fun S' q => by rw [xwi_i (by omega)]; exact h1 S' q) (by rw [xwi_e]; rfl)
    have fr1 : yfr [174] m m1 := yfr_t (yfr_w yfr_r (by decide)) a4
    obtain ⟨m', e1, e2⟩ := ih (S + 1) (by omega) (by omega) m1 (yML_r h fr1 (by decide) (by decide) (by decide)) (fun S' q => by
      by_cases e : S' = S
      · subst e; rw [a2, yF_s (by omega) (by omega)]
      · rw [a3 S' e, xwi_i e]; exact h1 S' (by omega))
    refine ⟨m', ?_, yfr_t fr1 e2⟩
    apply bX12_straights_144_9_i
    simp (disch := omega) only [yl3, yl4, yl5, yl6, yl7, yl8, yl9, yl10, yl13, yl16, yl20, yl21, yl22, yl23, yl24, yl32, yl40, yl48, yl57, yl59, yl63, yl64, yl97, yl99, yl122, yl255, yl256, yl400, yl1000, yl2000, yl2048, yc0_eq, yc0_eq2, yc0_le, yc0_ge, yc0_lt, yc0_gt, yc0_ad, yc0_da, yc0_sb, yc0_ml, yc0_lm, yc1_eq, yc1_eq2, yc1_le, yc1_ge, yc1_lt, yc1_gt, yc1_ad, yc1_da, yc1_sb, yc1_ml, yc1_lm, yc2_eq, yc2_eq2, yc2_le, yc2_ge, yc2_lt, yc2_gt, yc2_ad, yc2_da, yc2_sb, yc2_ml, yc2_lm, yc31_ge, ymodn, yI_1sl, yc2_dv, yn1_eq, yn1_lt, xgd_t, xlt_e, Option.bind_some, nI_add, pk_mul, pk_sub, pk_div, pk_rem, yI_and, yI_or, yI_xor, yI_nd, yI_nd2, yI_31, yI_shl, nI_leI, nI_ltI, nI_eq, nI_clamp, xinb_t, yP_z, yP_if, h.1, if_neg]
    exact a1 e1
theorem s_mst {n : Nat} {T : yG} (hT : yPo n T) (hn : n ≤ 8) {m : xmm} (h : yML n T m) : ∃ m', fX12_straights_144 m = some (nI (yW n T 0), m') ∧ yfr [174] m m' := by
  have h8 := y2p8 hn
  have h1 := y2p1 n
  have fr : yfr [174] m (xwi m 174 0 1) := yfr_w yfr_r (by decide)
  obtain ⟨m', e1, e2⟩ := s_mst_9 hT hn (2 ^ n - 1) 1 (by omega) (by omega) (xwi m 174 0 1) (yML_r h fr (by decide) (by decide) (by decide)) (fun S' q => by
    have : S' = 0 := by omega
    subst this
    rw [xwi_e]
    unfold yF
    rw [ysz_0]
    rfl)
  refine ⟨m', ?_, yfr_t fr e2⟩
  apply fX12_straights_144_i
  exact e1
/-! ways from above -/
theorem s_mwb_48 {n : Nat} {T : yG} (hT : yPo n T) (hn : n ≤ 8) {G S : Nat} (hS : S < 2 ^ n) (hG : ysb G S) (c : Nat) : ∀ (d p : Nat), p + d = n → ∀ (m : xmm), yML n T m → (∀ S', S < S' → S' < 2 ^ n → ysb G S' → m.1 175 S' = nI (yW n T S')) → m.1 175 S = nI (ysm (fun p => yif (ynx T S p) (yW n T (S ||| 2 ^ p)) 0) p + c) → ∃ m', (∀ {z : Int32 × xmm}, bX12_waysBehind_144_9 (nI G) (nI S + (-1 : Int32)) m' = some z → bX12_waysBehind_144_48 (nI G) (nI S) (nI p) m = some z) ∧ m'.1 175 S = nI (ysm (fun p => yif (ynx T S p) (yW n T (S ||| 2 ^ p)) 0) n + c) ∧ (∀ i, i ≠ S → m'.1 175 i = m.1 175 i) ∧ yfr [175] m m' := by
  have h8 := y2p8 hn
  intro d
  induction d with
  | zero =>
    intro p hp m h0 h1 h2
    have e : p = n := by omega
    subst e
    refine ⟨m, fun {z} hz => ?_, h2, fun _ _ => rfl, yfr_r⟩
    apply bX12_waysBehind_144_48_i
    simp (disch := omega) only [yl3, yl4, yl5, yl6, yl7, yl8, yl9, yl10, yl13, yl16, yl20, yl21, yl22, yl23, yl24, yl32, yl40, yl48, yl57, yl59, yl63, yl64, yl97, yl99, yl122, yl255, yl256, yl400, yl1000, yl2000, yl2048, yc0_eq, yc0_eq2, yc0_le, yc0_ge, yc0_lt, yc0_gt, yc0_ad, yc0_da, yc0_sb, yc0_ml, yc0_lm, yc1_eq, yc1_eq2, yc1_le, yc1_ge, yc1_lt, yc1_gt, yc1_ad, yc1_da, yc1_sb, yc1_ml, yc1_lm, yc2_eq, yc2_eq2, yc2_le, yc2_ge, yc2_lt, yc2_gt, yc2_ad, yc2_da, yc2_sb, yc2_ml, yc2_lm, yc31_ge, ymodn, yI_1sl, yc2_dv, yn1_eq, yn1_lt, xgd_t, xlt_e, Option.bind_some, nI_add, pk_mul, pk_sub, pk_div, pk_rem, yI_and, yI_or, yI_xor, yI_nd, yI_nd2, yI_31, yI_shl, nI_leI, nI_ltI, nI_eq, nI_clamp, xinb_t, yP_z, yP_if, h0.1, if_pos]
    exact hz
  | succ d ih =>
    intro p hp m h0 h1 h2
    have b1 := yci_lt T p
    have b3 := ynd_le (yci T p) S 8 b1
    have e0 : ynd (yci T p) S = 0 ↔ ∀ q, T q p → yb S q := by
      rw [ynd0]
      exact ⟨fun h q h1 => h q ((yci_b hT hn).mpr h1), fun h q h1 => h q ((yci_b hT hn).mp h1)⟩
    have skip : ¬ ynx T S p → ∃ m', (∀ {z : Int32 × xmm}, bX12_waysBehind_144_9 (nI G) (nI S + (-1 : Int32)) m' = some z → bX12_waysBehind_144_48 (nI G) (nI S) (nI (p + 1)) m = some z) ∧ m'.1 175 S = nI (ysm (fun p => yif (ynx T S p) (yW n T (S ||| 2 ^ p)) 0) n + c) ∧ (∀ i, i ≠ S → m'.1 175 i = m.1 175 i) ∧ yfr [175] m m' := fun hx => ih (p + 1) (by omega) m h0 h1 (by rw [ysm_s, yif_f hx, Nat.add_zero]; exact h2)
    by_cases hb : yb S p
    · obtain ⟨m', e1, e2, e3, e4⟩ := skip (fun e => e.1 hb)
      refine ⟨m', fun {z} hz => ?_, e2, e3, e4⟩
      apply bX12_waysBehind_144_48_i
      simp (disch := omega) only [yl3, yl4, yl5, yl6, yl7, yl8, yl9, yl10, yl13, yl16, yl20, yl21, yl22, yl23, yl24, yl32, yl40, yl48, yl57, yl59, yl63, yl64, yl97, yl99, yl122, yl255, yl256, yl400, yl1000, yl2000, yl2048, yc0_eq, yc0_eq2, yc0_le, yc0_ge, yc0_lt, yc0_gt, yc0_ad, yc0_da, yc0_sb, yc0_ml, yc0_lm, yc1_eq, yc1_eq2, yc1_le, yc1_ge, yc1_lt, yc1_gt, yc1_ad, yc1_da, yc1_sb, yc1_ml, yc1_lm, yc2_eq, yc2_eq2, yc2_le, yc2_ge, yc2_lt, yc2_gt, yc2_ad, yc2_da, yc2_sb, yc2_ml, yc2_lm, yc31_ge, ymodn, yI_1sl, yc2_dv, yn1_eq, yn1_lt, xgd_t, xlt_e, Option.bind_some, nI_add, pk_mul, pk_sub, pk_div, pk_rem, yI_and, yI_or, yI_xor, yI_nd, yI_nd2, yI_31, yI_shl, nI_leI, nI_ltI, nI_eq, nI_clamp, xinb_t, yP_z, yP_if, h0.1, if_neg, s_has, yif_t hb]
      exact e1 hz
    · by_cases hcc : ∀ q, T q p → yb S q
      · have hlt := yor2_lt hS (by omega : p < n)
        have hgt := yor2_gt hb
        have hx : ynx T S p := ⟨hb, hcc⟩
        have hG2 : ysb G (S ||| 2 ^ p) := fun a ha => yb_or.mpr (Or.inl (hG a ha))
        obtain ⟨m', e1, e2, e3, e4⟩ := ih (p + 1) (by omega) (xwi m 175 S (nI (ysm (fun p => yif (ynx T S p) (yW n T (S ||| 2 ^ p)) 0) p + c + yW n T (S ||| 2 ^ p)))) (yML_r h0 (yfr_w yfr_r (List.mem_singleton.mpr rfl)) (by decide) (by decide) (by decide)) (fun S' q1 q2 q3 => by rw [xwi_i (by omega)]; exact h1 S' q1 q2 q3) (by rw [xwi_e, ysm_s, yif_t hx]; congr 1; omega)
        refine ⟨m', fun {z} hz => ?_, e2, fun i hi => by rw [e3 i hi, xwi_i hi], yfr_t (yfr_w yfr_r (by decide)) e4⟩
        apply bX12_waysBehind_144_48_i
        simp (disch := omega) only [yl3, yl4, yl5, yl6, yl7, yl8, yl9, yl10, yl13, yl16, yl20, yl21, yl22, yl23, yl24, yl32, yl40, yl48, yl57, yl59, yl63, yl64, yl97, yl99, yl122, yl255, yl256, yl400, yl1000, yl2000, yl2048, yc0_eq, yc0_eq2, yc0_le, yc0_ge, yc0_lt, yc0_gt, yc0_ad, yc0_da, yc0_sb, yc0_ml, yc0_lm, yc1_eq, yc1_eq2, yc1_le, yc1_ge, yc1_lt, yc1_gt, yc1_ad, yc1_da, yc1_sb, yc1_ml, yc1_lm, yc2_eq, yc2_eq2, yc2_le, yc2_ge, yc2_lt, yc2_gt, yc2_ad, yc2_da, yc2_sb, yc2_ml, yc2_lm, yc31_ge, ymodn, yI_1sl, yc2_dv, yn1_eq, yn1_lt, xgd_t, xlt_e, Option.bind_some, nI_add, pk_mul, pk_sub, pk_div, pk_rem, yI_and, yI_or, yI_xor, yI_nd, yI_nd2, yI_31, yI_shl, nI_leI, nI_ltI, nI_eq, nI_clamp, xinb_t, yP_z, yP_if, h0.1, if_neg, s_has, yif_f hb, h0.2.2 p (by omega), if_pos (e0.mpr hcc), h2, h1 _ hgt hlt hG2]
        exact e1 hz
      · obtain ⟨m', e1, e2, e3, e4⟩ := skip (fun e => hcc e.2)
        refine ⟨m', fun {z} hz => ?_, e2, e3, e4⟩
        apply bX12_waysBehind_144_48_i
        simp (disch := omega) only [yl3, yl4, yl5, yl6, yl7, yl8, yl9, yl10, yl13, yl16, yl20, yl21, yl22, yl23, yl24, yl32, yl40, yl48, yl57, yl59, yl63, yl64, yl97, yl99, yl122, yl255, yl256, yl400, yl1000, yl2000, yl2048, yc0_eq, yc0_eq2, yc0_le, yc0_ge, yc0_lt, yc0_gt, yc0_ad, yc0_da, yc0_sb, yc0_ml, yc0_lm, yc1_eq, yc1_eq2, yc1_le, yc1_ge, yc1_lt, yc1_gt, yc1_ad, yc1_da, yc1_sb, yc1_ml, yc1_lm, yc2_eq, yc2_eq2, yc2_le, yc2_ge, yc2_lt, yc2_gt, yc2_ad, yc2_da, yc2_sb, yc2_ml, yc2_lm, yc31_ge, ymodn, yI_1sl, yc2_dv, yn1_eq, yn1_lt, xgd_t, xlt_e, Option.bind_some, nI_add, pk_mul, pk_sub, pk_div, pk_rem, yI_and, yI_or, yI_xor, yI_nd, yI_nd2, yI_31, yI_shl, nI_leI, nI_ltI, nI_eq, nI_clamp, xinb_t, yP_z, yP_if, h0.1, if_neg, s_has, yif_f hb, h0.2.2 p (by omega), if_neg (fun e => hcc (e0.mp e))]
        exact e1 hz
theorem yW_tot {n : Nat} {T : yG} {S : Nat} (hS : S < 2 ^ n) : ysm (fun p => yif (ynx T S p) (yW n T (S ||| 2 ^ p)) 0) n + (if S = 2 ^ n - 1 then 1 else 0) = yW n T S := by
  by_cases e : S = 2 ^ n - 1
  · subst e
    rw [if_pos rfl, yW_all, ysm_0]
    intro p hp
    exact yif_f (fun h => h.1 (yall_b.mpr hp))
  · rw [if_neg e, yW_s hS e, Nat.add_zero]
theorem s_mwb_9 {n : Nat} {T : yG} (hT : yPo n T) (hn : n ≤ 8) {G : Nat} (hG : G < 2 ^ n) : ∀ (k : Nat) (m : xmm), k ≤ 2 ^ n → yML n T m → (∀ S', k ≤ S' → S' < 2 ^ n → ysb G S' → m.1 175 S' = nI (yW n T S')) → ∃ m', bX12_waysBehind_144_9 (nI G) (nI k - 1) m = some (nI (yW n T G), m') ∧ yfr [175] m m' := by
  have h8 := y2p8 hn
  intro k
  induction k with
  | zero =>
    intro m hk h0 h1
    refine ⟨m, ?_, yfr_r⟩
    apply bX12_waysBehind_144_9_i
    rw [if_pos (show nI 0 - 1 < 0 by decide)]
    simp (disch := omega) only [yl3, yl4, yl5, yl6, yl7, yl8, yl9, yl10, yl13, yl16, yl20, yl21, yl22, yl23, yl24, yl32, yl40, yl48, yl57, yl59, yl63, yl64, yl97, yl99, yl122, yl255, yl256, yl400, yl1000, yl2000, yl2048, yc0_eq, yc0_eq2, yc0_le, yc0_ge, yc0_lt, yc0_gt, yc0_ad, yc0_da, yc0_sb, yc0_ml, yc0_lm, yc1_eq, yc1_eq2, yc1_le, yc1_ge, yc1_lt, yc1_gt, yc1_ad, yc1_da, yc1_sb, yc1_ml, yc1_lm, yc2_eq, yc2_eq2, yc2_le, yc2_ge, yc2_lt, yc2_gt, yc2_ad, yc2_da, yc2_sb, yc2_ml, yc2_lm, yc31_ge, ymodn, yI_1sl, yc2_dv, yn1_eq, yn1_lt, xgd_t, xlt_e, Option.bind_some, nI_add, pk_mul, pk_sub, pk_div, pk_rem, yI_and, yI_or, yI_xor, yI_nd, yI_nd2, yI_31, yI_shl, nI_leI, nI_ltI, nI_eq, nI_clamp, xinb_t, yP_z, yP_if, h1 G (Nat.zero_le _) hG (fun a h => h)]
  | succ k ih =>
    intro m hk h0 h1
    rw [nI_pred]
    have em : nI k + (-1 : Int32) = nI k - 1 := by rw [Int32.sub_eq_add_neg]
    have esb : k &&& G = G ↔ ysb G k := by
      constructor
      · intro e a ha
        have : yb (k &&& G) a := by rw [e]; exact ha
        exact (yb_an.mp this).1
      · intro h
        apply ytb_ext
        intro i
        have := yb_an (A := k) (B := G) (a := i)
        exact ⟨fun e => (this.mp e).2, fun e => this.mpr ⟨h i e, e⟩⟩
    have b3 := yand_lt k G (n := 8) (by omega)
    by_cases hs : ysb G k
    · have go : ∀ (v : Int32), v = nI (if k = 2 ^ n - 1 then 1 else 0) → ∃ m', bX12_waysBehind_144_48 (nI G) (nI k) (nI 0) (xwi m 175 k v) = some (nI (yW n T G), m') ∧ yfr [175] m m' := by
        intro v hv
        obtain ⟨m1, a1, a2, a3, a4⟩ := s_mwb_48 hT hn (G := G) (S := k) (by omega) hs (if k = 2 ^ n - 1 then 1 else 0) n 0 (by omega) (xwi m 175 k v) (yML_r h0 (yfr_w yfr_r (List.mem_singleton.mpr rfl)) (by decide) (by decide) (by decide)) (fun S' q1 q2 q3 => by rw [xwi_i (by omega)]; exact h1 S' (by omega) q2 q3) (by rw [xwi_e, hv]; congr 1; show _ = 0 + _; omega)
        have fr1 : yfr [175] m m1 := yfr_t (yfr_w yfr_r (by decide)) a4
        obtain ⟨m', e1, e2⟩ := ih m1 (by omega) (yML_r h0 fr1 (by decide) (by decide) (by decide)) (fun S' q1 q2 q3 => by
          by_cases e : S' = k
          · subst e; rw [a2, yW_tot q2]
          · rw [a3 S' e, xwi_i e]; exact h1 S' (by omega) q2 q3)
        refine ⟨m', ?_, yfr_t fr1 e2⟩
        apply a1
        rw [em]
        exact e1
      by_cases hk1 : k = 2 ^ n - 1
      · obtain ⟨m', e1, e2⟩ := go 1 (by rw [if_pos hk1]; rfl)
        refine ⟨m', ?_, e2⟩
        apply bX12_waysBehind_144_9_i
        simp (disch := omega) only [yl3, yl4, yl5, yl6, yl7, yl8, yl9, yl10, yl13, yl16, yl20, yl21, yl22, yl23, yl24, yl32, yl40, yl48, yl57, yl59, yl63, yl64, yl97, yl99, yl122, yl255, yl256, yl400, yl1000, yl2000, yl2048, yc0_eq, yc0_eq2, yc0_le, yc0_ge, yc0_lt, yc0_gt, yc0_ad, yc0_da, yc0_sb, yc0_ml, yc0_lm, yc1_eq, yc1_eq2, yc1_le, yc1_ge, yc1_lt, yc1_gt, yc1_ad, yc1_da, yc1_sb, yc1_ml, yc1_lm, yc2_eq, yc2_eq2, yc2_le, yc2_ge, yc2_lt, yc2_gt, yc2_ad, yc2_da, yc2_sb, yc2_ml, yc2_lm, yc31_ge, ymodn, yI_1sl, yc2_dv, yn1_eq, yn1_lt, xgd_t, xlt_e, Option.bind_some, nI_add, pk_mul, pk_sub, pk_div, pk_rem, yI_and, yI_or, yI_xor, yI_nd, yI_nd2, yI_31, yI_shl, nI_leI, nI_ltI, nI_eq, nI_clamp, xinb_t, yP_z, yP_if, if_neg, if_pos (esb.mpr hs), h0.1, if_pos]
        exact e1
      · obtain ⟨m', e1, e2⟩ := go 0 (by rw [if_neg hk1]; rfl)
        refine ⟨m', ?_, e2⟩
        apply bX12_waysBehind_144_9_i
        simp (disch := omega) only [yl3, yl4, yl5, yl6, yl7, yl8, yl9, yl10, yl13, yl16, yl20, yl21, yl22, yl23, yl24, yl32, yl40, yl48, yl57, yl59, yl63, yl64, yl97, yl99, yl122, yl255, yl256, yl400, yl1000, yl2000, yl2048, yc0_eq, yc0_eq2, yc0_le, yc0_ge, yc0_lt, yc0_gt, yc0_ad, yc0_da, yc0_sb, yc0_ml, yc0_lm, yc1_eq, yc1_eq2, yc1_le, yc1_ge, yc1_lt, yc1_gt, yc1_ad, yc1_da, yc1_sb, yc1_ml, yc1_lm, yc2_eq, yc2_eq2, yc2_le, yc2_ge, yc2_lt, yc2_gt, yc2_ad, yc2_da, yc2_sb, yc2_ml, yc2_lm, yc31_ge, ymodn, yI_1sl, yc2_dv, yn1_eq, yn1_lt, xgd_t, xlt_e, Option.bind_some, nI_add, pk_mul, pk_sub, pk_div, pk_rem, yI_and, yI_or, yI_xor, yI_nd, yI_nd2, yI_31, yI_shl, nI_leI, nI_ltI, nI_eq, nI_clamp, xinb_t, yP_z, yP_if, if_neg, if_pos (esb.mpr hs), h0.1]
        exact e1
    · obtain ⟨m', e1, e2⟩ := ih m (by omega) h0 (fun S' q1 q2 q3 => by
        by_cases e : S' = k
        · subst e; exact absurd q3 hs
        · exact h1 S' (by omega) q2 q3)
      refine ⟨m', ?_, e2⟩
      apply bX12_waysBehind_144_9_i
      simp (disch := omega) only [yl3, yl4, yl5, yl6, yl7, yl8, yl9, yl10, yl13, yl16, yl20, yl21, yl22, yl23, yl24, yl32, yl40, yl48, yl57, yl59, yl63, yl64, yl97, yl99, yl122, yl255, yl256, yl400, yl1000, yl2000, yl2048, yc0_eq, yc0_eq2, yc0_le, yc0_ge, yc0_lt, yc0_gt, yc0_ad, yc0_da, yc0_sb, yc0_ml, yc0_lm, yc1_eq, yc1_eq2, yc1_le, yc1_ge, yc1_lt, yc1_gt, yc1_ad, yc1_da, yc1_sb, yc1_ml, yc1_lm, yc2_eq, yc2_eq2, yc2_le, yc2_ge, yc2_lt, yc2_gt, yc2_ad, yc2_da, yc2_sb, yc2_ml, yc2_lm, yc31_ge, ymodn, yI_1sl, yc2_dv, yn1_eq, yn1_lt, xgd_t, xlt_e, Option.bind_some, nI_add, pk_mul, pk_sub, pk_div, pk_rem, yI_and, yI_or, yI_xor, yI_nd, yI_nd2, yI_31, yI_shl, nI_leI, nI_ltI, nI_eq, nI_clamp, xinb_t, yP_z, yP_if, if_neg, if_neg (fun e => hs (esb.mp e))]
      rw [em]
      exact e1
theorem s_mwb {n : Nat} {T : yG} (hT : yPo n T) (hn : n ≤ 8) {G : Nat} (hG : G < 2 ^ n) {m : xmm} (h : yML n T m) : ∃ m', fX12_waysBehind_144 (nI G) m = some (nI (yW n T G), m') ∧ yfr [175] m m' := by
  have h8 := y2p8 hn
  obtain ⟨m', e1, e2⟩ := s_mwb_9 hT hn hG (2 ^ n) m (Nat.le_refl _) h (fun S' q1 q2 => absurd q1 (by omega))
  refine ⟨m', ?_, e2⟩
  apply fX12_waysBehind_144_i
  simp (disch := omega) only [h.1, yI_31, yI_1sl]
  exact e1
