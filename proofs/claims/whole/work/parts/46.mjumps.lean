/-! the model's fewest JUMPS -/
theorem s_mj_35 {n : Nat} {R : Nat → Nat} {T : yG} (hT : yPo n T) (hn : n ≤ 8) (hTR : ∀ q p, T q p → yad R p q) (hRT : ∀ q p, yad R p q → T q p ∨ T p q) (hR : ∀ p, p < 8 → R p < 256) {m : xmm} (h : m.1 144 17 = nI n) (h2 : yrw 152 R m) {S p : Nat} (hS : S < 2 ^ n) (hp : p < n) (hpS : ¬ yb S p) (hc : ∀ q, q < n → yb S q → m.1 176 (8 * S + q) = nI (min (yJ n T S q) 99)) : ∀ (d q : Nat), q + d = n → bX12_jumpsTo_144_35 (nI p) (nI S) (nI (min (ymn (fun w => yjc T (yJ n T S w) w p) q) 99)) (nI q) m = some (nI (min (ymn (fun w => yjc T (yJ n T S w) w p) n) 99), m) := by
  have h8 := y2p8 hn
  intro d
  induction d with
  | zero =>
    intro q hq
    have e : q = n := by omega
    subst e
    apply bX12_jumpsTo_144_35_i
    simp (disch := omega) only [yl3, yl4, yl5, yl6, yl7, yl8, yl9, yl10, yl13, yl16, yl20, yl21, yl22, yl23, yl24, yl32, yl40, yl48, yl57, yl59, yl63, yl64, yl97, yl99, yl122, yl255, yl256, yl400, yl1000, yl2000, yl2048, yc0_eq, yc0_eq2, yc0_le, yc0_ge, yc0_lt, yc0_gt, yc0_ad, yc0_da, yc0_sb, yc0_ml, yc0_lm, yc1_eq, yc1_eq2, yc1_le, yc1_ge, yc1_lt, yc1_gt, yc1_ad, yc1_da, yc1_sb, yc1_ml, yc1_lm, yc2_eq, yc2_eq2, yc2_le, yc2_ge, yc2_lt, yc2_gt, yc2_ad, yc2_da, yc2_sb, yc2_ml, yc2_lm, yc31_ge, ymodn, yI_1sl, yc2_dv, yn1_eq, yn1_lt, xgd_t, xlt_e, Option.bind_some, nI_add, pk_mul, pk_sub, pk_div, pk_rem, yI_and, yI_or, yI_xor, yI_nd, yI_nd2, yI_31, yI_shl, nI_leI, nI_ltI, nI_eq, nI_clamp, xinb_t, yP_z, yP_if, h, if_pos]
  | succ d ih =>
    intro q hq
    have e := ih (q + 1) (by omega)
    rw [ymn_s] at e
    have b1 := ymn_le (fun w => yjc T (yJ n T S w) w p) q
    have b2 := yJ_le hn T S q
    have rp := hR p (by omega)
    by_cases hb : yb S q
    · have hcq := hc q (by omega) hb
      have last : ∀ c : Nat, c ≤ 1 → (yJ n T S q < 1000 → c = yif (T q p) 0 1) → bX12_jumpsTo_144_87 (nI p) (nI S) (nI (min (ymn (fun w => yjc T (yJ n T S w) w p) q) 99)) (nI q) (nI (min (yJ n T S q) 99)) (nI c) m = some (nI (min (ymn (fun w => yjc T (yJ n T S w) w p) n) 99), m) := by
        intro c hc1 hcc
        have eC : min (min (ymn (fun w => yjc T (yJ n T S w) w p) q) (yjc T (yJ n T S q) q p)) 99 = if min (ymn (fun w => yjc T (yJ n T S w) w p) q) 99 ≤ min (yJ n T S q) 99 + c then min (ymn (fun w => yjc T (yJ n T S w) w p) q) 99 else min (yJ n T S q) 99 + c := by
          by_cases hun : yJ n T S q < 1000
          · have h7 := b2.2 hun
            have ey : yjc T (yJ n T S q) q p = yJ n T S q + c := by unfold yjc; rw [if_pos hun, ← hcc hun]
            rw [ey]
            by_cases e : min (ymn (fun w => yjc T (yJ n T S w) w p) q) 99 ≤ min (yJ n T S q) 99 + c
            · rw [if_pos e]; omega
            · rw [if_neg e]; omega
          · have ey : yjc T (yJ n T S q) q p = 1000 := if_neg hun
            rw [ey]
            by_cases e : min (ymn (fun w => yjc T (yJ n T S w) w p) q) 99 ≤ min (yJ n T S q) 99 + c
            · rw [if_pos e]; omega
            · rw [if_neg e]; omega
        rw [eC] at e
        apply bX12_jumpsTo_144_87_i
        by_cases e2 : min (ymn (fun w => yjc T (yJ n T S w) w p) q) 99 ≤ min (yJ n T S q) 99 + c
        · rw [if_pos e2] at e
          simp (disch := omega) only [yl3, yl4, yl5, yl6, yl7, yl8, yl9, yl10, yl13, yl16, yl20, yl21, yl22, yl23, yl24, yl32, yl40, yl48, yl57, yl59, yl63, yl64, yl97, yl99, yl122, yl255, yl256, yl400, yl1000, yl2000, yl2048, yc0_eq, yc0_eq2, yc0_le, yc0_ge, yc0_lt, yc0_gt, yc0_ad, yc0_da, yc0_sb, yc0_ml, yc0_lm, yc1_eq, yc1_eq2, yc1_le, yc1_ge, yc1_lt, yc1_gt, yc1_ad, yc1_da, yc1_sb, yc1_ml, yc1_lm, yc2_eq, yc2_eq2, yc2_le, yc2_ge, yc2_lt, yc2_gt, yc2_ad, yc2_da, yc2_sb, yc2_ml, yc2_lm, yc31_ge, ymodn, yI_1sl, yc2_dv, yn1_eq, yn1_lt, xgd_t, xlt_e, Option.bind_some, nI_add, pk_mul, pk_sub, pk_div, pk_rem, yI_and, yI_or, yI_xor, yI_nd, yI_nd2, yI_31, yI_shl, nI_leI, nI_ltI, nI_eq, nI_clamp, xinb_t, yP_z, yP_if, if_pos]
          exact e
        · rw [if_neg e2] at e
          simp (disch := omega) only [yl3, yl4, yl5, yl6, yl7, yl8, yl9, yl10, yl13, yl16, yl20, yl21, yl22, yl23, yl24, yl32, yl40, yl48, yl57, yl59, yl63, yl64, yl97, yl99, yl122, yl255, yl256, yl400, yl1000, yl2000, yl2048, yc0_eq, yc0_eq2, yc0_le, yc0_ge, yc0_lt, yc0_gt, yc0_ad, yc0_da, yc0_sb, yc0_ml, yc0_lm, yc1_eq, yc1_eq2, yc1_le, yc1_ge, yc1_lt, yc1_gt, yc1_ad, yc1_da, yc1_sb, yc1_ml, yc1_lm, yc2_eq, yc2_eq2, yc2_le, yc2_ge, yc2_lt, yc2_gt, yc2_ad, yc2_da, yc2_sb, yc2_ml, yc2_lm, yc31_ge, ymodn, yI_1sl, yc2_dv, yn1_eq, yn1_lt, xgd_t, xlt_e, Option.bind_some, nI_add, pk_mul, pk_sub, pk_div, pk_rem, yI_and, yI_or, yI_xor, yI_nd, yI_nd2, yI_31, yI_shl, nI_leI, nI_ltI, nI_eq, nI_clamp, xinb_t, yP_z, yP_if, if_neg]
          exact e
      have cost : yJ n T S q < 1000 → (yad R p q ↔ T q p) := by
        intro hun
        refine ⟨fun hl => ?_, fun hl => hTR q p hl⟩
        rcases hRT q p hl with h' | h'
        · exact h'
        · exact absurd (yJ_dw hT S hS q hun p q h' hb) hpS
      apply bX12_jumpsTo_144_35_i
      by_cases hl : yad R p q
      · have l0 := last 0 (by omega) (fun hun => by rw [yif_t ((cost hun).mp hl)])
        have hl' : yb (R p) q := hl
        simp (disch := omega) only [yl3, yl4, yl5, yl6, yl7, yl8, yl9, yl10, yl13, yl16, yl20, yl21, yl22, yl23, yl24, yl32, yl40, yl48, yl57, yl59, yl63, yl64, yl97, yl99, yl122, yl255, yl256, yl400, yl1000, yl2000, yl2048, yc0_eq, yc0_eq2, yc0_le, yc0_ge, yc0_lt, yc0_gt, yc0_ad, yc0_da, yc0_sb, yc0_ml, yc0_lm, yc1_eq, yc1_eq2, yc1_le, yc1_ge, yc1_lt, yc1_gt, yc1_ad, yc1_da, yc1_sb, yc1_ml, yc1_lm, yc2_eq, yc2_eq2, yc2_le, yc2_ge, yc2_lt, yc2_gt, yc2_ad, yc2_da, yc2_sb, yc2_ml, yc2_lm, yc31_ge, ymodn, yI_1sl, yc2_dv, yn1_eq, yn1_lt, xgd_t, xlt_e, Option.bind_some, nI_add, pk_mul, pk_sub, pk_div, pk_rem, yI_and, yI_or, yI_xor, yI_nd, yI_nd2, yI_31, yI_shl, nI_leI, nI_ltI, nI_eq, nI_clamp, xinb_t, yP_z, yP_if, h, if_neg, s_has, yif_t hb, h2 p (by omega), yif_t hl', hcq]
        exact l0
      · have l1 := last 1 (by omega) (fun hun => by rw [yif_f (fun e => hl ((cost hun).mpr e))])
        have hl' : ¬ yb (R p) q := hl
        simp (disch := omega) only [yl3, yl4, yl5, yl6, yl7, yl8, yl9, yl10, yl13, yl16, yl20, yl21, yl22, yl23, yl24, yl32, yl40, yl48, yl57, yl59, yl63, yl64, yl97, yl99, yl122, yl255, yl256, yl400, yl1000, yl2000, yl2048, yc0_eq, yc0_eq2, yc0_le, yc0_ge, yc0_lt, yc0_gt, yc0_ad, yc0_da, yc0_sb, yc0_ml, yc0_lm, yc1_eq, yc1_eq2, yc1_le, yc1_ge, yc1_lt, yc1_gt, yc1_ad, yc1_da, yc1_sb, yc1_ml, yc1_lm, yc2_eq, yc2_eq2, yc2_le, yc2_ge, yc2_lt, yc2_gt, yc2_ad, yc2_da, yc2_sb, yc2_ml, yc2_lm, yc31_ge, ymodn, yI_1sl, yc2_dv, yn1_eq, yn1_lt, xgd_t, xlt_e, Option.bind_some, nI_add, pk_mul, pk_sub, pk_div, pk_rem, yI_and, yI_or, yI_xor, yI_nd, yI_nd2, yI_31, yI_shl, nI_leI, nI_ltI, nI_eq, nI_clamp, xinb_t, yP_z, yP_if, h, if_neg, s_has, yif_t hb, h2 p (by omega), yif_f hl', hcq]
        exact l1
    · have e1 : yjc T (yJ n T S q) q p = 1000 := by
        unfold yjc
        rw [if_neg]
        intro hun
        exact hb (yJ_in hS hun).1
      rw [e1, show min (ymn (fun w => yjc T (yJ n T S w) w p) q) 1000 = ymn (fun w => yjc T (yJ n T S w) w p) q by omega] at e
      apply bX12_jumpsTo_144_35_i
      simp (disch := omega) only [yl3, yl4, yl5, yl6, yl7, yl8, yl9, yl10, yl13, yl16, yl20, yl21, yl22, yl23, yl24, yl32, yl40, yl48, yl57, yl59, yl63, yl64, yl97, yl99, yl122, yl255, yl256, yl400, yl1000, yl2000, yl2048, yc0_eq, yc0_eq2, yc0_le, yc0_ge, yc0_lt, yc0_gt, yc0_ad, yc0_da, yc0_sb, yc0_ml, yc0_lm, yc1_eq, yc1_eq2, yc1_le, yc1_ge, yc1_lt, yc1_gt, yc1_ad, yc1_da, yc1_sb, yc1_ml, yc1_lm, yc2_eq, yc2_eq2, yc2_le, yc2_ge, yc2_lt, yc2_gt, yc2_ad, yc2_da, yc2_sb, yc2_ml, yc2_lm, yc31_ge, ymodn, yI_1sl, yc2_dv, yn1_eq, yn1_lt, xgd_t, xlt_e, Option.bind_some, nI_add, pk_mul, pk_sub, pk_div, pk_rem, yI_and, yI_or, yI_xor, yI_nd, yI_nd2, yI_31, yI_shl, nI_leI, nI_ltI, nI_eq, nI_clamp, xinb_t, yP_z, yP_if, h, if_neg, s_has, yif_f hb]
      exact e
theorem s_mjumpsTo {n : Nat} {R : Nat → Nat} {T : yG} (hT : yPo n T) (hn : n ≤ 8) (hTR : ∀ q p, T q p → yad R p q) (hRT : ∀ q p, yad R p q → T q p ∨ T p q) (hR : ∀ p, p < 8 → R p < 256) {m : xmm} (h : yML n T m) (h2 : yrw 152 R m) {S p : Nat} (hS : S < 2 ^ n) (hb : yb S p) (hc : ∀ D, D < S → ∀ q, q < n → yb D q → m.1 176 (8 * D + q) = nI (min (yJ n T D q) 99)) : fX12_jumpsTo_144 (nI S) (nI p) m = some (nI (min (yJ n T S p) 99), m) := by
  have h8 := y2p8 hn
  have hp := ytb_of hS hb
  have b1 := yci_lt T p
  have b3 := ynd_le (yci T p) (ynd S (2 ^ p)) 8 b1
  have hlt : ynd S (2 ^ p) < S := ysb_lt (fun a ha => (yb_nd.mp ha).1) hb (fun e => (yb_nd.mp e).2 (yb_pw.mpr rfl))
  have e0 : ynd (yci T p) (ynd S (2 ^ p)) = 0 ↔ yjok T S p := by
    rw [ynd0]
    exact ⟨fun h => ⟨hb, fun q h1 => h q ((yci_b hT hn).mpr h1)⟩, fun h q h1 => h.2 q ((yci_b hT hn).mp h1)⟩
  apply fX12_jumpsTo_144_i
  rw [yJ_eq hS]
  by_cases hok : yjok T S p
  · rw [yif_t hok]
    by_cases hz : ynd S (2 ^ p) = 0
    · rw [if_pos hz]
      simp (disch := omega) only [yl3, yl4, yl5, yl6, yl7, yl8, yl9, yl10, yl13, yl16, yl20, yl21, yl22, yl23, yl24, yl32, yl40, yl48, yl57, yl59, yl63, yl64, yl97, yl99, yl122, yl255, yl256, yl400, yl1000, yl2000, yl2048, yc0_eq, yc0_eq2, yc0_le, yc0_ge, yc0_lt, yc0_gt, yc0_ad, yc0_da, yc0_sb, yc0_ml, yc0_lm, yc1_eq, yc1_eq2, yc1_le, yc1_ge, yc1_lt, yc1_gt, yc1_ad, yc1_da, yc1_sb, yc1_ml, yc1_lm, yc2_eq, yc2_eq2, yc2_le, yc2_ge, yc2_lt, yc2_gt, yc2_ad, yc2_da, yc2_sb, yc2_ml, yc2_lm, yc31_ge, ymodn, yI_1sl, yc2_dv, yn1_eq, yn1_lt, xgd_t, xlt_e, Option.bind_some, nI_add, pk_mul, pk_sub, pk_div, pk_rem, yI_and, yI_or, yI_xor, yI_nd, yI_nd2, yI_31, yI_shl, nI_leI, nI_ltI, nI_eq, nI_clamp, xinb_t, yP_z, yP_if, h.2.2 p (by omega), yxor2 hb, if_pos (e0.mpr hok), if_pos]
      rfl
    · rw [if_neg hz]
      have i := s_mj_35 hT hn hTR hRT hR h.1 h2 (S := ynd S (2 ^ p)) (p := p) (by omega) hp (fun e => (yb_nd.mp e).2 (yb_pw.mpr rfl)) (fun q hq hbq => hc _ hlt q hq hbq) n 0 (by omega)
      simp (disch := omega) only [yl3, yl4, yl5, yl6, yl7, yl8, yl9, yl10, yl13, yl16, yl20, yl21, yl22, yl23, yl24, yl32, yl40, yl48, yl57, yl59, yl63, yl64, yl97, yl99, yl122, yl255, yl256, yl400, yl1000, yl2000, yl2048, yc0_eq, yc0_eq2, yc0_le, yc0_ge, yc0_lt, yc0_gt, yc0_ad, yc0_da, yc0_sb, yc0_ml, yc0_lm, yc1_eq, yc1_eq2, yc1_le, yc1_ge, yc1_lt, yc1_gt, yc1_ad, yc1_da, yc1_sb, yc1_ml, yc1_lm, yc2_eq, yc2_eq2, yc2_le, yc2_ge, yc2_lt, yc2_gt, yc2_ad, yc2_da, yc2_sb, yc2_ml, yc2_lm, yc31_ge, ymodn, yI_1sl, yc2_dv, yn1_eq, yn1_lt, xgd_t, xlt_e, Option.bind_some, nI_add, pk_mul, pk_sub, pk_div, pk_rem, yI_and, yI_or, yI_xor, yI_nd, yI_nd2, yI_31, yI_shl, nI_leI, nI_ltI, nI_eq, nI_clamp, xinb_t, yP_z, yP_if, h.2.2 p (by omega), yxor2 hb, if_pos (e0.mpr hok), if_neg]
      exact i
  · rw [yif_f hok]
    simp (disch := omega) only [yl3, yl4, yl5, yl6, yl7, yl8, yl9, yl10, yl13, yl16, yl20, yl21, yl22, yl23, yl24, yl32, yl40, yl48, yl57, yl59, yl63, yl64, yl97, yl99, yl122, yl255, yl256, yl400, yl1000, yl2000, yl2048, yc0_eq, yc0_eq2, yc0_le, yc0_ge, yc0_lt, yc0_gt, yc0_ad, yc0_da, yc0_sb, yc0_ml, yc0_lm, yc1_eq, yc1_eq2, yc1_le, yc1_ge, yc1_lt, yc1_gt, yc1_ad, yc1_da, yc1_sb, yc1_ml, yc1_lm, yc2_eq, yc2_eq2, yc2_le, yc2_ge, yc2_lt, yc2_gt, yc2_ad, yc2_da, yc2_sb, yc2_ml, yc2_lm, yc31_ge, ymodn, yI_1sl, yc2_dv, yn1_eq, yn1_lt, xgd_t, xlt_e, Option.bind_some, nI_add, pk_mul, pk_sub, pk_div, pk_rem, yI_and, yI_or, yI_xor, yI_nd, yI_nd2, yI_31, yI_shl, nI_leI, nI_ltI, nI_eq, nI_clamp, xinb_t, yP_z, yP_if, h.2.2 p (by omega), yxor2 hb, if_neg (fun e => hok (e0.mp e))]
    rfl
theorem s_mfj_23 {n : Nat} {R : Nat → Nat} {T : yG} (hT : yPo n T) (hn : n ≤ 8) (hTR : ∀ q p, T q p → yad R p q) (hRT : ∀ q p, yad R p q → T q p ∨ T p q) (hR : ∀ p, p < 8 → R p < 256) {S : Nat} (hS : S < 2 ^ n) : ∀ (d p : Nat), p + d = n → ∀ (m : xmm), yML n T m → yrw 152 R m → (∀ D, D < S → ∀ q, q < n → m.1 176 (8 * D + q) = nI (if yb D q then min (yJ n T D q) 99 else 99) ∨ D = 0) → (∀ q, q < p → m.1 176 (8 * S + q) = nI (if yb S q then min (yJ n T S q) 99 else 99)) → ∃ m', (∀ {z : Int32 × xmm}, bX12_fewestJumps_144_11 (nI (S + 1)) m' = some z → bX12_fewestJumps_144_23 (nI S) (nI p) m = some z) ∧ (∀ q, q < n → m'.1 176 (8 * S + q) = nI (if yb S q then min (yJ n T S q) 99 else 99)) ∧ (∀ i, i < 8 * S → m'.1 176 i = m.1 176 i) ∧ yfr [176] m m' := by
  have h8 := y2p8 hn
  intro d
  induction d with
  | zero =>
    intro p hp m h h2 hc hs
    have e : p = n := by omega
    subst e
    refine ⟨m, fun {z} hz => ?_, hs, fun _ _ => rfl, yfr_r⟩
    apply bX12_fewestJumps_144_23_i
    simp (disch := omega) only [yl3, yl4, yl5, yl6, yl7, yl8, yl9, yl10, yl13, yl16, yl20, yl21, yl22, yl23, yl24, yl32, yl40, yl48, yl57, yl59, yl63, yl64, yl97, yl99, yl122, yl255, yl256, yl400, yl1000, yl2000, yl2048, yc0_eq, yc0_eq2, yc0_le, yc0_ge, yc0_lt, yc0_gt, yc0_ad, yc0_da, yc0_sb, yc0_ml, yc0_lm, yc1_eq, yc1_eq2, yc1_le, yc1_ge, yc1_lt, yc1_gt, yc1_ad, yc1_da, yc1_sb, yc1_ml, yc1_lm, yc2_eq, yc2_eq2, yc2_le, yc2_ge, yc2_lt, yc2_gt, yc2_ad, yc2_da, yc2_sb, yc2_ml, yc2_lm, yc31_ge, ymodn, yI_1sl, yc2_dv, yn1_eq, yn1_lt, xgd_t, xlt_e, Option.bind_some, nI_add, pk_mul, pk_sub, pk_div, pk_rem, yI_and, yI_or, yI_xor, yI_nd, yI_nd2, yI_31, yI_shl, nI_leI, nI_ltI, nI_eq, nI_clamp, xinb_t, yP_z, yP_if, h.1, if_pos]
    exact hz
  | succ d ih =>
    intro p hp m h h2 hc hs
    have fr : ∀ v, yfr [176] m (xwi m 176 (8 * S + p) v) := fun v => yfr_w yfr_r (by decide)
    obtain ⟨m', e1, e2, e3, e4⟩ := ih (p + 1) (by omega) (xwi m 176 (8 * S + p) (nI (if yb S p then min (yJ n T S p) 99 else 99))) (yML_r h (fr _) (by decide) (by decide) (by decide)) (fun q hq => by rw [xwi_k (by decide)]; exact h2 q hq) (fun D hD q hq => by rw [xwi_i (by omega)]; exact hc D hD q hq) (fun q hq => by
      by_cases e : q = p
      · subst e; rw [xwi_e]
      · rw [xwi_i (by omega)]; exact hs q (by omega))
    refine ⟨m', fun {z} hz => ?_, e2, fun i hi => by rw [e3 i hi, xwi_i (by omega)], yfr_t (fr _) e4⟩
    apply bX12_fewestJumps_144_23_i
    by_cases hb : yb S p
    · rw [if_pos hb] at e1
      have jt := s_mjumpsTo hT hn hTR hRT hR h h2 hS hb (fun D hD q hq hbq => by
        rcases hc D hD q hq with e | e
        · rw [if_pos hbq] at e; exact e
        · subst e; exact absurd hbq yb_0)
      have bj : min (yJ n T S p) 99 < 2 ^ 31 := by omega
      simp (disch := omega) only [yl3, yl4, yl5, yl6, yl7, yl8, yl9, yl10, yl13, yl16, yl20, yl21, yl22, yl23, yl24, yl32, yl40, yl48, yl57, yl59, yl63, yl64, yl97, yl99, yl122, yl255, yl256, yl400, yl1000, yl2000, yl2048, yc0_eq, yc0_eq2, yc0_le, yc0_ge, yc0_lt, yc0_gt, yc0_ad, yc0_da, yc0_sb, yc0_ml, yc0_lm, yc1_eq, yc1_eq2, yc1_le, yc1_ge, yc1_lt, yc1_gt, yc1_ad, yc1_da, yc1_sb, yc1_ml, yc1_lm, yc2_eq, yc2_eq2, yc2_le, yc2_ge, yc2_lt, yc2_gt, yc2_ad, yc2_da, yc2_sb, yc2_ml, yc2_lm, yc31_ge, ymodn, yI_1sl, yc2_dv, yn1_eq, yn1_lt, xgd_t, xlt_e, Option.bind_some, nI_add, pk_mul, pk_sub, pk_div, pk_rem, yI_and, yI_or, yI_xor, yI_nd, yI_nd2, yI_31, yI_shl, nI_leI, nI_ltI, nI_eq, nI_clamp, xinb_t, yP_z, yP_if, h.1, if_neg, s_has, yif_t hb, jt]
      exact e1 hz
    · rw [if_neg hb] at e1
      simp (disch := omega) only [yl3, yl4, yl5, yl6, yl7, yl8, yl9, yl10, yl13, yl16, yl20, yl21, yl22, yl23, yl24, yl32, yl40, yl48, yl57, yl59, yl63, yl64, yl97, yl99, yl122, yl255, yl256, yl400, yl1000, yl2000, yl2048, yc0_eq, yc0_eq2, yc0_le, yc0_ge, yc0_lt, yc0_gt, yc0_ad, yc0_da, yc0_sb, yc0_ml, yc0_lm, yc1_eq, yc1_eq2, yc1_le, yc1_ge, yc1_lt, yc1_gt, yc1_ad, yc1_da, yc1_sb, yc1_ml, yc1_lm, yc2_eq, yc2_eq2, yc2_le, yc2_ge, yc2_lt, yc2_gt, yc2_ad, yc2_da, yc2_sb, yc2_ml, yc2_lm, yc31_ge, ymodn, yI_1sl, yc2_dv, yn1_eq, yn1_lt, xgd_t, xlt_e, Option.bind_some, nI_add, pk_mul, pk_sub, pk_div, pk_rem, yI_and, yI_or, yI_xor, yI_nd, yI_nd2, yI_31, yI_shl, nI_leI, nI_ltI, nI_eq, nI_clamp, xinb_t, yP_z, yP_if, h.1, if_neg, s_has, yif_f hb]
      exact e1 hz
theorem s_mfj_78 {n : Nat} {T : yG} (hT : yPo n T) (hn : n ≤ 8) {m : xmm} (h : m.1 144 17 = nI n) (hc : ∀ p, p < n → m.1 176 (8 * (2 ^ n - 1) + p) = nI (min (yJ n T (2 ^ n - 1) p) 99)) : ∀ (d k : Nat), k + d = n → bX12_fewestJumps_144_78 (nI (min (ymn (fun p => yJ n T (2 ^ n - 1) p) k) 99)) (nI k) m = some (nI (min (ymn (fun p => yJ n T (2 ^ n - 1) p) n) 99), m) := by
  have h8 := y2p8 hn
  have h1 := y2p1 n
  intro d
  induction d with
  | zero =>
    intro k hk
    have e : k = n := by omega
    subst e
    apply bX12_fewestJumps_144_78_i
    simp (disch := omega) only [yl3, yl4, yl5, yl6, yl7, yl8, yl9, yl10, yl13, yl16, yl20, yl21, yl22, yl23, yl24, yl32, yl40, yl48, yl57, yl59, yl63, yl64, yl97, yl99, yl122, yl255, yl256, yl400, yl1000, yl2000, yl2048, yc0_eq, yc0_eq2, yc0_le, yc0_ge, yc0_lt, yc0_gt, yc0_ad, yc0_da, yc0_sb, yc0_ml, yc0_lm, yc1_eq, yc1_eq2, yc1_le, yc1_ge, yc1_lt, yc1_gt, yc1_ad, yc1_da, yc1_sb, yc1_ml, yc1_lm, yc2_eq, yc2_eq2, yc2_le, yc2_ge, yc2_lt, yc2_gt, yc2_ad, yc2_da, yc2_sb, yc2_ml, yc2_lm, yc31_ge, ymodn, yI_1sl, yc2_dv, yn1_eq, yn1_lt, xgd_t, xlt_e, Option.bind_some, nI_add, pk_mul, pk_sub, pk_div, pk_rem, yI_and, yI_or, yI_xor, yI_nd, yI_nd2, yI_31, yI_shl, nI_leI, nI_ltI, nI_eq, nI_clamp, xinb_t, yP_z, yP_if, h, if_pos]
  | succ d ih =>
    intro k hk
    have e := ih (k + 1) (by omega)
    rw [ymn_s] at e
    apply bX12_fewestJumps_144_78_i
    by_cases e2 : min (ymn (fun p => yJ n T (2 ^ n - 1) p) k) 99 ≤ min (yJ n T (2 ^ n - 1) k) 99
    · rw [show min (min (ymn (fun p => yJ n T (2 ^ n - 1) p) k) (yJ n T (2 ^ n - 1) k)) 99 = min (ymn (fun p => yJ n T (2 ^ n - 1) p) k) 99 by omega] at e
      simp (disch := omega) only [yl3, yl4, yl5, yl6, yl7, yl8, yl9, yl10, yl13, yl16, yl20, yl21, yl22, yl23, yl24, yl32, yl40, yl48, yl57, yl59, yl63, yl64, yl97, yl99, yl122, yl255, yl256, yl400, yl1000, yl2000, yl2048, yc0_eq, yc0_eq2, yc0_le, yc0_ge, yc0_lt, yc0_gt, yc0_ad, yc0_da, yc0_sb, yc0_ml, yc0_lm, yc1_eq, yc1_eq2, yc1_le, yc1_ge, yc1_lt, yc1_gt, yc1_ad, yc1_da, yc1_sb, yc1_ml, yc1_lm, yc2_eq, yc2_eq2, yc2_le, yc2_ge, yc2_lt, yc2_gt, yc2_ad, yc2_da, yc2_sb, yc2_ml, yc2_lm, yc31_ge, ymodn, yI_1sl, yc2_dv, yn1_eq, yn1_lt, xgd_t, xlt_e, Option.bind_some, nI_add, pk_mul, pk_sub, pk_div, pk_rem, yI_and, yI_or, yI_xor, yI_nd, yI_nd2, yI_31, yI_shl, nI_leI, nI_ltI, nI_eq, nI_clamp, xinb_t, yP_z, yP_if, h, if_neg, hc k (by omega), if_pos]
      exact e
    · rw [show min (min (ymn (fun p => yJ n T (2 ^ n - 1) p) k) (yJ n T (2 ^ n - 1) k)) 99 = min (yJ n T (2 ^ n - 1) k) 99 by omega] at e
      simp (disch := omega) only [yl3, yl4, yl5, yl6, yl7, yl8, yl9, yl10, yl13, yl16, yl20, yl21, yl22, yl23, yl24, yl32, yl40, yl48, yl57, yl59, yl63, yl64, yl97, yl99, yl122, yl255, yl256, yl400, yl1000, yl2000, yl2048, yc0_eq, yc0_eq2, yc0_le, yc0_ge, yc0_lt, yc0_gt, yc0_ad, yc0_da, yc0_sb, yc0_ml, yc0_lm, yc1_eq, yc1_eq2, yc1_le, yc1_ge, yc1_lt, yc1_gt, yc1_ad, yc1_da, yc1_sb, yc1_ml, yc1_lm, yc2_eq, yc2_eq2, yc2_le, yc2_ge, yc2_lt, yc2_gt, yc2_ad, yc2_da, yc2_sb, yc2_ml, yc2_lm, yc31_ge, ymodn, yI_1sl, yc2_dv, yn1_eq, yn1_lt, xgd_t, xlt_e, Option.bind_some, nI_add, pk_mul, pk_sub, pk_div, pk_rem, yI_and, yI_or, yI_xor, yI_nd, yI_nd2, yI_31, yI_shl, nI_leI, nI_ltI, nI_eq, nI_clamp, xinb_t, yP_z, yP_if, h, if_neg, hc k (by omega)]
      exact e
theorem s_mfj_11 {n : Nat} {R : Nat → Nat} {T : yG} (hT : yPo n T) (hn : n ≤ 8) (hn0 : n ≠ 0) (hTR : ∀ q p, T q p → yad R p q) (hRT : ∀ q p, yad R p q → T q p ∨ T p q) (hR : ∀ p, p < 8 → R p < 256) : ∀ (d S : Nat), S + d = 2 ^ n → 0 < S → ∀ (m : xmm), yML n T m → yrw 152 R m → (∀ D, D < S → ∀ q, q < n → m.1 176 (8 * D + q) = nI (if yb D q then min (yJ n T D q) 99 else 99) ∨ D = 0) → ∃ m', bX12_fewestJumps_144_11 (nI S) m = some (nI (yJF n T), m') ∧ yfr [176] m m' := by
  have h8 := y2p8 hn
  have h1 := y2p1 n
  intro d
  induction d with
  | zero =>
    intro S hS h0 m h h2 hc
    have e : S = 2 ^ n := by omega
    subst e
    have h2n : 2 ≤ 2 ^ n := by
      have : 2 ^ 1 ≤ 2 ^ n := Nat.pow_le_pow_right (by decide) (by omega)
      omega
    refine ⟨m, ?_, yfr_r⟩
    have i := s_mfj_78 hT hn h.1 (fun p hp => by
      have hb : yb (2 ^ n - 1) p := yall_b.mpr hp
      rcases hc (2 ^ n - 1) (by omega) p hp with e | e
      · rw [if_pos hb] at e; exact e
      · omega) n 0 (by omega)
    have lt := yJF_lt hT hn hn0
    have eF : yJF n T = ymn (fun p => yJ n T (2 ^ n - 1) p) n := if_neg hn0
    rw [show min (ymn (fun p => yJ n T (2 ^ n - 1) p) n) 99 = yJF n T by rw [eF]; omega] at i
    apply bX12_fewestJumps_144_11_i
    simp (disch := omega) only [yl3, yl4, yl5, yl6, yl7, yl8, yl9, yl10, yl13, yl16, yl20, yl21, yl22, yl23, yl24, yl32, yl40, yl48, yl57, yl59, yl63, yl64, yl97, yl99, yl122, yl255, yl256, yl400, yl1000, yl2000, yl2048, yc0_eq, yc0_eq2, yc0_le, yc0_ge, yc0_lt, yc0_gt, yc0_ad, yc0_da, yc0_sb, yc0_ml, yc0_lm, yc1_eq, yc1_eq2, yc1_le, yc1_ge, yc1_lt, yc1_gt, yc1_ad, yc1_da, yc1_sb, yc1_ml, yc1_lm, yc2_eq, yc2_eq2, yc2_le, yc2_ge, yc2_lt, yc2_gt, yc2_ad, yc2_da, yc2_sb, yc2_ml, yc2_lm, yc31_ge, ymodn, yI_1sl, yc2_dv, yn1_eq, yn1_lt, xgd_t, xlt_e, Option.bind_some, nI_add, pk_mul, pk_sub, pk_div, pk_rem, yI_and, yI_or, yI_xor, yI_nd, yI_nd2, yI_31, yI_shl, nI_leI, nI_ltI, nI_eq, nI_clamp, xinb_t, yP_z, yP_if, h.1, if_pos]
    exact i
  | succ d ih =>
    intro S hS h0 m h h2 hc
    obtain ⟨m1, a1, a2, a3, a4⟩ := s_mfj_23 hT hn hTR hRT hR (S := S) (by omega) n 0 (by omega) m h h2 hc (fun q hq => absurd hq (Nat.not_lt_zero q))
    obtain ⟨m', e1, e2⟩ := ih (S + 1) (by omega) (by omega) m1 (yML_r h a4 (by decide) (by decide) (by decide)) (fun q hq => by rw [yfr_1 a4 152 q (by decide)]; exact h2 q hq) (fun D hD q hq => by
      by_cases e : D = S
      · subst e; exact Or.inl (a2 q hq)
      · rw [a3 _ (by omega)]; exact hc D (by omega) q hq)
    refine ⟨m', ?_, yfr_t a4 e2⟩
    apply bX12_fewestJumps_144_11_i
    simp (disch := omega) only [yl3, yl4, yl5, yl6, yl7, yl8, yl9, yl10, yl13, yl16, yl20, yl21, yl22, yl23, yl24, yl32, yl40, yl48, yl57, yl59, yl63, yl64, yl97, yl99, yl122, yl255, yl256, yl400, yl1000, yl2000, yl2048, yc0_eq, yc0_eq2, yc0_le, yc0_ge, yc0_lt, yc0_gt, yc0_ad, yc0_da, yc0_sb, yc0_ml, yc0_lm, yc1_eq, yc1_eq2, yc1_le, yc1_ge, yc1_lt, yc1_gt, yc1_ad, yc1_da, yc1_sb, yc1_ml, yc1_lm, yc2_eq, yc2_eq2, yc2_le, yc2_ge, yc2_lt, yc2_gt, yc2_ad, yc2_da, yc2_sb, yc2_ml, yc2_lm, yc31_ge, ymodn, yI_1sl, yc2_dv, yn1_eq, yn1_lt, xgd_t, xlt_e, Option.bind_some, nI_add, pk_mul, pk_sub, pk_div, pk_rem, yI_and, yI_or, yI_xor, yI_nd, yI_nd2, yI_31, yI_shl, nI_leI, nI_ltI, nI_eq, nI_clamp, xinb_t, yP_z, yP_if, h.1, if_neg]
    exact a1 e1
theorem s_mfj {n : Nat} {R : Nat → Nat} {T : yG} (hT : yPo n T) (hn : n ≤ 8) (hTR : ∀ q p, T q p → yad R p q) (hRT : ∀ q p, yad R p q → T q p ∨ T p q) (hR : ∀ p, p < 8 → R p < 256) {m : xmm} (h : yML n T m) (h2 : yrw 152 R m) : ∃ m', fX12_fewestJumps_144 m = some (nI (yJF n T), m') ∧ yfr [176] m m' := by
  have h1 := y2p1 n
  by_cases hn0 : n = 0
  · subst hn0
    refine ⟨m, ?_, yfr_r⟩
    apply fX12_fewestJumps_144_i
    have e : yJF 0 T = 0 := if_pos rfl
    rw [h.1, e]
    exact if_pos rfl
  · obtain ⟨m', e1, e2⟩ := s_mfj_11 hT hn hn0 hTR hRT hR (2 ^ n - 1) 1 (by omega) (by omega) m h h2 (fun D hD q _ => Or.inr (by omega))
    refine ⟨m', ?_, e2⟩
    apply fX12_fewestJumps_144_i
    simp (disch := omega) only [yl3, yl4, yl5, yl6, yl7, yl8, yl9, yl10, yl13, yl16, yl20, yl21, yl22, yl23, yl24, yl32, yl40, yl48, yl57, yl59, yl63, yl64, yl97, yl99, yl122, yl255, yl256, yl400, yl1000, yl2000, yl2048, yc0_eq, yc0_eq2, yc0_le, yc0_ge, yc0_lt, yc0_gt, yc0_ad, yc0_da, yc0_sb, yc0_ml, yc0_lm, yc1_eq, yc1_eq2, yc1_le, yc1_ge, yc1_lt, yc1_gt, yc1_ad, yc1_da, yc1_sb, yc1_ml, yc1_lm, yc2_eq, yc2_eq2, yc2_le, yc2_ge, yc2_lt, yc2_gt, yc2_ad, yc2_da, yc2_sb, yc2_ml, yc2_lm, yc31_ge, ymodn, yI_1sl, yc2_dv, yn1_eq, yn1_lt, xgd_t, xlt_e, Option.bind_some, nI_add, pk_mul, pk_sub, pk_div, pk_rem, yI_and, yI_or, yI_xor, yI_nd, yI_nd2, yI_31, yI_shl, nI_leI, nI_ltI, nI_eq, nI_clamp, xinb_t, yP_z, yP_if, h.1, if_neg]
    exact e1
