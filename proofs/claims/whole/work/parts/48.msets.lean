/-! the model's sets, how far, parts -/
def yMN (n : Nat) (R : Nat → Nat) (m : xmm) : Prop := m.1 144 17 = nI n ∧ yrw 152 R m
theorem y255 : ∀ q, q < 8 → yb 255 q := by decide
theorem yPm {P Q : Prop} (h : P ↔ Q) (m : xmm) : some (yP P, m) = some (yP Q, m) := by rw [yP_c h]
theorem yMN_r {n : Nat} {R : Nat → Nat} {L : List Nat} {m m' : xmm} (h : yMN n R m) (hf : yfr L m m') (h1 : 144 ∉ L) (h2 : 152 ∉ L) : yMN n R m' := ⟨by rw [yfr_1 hf 144 17 h1]; exact h.1, fun p hp => by rw [yfr_1 hf 152 p h2]; exact h.2 p hp⟩
theorem yMN_f {n : Nat} {R : Nat → Nat} {L J : List Nat} {m m' : xmm} (h : yMN n R m) (hf : yfm L J m m') (h1 : 17 ∉ J) (h2 : 152 ∉ 144 :: L) : yMN n R m' := ⟨by rw [hf.2 17 h1]; exact h.1, fun p hp => by rw [yfm_1 hf 152 p h2]; exact h.2 p hp⟩
def ychn (R : Nat → Nat) (S : Nat) : Prop := ∀ p q, p ≠ q → yb S p → yb S q → yad R p q
theorem s_mChain_l {n : Nat} {R : Nat → Nat} (hG : yGr n R) {m : xmm} (h : yMN n R m) {S : Nat} (hS : S < 2 ^ n) : ∀ (d k : Nat), k + d = n → bX12_isChain_144_2 (nI S) (nI k) m = some (yP (∀ p, k ≤ p → p < n → yb S p → ynd S (R p) = 2 ^ p), m) := by
  have hn := hG.1
  have h8 := y2p8 hn
  intro d
  induction d with
  | zero =>
    intro k hk
    have e : k = n := by omega
    subst e
    rw [yP_t yal_e]
    apply bX12_isChain_144_2_i
    simp (disch := omega) only [yl3, yl4, yl5, yl6, yl7, yl8, yl9, yl10, yl13, yl16, yl20, yl21, yl22, yl23, yl24, yl32, yl40, yl48, yl57, yl59, yl63, yl64, yl97, yl99, yl122, yl255, yl256, yl400, yl1000, yl2000, yl2048, yc0_eq, yc0_eq2, yc0_le, yc0_ge, yc0_lt, yc0_gt, yc0_ad, yc0_da, yc0_sb, yc0_ml, yc0_lm, yc1_eq, yc1_eq2, yc1_le, yc1_ge, yc1_lt, yc1_gt, yc1_ad, yc1_da, yc1_sb, yc1_ml, yc1_lm, yc2_eq, yc2_eq2, yc2_le, yc2_ge, yc2_lt, yc2_gt, yc2_ad, yc2_da, yc2_sb, yc2_ml, yc2_lm, yc31_ge, ymodn, yI_1sl, yc2_dv, yn1_eq, yn1_lt, xgd_t, xlt_e, Option.bind_some, nI_add, pk_mul, pk_sub, pk_div, pk_rem, yI_and, yI_or, yI_xor, yI_nd, yI_nd2, yI_31, yI_shl, nI_leI, nI_ltI, nI_eq, nI_clamp, xinb_t, yP_z, yP_if, h.1, if_pos]
  | succ d ih =>
    intro k hk
    rw [yP_c (yal_s (P := fun p => yb S p → ynd S (R p) = 2 ^ p) (by omega : k < n))]
    have e := ih (k + 1) (by omega)
    have b1 := ynd_le S (R k) n hS
    have b2 : 2 ^ k < 2 ^ n := Nat.pow_lt_pow_right (by decide) (by omega)
    apply bX12_isChain_144_2_i
    by_cases hb : yb S k
    · by_cases e1 : ynd S (R k) = 2 ^ k
      · simp (disch := omega) only [yl3, yl4, yl5, yl6, yl7, yl8, yl9, yl10, yl13, yl16, yl20, yl21, yl22, yl23, yl24, yl32, yl40, yl48, yl57, yl59, yl63, yl64, yl97, yl99, yl122, yl255, yl256, yl400, yl1000, yl2000, yl2048, yc0_eq, yc0_eq2, yc0_le, yc0_ge, yc0_lt, yc0_gt, yc0_ad, yc0_da, yc0_sb, yc0_ml, yc0_lm, yc1_eq, yc1_eq2, yc1_le, yc1_ge, yc1_lt, yc1_gt, yc1_ad, yc1_da, yc1_sb, yc1_ml, yc1_lm, yc2_eq, yc2_eq2, yc2_le, yc2_ge, yc2_lt, yc2_gt, yc2_ad, yc2_da, yc2_sb, yc2_ml, yc2_lm, yc31_ge, ymodn, yI_1sl, yc2_dv, yn1_eq, yn1_lt, xgd_t, xlt_e, Option.bind_some, nI_add, pk_mul, pk_sub, pk_div, pk_rem, yI_and, yI_or, yI_xor, yI_nd, yI_nd2, yI_31, yI_shl, nI_leI, nI_ltI, nI_eq, nI_clamp, xinb_t, yP_z, yP_if, h.1, if_neg, s_has, yif_t hb, h.2 k (by omega), if_pos e1]
        rw [e]
        congr 2
        exact yP_c ⟨fun g => ⟨fun _ => e1, g⟩, fun g => g.2⟩
      · simp (disch := omega) only [yl3, yl4, yl5, yl6, yl7, yl8, yl9, yl10, yl13, yl16, yl20, yl21, yl22, yl23, yl24, yl32, yl40, yl48, yl57, yl59, yl63, yl64, yl97, yl99, yl122, yl255, yl256, yl400, yl1000, yl2000, yl2048, yc0_eq, yc0_eq2, yc0_le, yc0_ge, yc0_lt, yc0_gt, yc0_ad, yc0_da, yc0_sb, yc0_ml, yc0_lm, yc1_eq, yc1_eq2, yc1_le, yc1_ge, yc1_lt, yc1_gt, yc1_ad, yc1_da, yc1_sb, yc1_ml, yc1_lm, yc2_eq, yc2_eq2, yc2_le, yc2_ge, yc2_lt, yc2_gt, yc2_ad, yc2_da, yc2_sb, yc2_ml, yc2_lm, yc31_ge, ymodn, yI_1sl, yc2_dv, yn1_eq, yn1_lt, xgd_t, xlt_e, Option.bind_some, nI_add, pk_mul, pk_sub, pk_div, pk_rem, yI_and, yI_or, yI_xor, yI_nd, yI_nd2, yI_31, yI_shl, nI_leI, nI_ltI, nI_eq, nI_clamp, xinb_t, yP_z, yP_if, h.1, if_neg, s_has, yif_t hb, h.2 k (by omega), if_neg e1]
        rw [yP_f (fun g => e1 (g.1 hb))]
    · simp (disch := omega) only [yl3, yl4, yl5, yl6, yl7, yl8, yl9, yl10, yl13, yl16, yl20, yl21, yl22, yl23, yl24, yl32, yl40, yl48, yl57, yl59, yl63, yl64, yl97, yl99, yl122, yl255, yl256, yl400, yl1000, yl2000, yl2048, yc0_eq, yc0_eq2, yc0_le, yc0_ge, yc0_lt, yc0_gt, yc0_ad, yc0_da, yc0_sb, yc0_ml, yc0_lm, yc1_eq, yc1_eq2, yc1_le, yc1_ge, yc1_lt, yc1_gt, yc1_ad, yc1_da, yc1_sb, yc1_ml, yc1_lm, yc2_eq, yc2_eq2, yc2_le, yc2_ge, yc2_lt, yc2_gt, yc2_ad, yc2_da, yc2_sb, yc2_ml, yc2_lm, yc31_ge, ymodn, yI_1sl, yc2_dv, yn1_eq, yn1_lt, xgd_t, xlt_e, Option.bind_some, nI_add, pk_mul, pk_sub, pk_div, pk_rem, yI_and, yI_or, yI_xor, yI_nd, yI_nd2, yI_31, yI_shl, nI_leI, nI_ltI, nI_eq, nI_clamp, xinb_t, yP_z, yP_if, h.1, if_neg, s_has, yif_f hb]
      rw [e]
      congr 2
      exact yP_c ⟨fun g => ⟨fun e => absurd e hb, g⟩, fun g => g.2⟩
theorem ychn_rows {n : Nat} {R : Nat → Nat} (hG : yGr n R) {S : Nat} (hS : S < 2 ^ n) : ychn R S ↔ ∀ p, p < n → yb S p → ynd S (R p) = 2 ^ p := by
  constructor
  · intro h p hp hb
    apply ytb_ext
    intro i
    have e := yb_nd (A := S) (B := R p) (a := i)
    have e2 := yb_pw (m := p) (a := i)
    constructor
    · intro h1
      refine e2.mpr (Classical.byContradiction fun hne => ?_)
      exact (e.mp h1).2 (h p i (fun e => hne e.symm) hb (e.mp h1).1)
    · intro h1
      have := e2.mp h1
      subst this
      exact e.mpr ⟨hb, fun h2 => hG.2.2.2.2 i h2⟩
  · intro h p q hpq hp hq
    refine Classical.byContradiction fun hn => ?_
    have e := h p (ytb_of hS hp) hp
    have : yb (ynd S (R p)) q := yb_nd.mpr ⟨hq, hn⟩
    rw [e, yb_pw] at this
    exact hpq this.symm
theorem s_mChain {n : Nat} {R : Nat → Nat} (hG : yGr n R) {m : xmm} (h : yMN n R m) {S : Nat} (hS : S < 2 ^ n) : fX12_isChain_144 (nI S) m = some (yP (ychn R S), m) := by
  apply fX12_isChain_144_i
  rw [yP_c (ychn_rows hG hS), ← yP_c yal_0]
  exact s_mChain_l hG h hS n 0 (by omega)
theorem s_mApart_l {n : Nat} {R : Nat → Nat} (hG : yGr n R) {m : xmm} (h : yMN n R m) {S : Nat} (hS : S < 2 ^ n) : ∀ (d k : Nat), k + d = n → bX12_isApart_144_2 (nI S) (nI k) m = some (yP (∀ p, k ≤ p → p < n → yb S p → ∀ q, yb S q → ¬ yad R p q), m) := by
  have hn := hG.1
  have h8 := y2p8 hn
  intro d
  induction d with
  | zero =>
    intro k hk
    have e : k = n := by omega
    subst e
    rw [yP_t yal_e]
    apply bX12_isApart_144_2_i
    simp (disch := omega) only [yl3, yl4, yl5, yl6, yl7, yl8, yl9, yl10, yl13, yl16, yl20, yl21, yl22, yl23, yl24, yl32, yl40, yl48, yl57, yl59, yl63, yl64, yl97, yl99, yl122, yl255, yl256, yl400, yl1000, yl2000, yl2048, yc0_eq, yc0_eq2, yc0_le, yc0_ge, yc0_lt, yc0_gt, yc0_ad, yc0_da, yc0_sb, yc0_ml, yc0_lm, yc1_eq, yc1_eq2, yc1_le, yc1_ge, yc1_lt, yc1_gt, yc1_ad, yc1_da, yc1_sb, yc1_ml, yc1_lm, yc2_eq, yc2_eq2, yc2_le, yc2_ge, yc2_lt, yc2_gt, yc2_ad, yc2_da, yc2_sb, yc2_ml, yc2_lm, yc31_ge, ymodn, yI_1sl, yc2_dv, yn1_eq, yn1_lt, xgd_t, xlt_e, Option.bind_some, nI_add, pk_mul, pk_sub, pk_div, pk_rem, yI_and, yI_or, yI_xor, yI_nd, yI_nd2, yI_31, yI_shl, nI_leI, nI_ltI, nI_eq, nI_clamp, xinb_t, yP_z, yP_if, h.1, if_pos]
  | succ d ih =>
    intro k hk
    rw [yP_c (yal_s (P := fun p => yb S p → ∀ q, yb S q → ¬ yad R p q) (by omega : k < n))]
    have e := ih (k + 1) (by omega)
    have b1 := yand_lt S (R k) hS
    have e0 : S &&& R k = 0 ↔ ∀ q, yb S q → ¬ yad R k q := yand0
    apply bX12_isApart_144_2_i
    by_cases hb : yb S k
    · by_cases e1 : S &&& R k = 0
      · simp (disch := omega) only [yl3, yl4, yl5, yl6, yl7, yl8, yl9, yl10, yl13, yl16, yl20, yl21, yl22, yl23, yl24, yl32, yl40, yl48, yl57, yl59, yl63, yl64, yl97, yl99, yl122, yl255, yl256, yl400, yl1000, yl2000, yl2048, yc0_eq, yc0_eq2, yc0_le, yc0_ge, yc0_lt, yc0_gt, yc0_ad, yc0_da, yc0_sb, yc0_ml, yc0_lm, yc1_eq, yc1_eq2, yc1_le, yc1_ge, yc1_lt, yc1_gt, yc1_ad, yc1_da, yc1_sb, yc1_ml, yc1_lm, yc2_eq, yc2_eq2, yc2_le, yc2_ge, yc2_lt, yc2_gt, yc2_ad, yc2_da, yc2_sb, yc2_ml, yc2_lm, yc31_ge, ymodn, yI_1sl, yc2_dv, yn1_eq, yn1_lt, xgd_t, xlt_e, Option.bind_some, nI_add, pk_mul, pk_sub, pk_div, pk_rem, yI_and, yI_or, yI_xor, yI_nd, yI_nd2, yI_31, yI_shl, nI_leI, nI_ltI, nI_eq, nI_clamp, xinb_t, yP_z, yP_if, h.1, if_neg, s_has, yif_t hb, h.2 k (by omega), if_pos e1]
        rw [e]
        congr 2
        exact yP_c ⟨fun g => ⟨fun _ => e0.mp e1, g⟩, fun g => g.2⟩
      · simp (disch := omega) only [yl3, yl4, yl5, yl6, yl7, yl8, yl9, yl10, yl13, yl16, yl20, yl21, yl22, yl23, yl24, yl32, yl40, yl48, yl57, yl59, yl63, yl64, yl97, yl99, yl122, yl255, yl256, yl400, yl1000, yl2000, yl2048, yc0_eq, yc0_eq2, yc0_le, yc0_ge, yc0_lt, yc0_gt, yc0_ad, yc0_da, yc0_sb, yc0_ml, yc0_lm, yc1_eq, yc1_eq2, yc1_le, yc1_ge, yc1_lt, yc1_gt, yc1_ad, yc1_da, yc1_sb, yc1_ml, yc1_lm, yc2_eq, yc2_eq2, yc2_le, yc2_ge, yc2_lt, yc2_gt, yc2_ad, yc2_da, yc2_sb, yc2_ml, yc2_lm, yc31_ge, ymodn, yI_1sl, yc2_dv, yn1_eq, yn1_lt, xgd_t, xlt_e, Option.bind_some, nI_add, pk_mul, pk_sub, pk_div, pk_rem, yI_and, yI_or, yI_xor, yI_nd, yI_nd2, yI_31, yI_shl, nI_leI, nI_ltI, nI_eq, nI_clamp, xinb_t, yP_z, yP_if, h.1, if_neg, s_has, yif_t hb, h.2 k (by omega), if_neg e1]
        rw [yP_f (fun g => e1 (e0.mpr (g.1 hb)))]
    · simp (disch := omega) only [yl3, yl4, yl5, yl6, yl7, yl8, yl9, yl10, yl13, yl16, yl20, yl21, yl22, yl23, yl24, yl32, yl40, yl48, yl57, yl59, yl63, yl64, yl97, yl99, yl122, yl255, yl256, yl400, yl1000, yl2000, yl2048, yc0_eq, yc0_eq2, yc0_le, yc0_ge, yc0_lt, yc0_gt, yc0_ad, yc0_da, yc0_sb, yc0_ml, yc0_lm, yc1_eq, yc1_eq2, yc1_le, yc1_ge, yc1_lt, yc1_gt, yc1_ad, yc1_da, yc1_sb, yc1_ml, yc1_lm, yc2_eq, yc2_eq2, yc2_le, yc2_ge, yc2_lt, yc2_gt, yc2_ad, yc2_da, yc2_sb, yc2_ml, yc2_lm, yc31_ge, ymodn, yI_1sl, yc2_dv, yn1_eq, yn1_lt, xgd_t, xlt_e, Option.bind_some, nI_add, pk_mul, pk_sub, pk_div, pk_rem, yI_and, yI_or, yI_xor, yI_nd, yI_nd2, yI_31, yI_shl, nI_leI, nI_ltI, nI_eq, nI_clamp, xinb_t, yP_z, yP_if, h.1, if_neg, s_has, yif_f hb]
      rw [e]
      congr 2
      exact yP_c ⟨fun g => ⟨fun e => absurd e hb, g⟩, fun g => g.2⟩
theorem s_mApart {n : Nat} {R : Nat → Nat} (hG : yGr n R) {m : xmm} (h : yMN n R m) {S : Nat} (hS : S < 2 ^ n) : fX12_isApart_144 (nI S) m = some (yP (yap R S), m) := by
  apply fX12_isApart_144_i
  rw [show (0 : Int32) = nI 0 from rfl, s_mApart_l hG h hS n 0 (by omega)]
  congr 2
  exact yP_c ⟨fun g p q hp hq => g p (Nat.zero_le _) (ytb_of hS hp) hp q hq, fun g p _ _ hp q hq => g p q hp hq⟩
theorem s_mAlike_l {n : Nat} {R : Nat → Nat} (hG : yGr n R) {m : xmm} (h : yMN n R m) {S : Nat} (hS : S < 2 ^ n) : ∀ (d k : Nat), k + d = n → bX12_isAlike_144_2 (nI S) (nI k) m = some (yP (S ≠ 0 ∧ ∀ p, k ≤ p → p < n → ¬ yb S p → R p &&& S = 0 ∨ R p &&& S = S), m) := by
  have hn := hG.1
  have h8 := y2p8 hn
  intro d
  induction d with
  | zero =>
    intro k hk
    have e : k = n := by omega
    subst e
    apply bX12_isAlike_144_2_i
    by_cases h0 : S = 0
    · simp (disch := omega) only [yl3, yl4, yl5, yl6, yl7, yl8, yl9, yl10, yl13, yl16, yl20, yl21, yl22, yl23, yl24, yl32, yl40, yl48, yl57, yl59, yl63, yl64, yl97, yl99, yl122, yl255, yl256, yl400, yl1000, yl2000, yl2048, yc0_eq, yc0_eq2, yc0_le, yc0_ge, yc0_lt, yc0_gt, yc0_ad, yc0_da, yc0_sb, yc0_ml, yc0_lm, yc1_eq, yc1_eq2, yc1_le, yc1_ge, yc1_lt, yc1_gt, yc1_ad, yc1_da, yc1_sb, yc1_ml, yc1_lm, yc2_eq, yc2_eq2, yc2_le, yc2_ge, yc2_lt, yc2_gt, yc2_ad, yc2_da, yc2_sb, yc2_ml, yc2_lm, yc31_ge, ymodn, yI_1sl, yc2_dv, yn1_eq, yn1_lt, xgd_t, xlt_e, Option.bind_some, nI_add, pk_mul, pk_sub, pk_div, pk_rem, yI_and, yI_or, yI_xor, yI_nd, yI_nd2, yI_31, yI_shl, nI_leI, nI_ltI, nI_eq, nI_clamp, xinb_t, yP_z, yP_if, h.1, if_pos]
      rw [yP_f (fun g => g.1 h0)]
    · simp (disch := omega) only [yl3, yl4, yl5, yl6, yl7, yl8, yl9, yl10, yl13, yl16, yl20, yl21, yl22, yl23, yl24, yl32, yl40, yl48, yl57, yl59, yl63, yl64, yl97, yl99, yl122, yl255, yl256, yl400, yl1000, yl2000, yl2048, yc0_eq, yc0_eq2, yc0_le, yc0_ge, yc0_lt, yc0_gt, yc0_ad, yc0_da, yc0_sb, yc0_ml, yc0_lm, yc1_eq, yc1_eq2, yc1_le, yc1_ge, yc1_lt, yc1_gt, yc1_ad, yc1_da, yc1_sb, yc1_ml, yc1_lm, yc2_eq, yc2_eq2, yc2_le, yc2_ge, yc2_lt, yc2_gt, yc2_ad, yc2_da, yc2_sb, yc2_ml, yc2_lm, yc31_ge, ymodn, yI_1sl, yc2_dv, yn1_eq, yn1_lt, xgd_t, xlt_e, Option.bind_some, nI_add, pk_mul, pk_sub, pk_div, pk_rem, yI_and, yI_or, yI_xor, yI_nd, yI_nd2, yI_31, yI_shl, nI_leI, nI_ltI, nI_eq, nI_clamp, xinb_t, yP_z, yP_if, h.1, if_pos, if_neg]
      rw [yP_t ⟨h0, yal_e⟩]
  | succ d ih =>
    intro k hk
    rw [yP_c (and_congr_right fun _ => yal_s (P := fun p => ¬ yb S p → R p &&& S = 0 ∨ R p &&& S = S) (by omega : k < n))]
    have e := ih (k + 1) (by omega)
    have b0 := yGr_8 hG k
    have b1 := yand_lt (R k) S (n := 8) b0
    apply bX12_isAlike_144_2_i
    by_cases hb : yb S k
    · simp (disch := omega) only [yl3, yl4, yl5, yl6, yl7, yl8, yl9, yl10, yl13, yl16, yl20, yl21, yl22, yl23, yl24, yl32, yl40, yl48, yl57, yl59, yl63, yl64, yl97, yl99, yl122, yl255, yl256, yl400, yl1000, yl2000, yl2048, yc0_eq, yc0_eq2, yc0_le, yc0_ge, yc0_lt, yc0_gt, yc0_ad, yc0_da, yc0_sb, yc0_ml, yc0_lm, yc1_eq, yc1_eq2, yc1_le, yc1_ge, yc1_lt, yc1_gt, yc1_ad, yc1_da, yc1_sb, yc1_ml, yc1_lm, yc2_eq, yc2_eq2, yc2_le, yc2_ge, yc2_lt, yc2_gt, yc2_ad, yc2_da, yc2_sb, yc2_ml, yc2_lm, yc31_ge, ymodn, yI_1sl, yc2_dv, yn1_eq, yn1_lt, xgd_t, xlt_e, Option.bind_some, nI_add, pk_mul, pk_sub, pk_div, pk_rem, yI_and, yI_or, yI_xor, yI_nd, yI_nd2, yI_31, yI_shl, nI_leI, nI_ltI, nI_eq, nI_clamp, xinb_t, yP_z, yP_if, h.1, if_neg, s_has, yif_t hb]
      rw [e]
      congr 2
      exact yP_c ⟨fun g => ⟨g.1, fun e => absurd hb e, g.2⟩, fun g => ⟨g.1, g.2.2⟩⟩
    · by_cases e1 : R k &&& S = 0
      · simp (disch := omega) only [yl3, yl4, yl5, yl6, yl7, yl8, yl9, yl10, yl13, yl16, yl20, yl21, yl22, yl23, yl24, yl32, yl40, yl48, yl57, yl59, yl63, yl64, yl97, yl99, yl122, yl255, yl256, yl400, yl1000, yl2000, yl2048, yc0_eq, yc0_eq2, yc0_le, yc0_ge, yc0_lt, yc0_gt, yc0_ad, yc0_da, yc0_sb, yc0_ml, yc0_lm, yc1_eq, yc1_eq2, yc1_le, yc1_ge, yc1_lt, yc1_gt, yc1_ad, yc1_da, yc1_sb, yc1_ml, yc1_lm, yc2_eq, yc2_eq2, yc2_le, yc2_ge, yc2_lt, yc2_gt, yc2_ad, yc2_da, yc2_sb, yc2_ml, yc2_lm, yc31_ge, ymodn, yI_1sl, yc2_dv, yn1_eq, yn1_lt, xgd_t, xlt_e, Option.bind_some, nI_add, pk_mul, pk_sub, pk_div, pk_rem, yI_and, yI_or, yI_xor, yI_nd, yI_nd2, yI_31, yI_shl, nI_leI, nI_ltI, nI_eq, nI_clamp, xinb_t, yP_z, yP_if, h.1, if_neg, s_has, yif_f hb, h.2 k (by omega), if_pos e1]
        rw [e]
        congr 2
        exact yP_c ⟨fun g => ⟨g.1, fun _ => Or.inl e1, g.2⟩, fun g => ⟨g.1, g.2.2⟩⟩
      · by_cases e2 : R k &&& S = S
        · simp (disch := omega) only [yl3, yl4, yl5, yl6, yl7, yl8, yl9, yl10, yl13, yl16, yl20, yl21, yl22, yl23, yl24, yl32, yl40, yl48, yl57, yl59, yl63, yl64, yl97, yl99, yl122, yl255, yl256, yl400, yl1000, yl2000, yl2048, yc0_eq, yc0_eq2, yc0_le, yc0_ge, yc0_lt, yc0_gt, yc0_ad, yc0_da, yc0_sb, yc0_ml, yc0_lm, yc1_eq, yc1_eq2, yc1_le, yc1_ge, yc1_lt, yc1_gt, yc1_ad, yc1_da, yc1_sb, yc1_ml, yc1_lm, yc2_eq, yc2_eq2, yc2_le, yc2_ge, yc2_lt, yc2_gt, yc2_ad, yc2_da, yc2_sb, yc2_ml, yc2_lm, yc31_ge, ymodn, yI_1sl, yc2_dv, yn1_eq, yn1_lt, xgd_t, xlt_e, Option.bind_some, nI_add, pk_mul, pk_sub, pk_div, pk_rem, yI_and, yI_or, yI_xor, yI_nd, yI_nd2, yI_31, yI_shl, nI_leI, nI_ltI, nI_eq, nI_clamp, xinb_t, yP_z, yP_if, h.1, if_neg, s_has, yif_f hb, h.2 k (by omega), if_neg e1, if_pos e2]
          rw [e]
          congr 2
          exact yP_c ⟨fun g => ⟨g.1, fun _ => Or.inr e2, g.2⟩, fun g => ⟨g.1, g.2.2⟩⟩
        · simp (disch := omega) only [yl3, yl4, yl5, yl6, yl7, yl8, yl9, yl10, yl13, yl16, yl20, yl21, yl22, yl23, yl24, yl32, yl40, yl48, yl57, yl59, yl63, yl64, yl97, yl99, yl122, yl255, yl256, yl400, yl1000, yl2000, yl2048, yc0_eq, yc0_eq2, yc0_le, yc0_ge, yc0_lt, yc0_gt, yc0_ad, yc0_da, yc0_sb, yc0_ml, yc0_lm, yc1_eq, yc1_eq2, yc1_le, yc1_ge, yc1_lt, yc1_gt, yc1_ad, yc1_da, yc1_sb, yc1_ml, yc1_lm, yc2_eq, yc2_eq2, yc2_le, yc2_ge, yc2_lt, yc2_gt, yc2_ad, yc2_da, yc2_sb, yc2_ml, yc2_lm, yc31_ge, ymodn, yI_1sl, yc2_dv, yn1_eq, yn1_lt, xgd_t, xlt_e, Option.bind_some, nI_add, pk_mul, pk_sub, pk_div, pk_rem, yI_and, yI_or, yI_xor, yI_nd, yI_nd2, yI_31, yI_shl, nI_leI, nI_ltI, nI_eq, nI_clamp, xinb_t, yP_z, yP_if, h.1, if_neg, s_has, yif_f hb, h.2 k (by omega), if_neg e1, if_neg e2]
          rw [yP_f (fun g => (g.2.1 hb).elim e1 e2)]
theorem s_mAlike {n : Nat} {R : Nat → Nat} (hG : yGr n R) {m : xmm} (h : yMN n R m) {S : Nat} (hS : S < 2 ^ n) : fX12_isAlike_144 (nI S) m = some (yP (ymo (yad R) (2 ^ n - 1) S), m) := by
  apply fX12_isAlike_144_i
  rw [show (0 : Int32) = nI 0 from rfl, s_mAlike_l hG h hS n 0 (by omega)]
  congr 2
  apply yP_c
  rw [ymo_rows hG hS]
  exact ⟨fun g => ⟨g.1, fun p hp => g.2 p (Nat.zero_le _) hp⟩, fun g => ⟨g.1, fun p _ hp => g.2 p hp⟩⟩
/-! as many rounds as posts are enough -/
theorem ypp_n {n X : Nat} (hn : n ≤ 8) (hX : X < 2 ^ n) : ypp X ≤ n := by
  have : ypp X = yct (fun a => yb X a) n := yct_ext hn fun k h1 _ h3 => by have := ytb_of hX h3; omega
  rw [this]
  exact yct_le _ n
theorem yit_n {n : Nat} {R : Nat → Nat} (hG : yGr n R) {S a : Nat} (hS : S < 256) (ha : a < n) : ∀ k, yit R S a k < 2 ^ n
  | 0 => Nat.pow_lt_pow_right (by decide : 1 < 2) ha
  | k + 1 => by
    have hn := hG.1
    apply ytb_lt
    intro b hb
    rcases (yit_b hS (by omega : a < 8) k b).mp hb with e | ⟨_, p, _, e⟩
    · exact ytb_of (yit_n hG hS ha k) e
    · exact (yGr_n hG e).2
theorem yit_cl {n : Nat} {R : Nat → Nat} (hG : yGr n R) {S a : Nat} (hS : S < 256) (ha : a < n) : ycd R S (yit R S a n) := by
  have hn := hG.1
  rcases yit_c (R := R) hS (by omega : a < 8) n with h | h
  · exact h
  · have := ypp_n hn (yit_n hG hS ha n)
    omega
theorem yit_st {R : Nat → Nat} {S a k : Nat} (hS : S < 256) (ha : a < 8) (hc : ycd R S (yit R S a k)) : ∀ d, yit R S a (k + d) = yit R S a k
  | 0 => rfl
  | d + 1 => by
    have e := yit_st hS ha hc d
    apply ytb_ext
    intro b
    have := yit_b (R := R) hS ha (k + d) b
    rw [e] at this
    exact ⟨fun h => (this.mp h).elim id fun ⟨h1, p, h2, h3⟩ => hc p b h2 h3 h1, fun h => this.mpr (Or.inl h)⟩
theorem yit_cnn {n : Nat} {R : Nat → Nat} (hG : yGr n R) {S a b : Nat} (hS : S < 256) (ha : a < n) : yb (yit R S a n) b ↔ ycn (yad R) S a b := by
  have hn := hG.1
  rw [← yit_cn hS (by omega : a < 8)]
  have e := yit_st hS (by omega) (yit_cl hG hS ha) (8 - n)
  rw [show n + (8 - n) = 8 by omega] at e
  rw [e]
/-! round -/
theorem s_mrd_78 {n : Nat} {R : Nat → Nat} (hG : yGr n R) {m : xmm} (h : yMN n R m) {S a : Nat} (hS : S < 2 ^ n) (ha : a < n) (r : Nat) : ∀ (d k : Nat), k + d = n → ∀ X : Nat, X < 256 → (∀ b, yb X b → ycn (yad R) S a b) → (∀ b, yb (yit R S a r) b → yb X b) → (∀ p b, p < k → yb (yit R S a r) p → yad R p b → yb S b → yb X b) → ∃ X', X' < 256 ∧ (∀ b, yb X' b → ycn (yad R) S a b) ∧ (∀ b, yb (yit R S a (r + 1)) b → yb X' b) ∧ ∀ {z : Int32 × xmm}, bX12_isRound_144_66 (nI S) (nI X') (nI (r + 1)) m = some z → bX12_isRound_144_78 (nI S) (nI X) (nI r) (nI k) m = some z := by
  have hn := hG.1
  have h8 := y2p8 hn
  intro d
  induction d with
  | zero =>
    intro k hk X hX h1 h2 h3
    have e : k = n := by omega
    subst e
    refine ⟨X, hX, h1, fun b hb => ?_, fun {z} hz => ?_⟩
    · rcases (yit_b (by omega) (by omega : a < 8) r b).mp hb with e | ⟨e1, p, e2, e3⟩
      · exact h2 b e
      · exact h3 p b (yGr_n hG e3).1 e2 e3 e1
    · apply bX12_isRound_144_78_i
      simp (disch := omega) only [yl3, yl4, yl5, yl6, yl7, yl8, yl9, yl10, yl13, yl16, yl20, yl21, yl22, yl23, yl24, yl32, yl40, yl48, yl57, yl59, yl63, yl64, yl97, yl99, yl122, yl255, yl256, yl400, yl1000, yl2000, yl2048, yc0_eq, yc0_eq2, yc0_le, yc0_ge, yc0_lt, yc0_gt, yc0_ad, yc0_da, yc0_sb, yc0_ml, yc0_lm, yc1_eq, yc1_eq2, yc1_le, yc1_ge, yc1_lt, yc1_gt, yc1_ad, yc1_da, yc1_sb, yc1_ml, yc1_lm, yc2_eq, yc2_eq2, yc2_le, yc2_ge, yc2_lt, yc2_gt, yc2_ad, yc2_da, yc2_sb, yc2_ml, yc2_lm, yc31_ge, ymodn, yI_1sl, yc2_dv, yn1_eq, yn1_lt, xgd_t, xlt_e, Option.bind_some, nI_add, pk_mul, pk_sub, pk_div, pk_rem, yI_and, yI_or, yI_xor, yI_nd, yI_nd2, yI_31, yI_shl, nI_leI, nI_ltI, nI_eq, nI_clamp, xinb_t, yP_z, yP_if, h.1, if_pos]
      exact hz
  | succ d ih =>
    intro k hk X hX h1 h2 h3
    have b0 := yGr_8 hG k
    by_cases hb : yb X k
    · have bX : X ||| (R k &&& S) < 256 := Nat.or_lt_two_pow (n := 8) hX (yand_lt (R k) S (n := 8) b0)
      have mb : ∀ b, yb (X ||| (R k &&& S)) b ↔ yb X b ∨ (yad R k b ∧ yb S b) := fun b => by
        rw [yb_or, yb_an]
        exact Iff.rfl
      obtain ⟨X', e1, e2, e3, e4⟩ := ih (k + 1) (by omega) _ bX (fun b hbb => by
        rcases (mb b).mp hbb with e | ⟨e, e'⟩
        · exact h1 b e
        · exact ycn_s (h1 k hb) e e') (fun b hbb => (mb b).mpr (Or.inl (h2 b hbb))) (fun p b hp hpi hl hbS => by
        by_cases e : p = k
        · subst e; exact (mb b).mpr (Or.inr ⟨hl, hbS⟩)
        · exact (mb b).mpr (Or.inl (h3 p b (by omega) hpi hl hbS)))
      refine ⟨X', e1, e2, e3, fun {z} hz => ?_⟩
      apply bX12_isRound_144_78_i
      simp (disch := omega) only [yl3, yl4, yl5, yl6, yl7, yl8, yl9, yl10, yl13, yl16, yl20, yl21, yl22, yl23, yl24, yl32, yl40, yl48, yl57, yl59, yl63, yl64, yl97, yl99, yl122, yl255, yl256, yl400, yl1000, yl2000, yl2048, yc0_eq, yc0_eq2, yc0_le, yc0_ge, yc0_lt, yc0_gt, yc0_ad, yc0_da, yc0_sb, yc0_ml, yc0_lm, yc1_eq, yc1_eq2, yc1_le, yc1_ge, yc1_lt, yc1_gt, yc1_ad, yc1_da, yc1_sb, yc1_ml, yc1_lm, yc2_eq, yc2_eq2, yc2_le, yc2_ge, yc2_lt, yc2_gt, yc2_ad, yc2_da, yc2_sb, yc2_ml, yc2_lm, yc31_ge, ymodn, yI_1sl, yc2_dv, yn1_eq, yn1_lt, xgd_t, xlt_e, Option.bind_some, nI_add, pk_mul, pk_sub, pk_div, pk_rem, yI_and, yI_or, yI_xor, yI_nd, yI_nd2, yI_31, yI_shl, nI_leI, nI_ltI, nI_eq, nI_clamp, xinb_t, yP_z, yP_if, h.1, if_neg, s_has, yif_t hb, h.2 k (by omega)]
      exact e4 hz
    · obtain ⟨X', e1, e2, e3, e4⟩ := ih (k + 1) (by omega) X hX h1 h2 (fun p b hp hpi hl hbS => by
        by_cases e : p = k
        · subst e; exact absurd (h2 p hpi) hb
        · exact h3 p b (by omega) hpi hl hbS)
      refine ⟨X', e1, e2, e3, fun {z} hz => ?_⟩
      apply bX12_isRound_144_78_i
      simp (disch := omega) only [yl3, yl4, yl5, yl6, yl7, yl8, yl9, yl10, yl13, yl16, yl20, yl21, yl22, yl23, yl24, yl32, yl40, yl48, yl57, yl59, yl63, yl64, yl97, yl99, yl122, yl255, yl256, yl400, yl1000, yl2000, yl2048, yc0_eq, yc0_eq2, yc0_le, yc0_ge, yc0_lt, yc0_gt, yc0_ad, yc0_da, yc0_sb, yc0_ml, yc0_lm, yc1_eq, yc1_eq2, yc1_le, yc1_ge, yc1_lt, yc1_gt, yc1_ad, yc1_da, yc1_sb, yc1_ml, yc1_lm, yc2_eq, yc2_eq2, yc2_le, yc2_ge, yc2_lt, yc2_gt, yc2_ad, yc2_da, yc2_sb, yc2_ml, yc2_lm, yc31_ge, ymodn, yI_1sl, yc2_dv, yn1_eq, yn1_lt, xgd_t, xlt_e, Option.bind_some, nI_add, pk_mul, pk_sub, pk_div, pk_rem, yI_and, yI_or, yI_xor, yI_nd, yI_nd2, yI_31, yI_shl, nI_leI, nI_ltI, nI_eq, nI_clamp, xinb_t, yP_z, yP_if, h.1, if_neg, s_has, yif_f hb]
      exact e4 hz
theorem s_mrd_66 {n : Nat} {R : Nat → Nat} (hG : yGr n R) {m : xmm} (h : yMN n R m) {S a : Nat} (hS : S < 2 ^ n) (ha : yb S a) : ∀ (d r : Nat), r + d = n → ∀ X : Nat, X < 256 → (∀ b, yb X b → ycn (yad R) S a b) → (∀ b, yb (yit R S a r) b → yb X b) → bX12_isRound_144_66 (nI S) (nI X) (nI r) m = some (yP (ypt (yad R) S = 1), m) := by
  have hn := hG.1
  have h8 := y2p8 hn
  have han := ytb_of hS ha
  intro d
  induction d with
  | zero =>
    intro r hr X hX h1 h2
    have e : r = n := by omega
    subst e
    have eX : X = S ↔ ypt (yad R) S = 1 := by
      constructor
      · intro e
        have a1 := ypt_of (g := yad R) (S := S) fun c d hc hd => by
          rw [← e] at hc hd
          exact ycn_t (ycn_sy hG.2.2.2 ha (h1 c hc)) (h1 d hd)
        have a2 := ypt_ge1 (g := yad R) (S := S) (by omega) ⟨a, ha⟩
        omega
      · intro e
        apply ytb_ext
        intro b
        constructor
        · intro hb
          exact ycn_m (h1 b hb) ha
        · intro hb
          exact h2 b ((yit_cnn hG (by omega) han).mpr (ypt_le1 hG.2.2.2 (by omega) (by omega) ha hb))
    apply bX12_isRound_144_66_i
    by_cases e : X = S
    · simp (disch := omega) only [yl3, yl4, yl5, yl6, yl7, yl8, yl9, yl10, yl13, yl16, yl20, yl21, yl22, yl23, yl24, yl32, yl40, yl48, yl57, yl59, yl63, yl64, yl97, yl99, yl122, yl255, yl256, yl400, yl1000, yl2000, yl2048, yc0_eq, yc0_eq2, yc0_le, yc0_ge, yc0_lt, yc0_gt, yc0_ad, yc0_da, yc0_sb, yc0_ml, yc0_lm, yc1_eq, yc1_eq2, yc1_le, yc1_ge, yc1_lt, yc1_gt, yc1_ad, yc1_da, yc1_sb, yc1_ml, yc1_lm, yc2_eq, yc2_eq2, yc2_le, yc2_ge, yc2_lt, yc2_gt, yc2_ad, yc2_da, yc2_sb, yc2_ml, yc2_lm, yc31_ge, ymodn, yI_1sl, yc2_dv, yn1_eq, yn1_lt, xgd_t, xlt_e, Option.bind_some, nI_add, pk_mul, pk_sub, pk_div, pk_rem, yI_and, yI_or, yI_xor, yI_nd, yI_nd2, yI_31, yI_shl, nI_leI, nI_ltI, nI_eq, nI_clamp, xinb_t, yP_z, yP_if, h.1, if_pos]
      rw [yP_t (eX.mp e)]
    · simp (disch := omega) only [yl3, yl4, yl5, yl6, yl7, yl8, yl9, yl10, yl13, yl16, yl20, yl21, yl22, yl23, yl24, yl32, yl40, yl48, yl57, yl59, yl63, yl64, yl97, yl99, yl122, yl255, yl256, yl400, yl1000, yl2000, yl2048, yc0_eq, yc0_eq2, yc0_le, yc0_ge, yc0_lt, yc0_gt, yc0_ad, yc0_da, yc0_sb, yc0_ml, yc0_lm, yc1_eq, yc1_eq2, yc1_le, yc1_ge, yc1_lt, yc1_gt, yc1_ad, yc1_da, yc1_sb, yc1_ml, yc1_lm, yc2_eq, yc2_eq2, yc2_le, yc2_ge, yc2_lt, yc2_gt, yc2_ad, yc2_da, yc2_sb, yc2_ml, yc2_lm, yc31_ge, ymodn, yI_1sl, yc2_dv, yn1_eq, yn1_lt, xgd_t, xlt_e, Option.bind_some, nI_add, pk_mul, pk_sub, pk_div, pk_rem, yI_and, yI_or, yI_xor, yI_nd, yI_nd2, yI_31, yI_shl, nI_leI, nI_ltI, nI_eq, nI_clamp, xinb_t, yP_z, yP_if, h.1, if_pos, if_neg]
      rw [yP_f (fun g => e (eX.mpr g))]
  | succ d ih =>
    intro r hr X hX h1 h2
    obtain ⟨X', e1, e2, e3, e4⟩ := s_mrd_78 hG h hS han r n 0 (by omega) X hX h1 h2 (fun p b hp => absurd hp (Nat.not_lt_zero p))
    apply bX12_isRound_144_66_i
    simp (disch := omega) only [yl3, yl4, yl5, yl6, yl7, yl8, yl9, yl10, yl13, yl16, yl20, yl21, yl22, yl23, yl24, yl32, yl40, yl48, yl57, yl59, yl63, yl64, yl97, yl99, yl122, yl255, yl256, yl400, yl1000, yl2000, yl2048, yc0_eq, yc0_eq2, yc0_le, yc0_ge, yc0_lt, yc0_gt, yc0_ad, yc0_da, yc0_sb, yc0_ml, yc0_lm, yc1_eq, yc1_eq2, yc1_le, yc1_ge, yc1_lt, yc1_gt, yc1_ad, yc1_da, yc1_sb, yc1_ml, yc1_lm, yc2_eq, yc2_eq2, yc2_le, yc2_ge, yc2_lt, yc2_gt, yc2_ad, yc2_da, yc2_sb, yc2_ml, yc2_lm, yc31_ge, ymodn, yI_1sl, yc2_dv, yn1_eq, yn1_lt, xgd_t, xlt_e, Option.bind_some, nI_add, pk_mul, pk_sub, pk_div, pk_rem, yI_and, yI_or, yI_xor, yI_nd, yI_nd2, yI_31, yI_shl, nI_leI, nI_ltI, nI_eq, nI_clamp, xinb_t, yP_z, yP_if, h.1, if_neg]
    exact e4 (ih (r + 1) (by omega) X' e1 e2 e3)
theorem s_mrd_19 {n : Nat} {R : Nat → Nat} (hG : yGr n R) {m : xmm} (h : yMN n R m) {S : Nat} (hS : S < 2 ^ n) (h0 : S ≠ 0) : ∀ (k : Nat), k ≤ n → ∀ (f : Int32), ((∀ p, yb S p → p < k) ∨ ∃ a, f = nI a ∧ yb S a) → bX12_isRound_144_19 (nI S) f (nI k - 1) m = some (yP ((∀ p, p < k → yb S p → ypp (R p &&& S) = 2) ∧ ypt (yad R) S = 1), m) := by
  have hn := hG.1
  have h8 := y2p8 hn
  intro k
  induction k with
  | zero =>
    intro hk f hf
    have hf2 : ∃ a, f = nI a ∧ yb S a := by
      rcases hf with e | e
      · obtain ⟨a, ha⟩ := yex_ne h0
        exact absurd (e a ha) (Nat.not_lt_zero a)
      · exact e
    obtain ⟨a, rfl, ha⟩ := hf2
    have han := ytb_of hS ha
    have h2a : 2 ^ a < 256 := Nat.pow_lt_pow_right (by decide : 1 < 2) (by omega : a < 8)
    have e := s_mrd_66 hG h hS ha n 0 (by omega) (2 ^ a) h2a (fun b hb => by rw [yb_pw.mp hb]; exact ycn_r _ S a) (fun b hb => hb)
    apply bX12_isRound_144_19_i
    rw [if_pos (show nI 0 - 1 < 0 by decide)]
    simp (disch := omega) only [yl3, yl4, yl5, yl6, yl7, yl8, yl9, yl10, yl13, yl16, yl20, yl21, yl22, yl23, yl24, yl32, yl40, yl48, yl57, yl59, yl63, yl64, yl97, yl99, yl122, yl255, yl256, yl400, yl1000, yl2000, yl2048, yc0_eq, yc0_eq2, yc0_le, yc0_ge, yc0_lt, yc0_gt, yc0_ad, yc0_da, yc0_sb, yc0_ml, yc0_lm, yc1_eq, yc1_eq2, yc1_le, yc1_ge, yc1_lt, yc1_gt, yc1_ad, yc1_da, yc1_sb, yc1_ml, yc1_lm, yc2_eq, yc2_eq2, yc2_le, yc2_ge, yc2_lt, yc2_gt, yc2_ad, yc2_da, yc2_sb, yc2_ml, yc2_lm, yc31_ge, ymodn, yI_1sl, yc2_dv, yn1_eq, yn1_lt, xgd_t, xlt_e, Option.bind_some, nI_add, pk_mul, pk_sub, pk_div, pk_rem, yI_and, yI_or, yI_xor, yI_nd, yI_nd2, yI_31, yI_shl, nI_leI, nI_ltI, nI_eq, nI_clamp, xinb_t, yP_z, yP_if]
    rw [show (0 : Int32) = nI 0 from rfl, e]
    congr 2
    exact yP_c ⟨fun g => ⟨fun p hp => absurd hp (Nat.not_lt_zero p), g⟩, fun g => g.2⟩
  | succ k ih =>
    intro hk f hf
    rw [nI_pred]
    have em : nI k + (-1 : Int32) = nI k - 1 := by rw [Int32.sub_eq_add_neg]
    have b0 := yGr_8 hG k
    have b2 := yand_lt (R k) S (n := 8) b0
    have b3 := ypp_le (R k &&& S)
    apply bX12_isRound_144_19_i
    by_cases hb : yb S k
    · by_cases e1 : ypp (R k &&& S) = 2
      · have e := ih (by omega) (nI k) (Or.inr ⟨k, rfl, hb⟩)
        simp (disch := omega) only [yl3, yl4, yl5, yl6, yl7, yl8, yl9, yl10, yl13, yl16, yl20, yl21, yl22, yl23, yl24, yl32, yl40, yl48, yl57, yl59, yl63, yl64, yl97, yl99, yl122, yl255, yl256, yl400, yl1000, yl2000, yl2048, yc0_eq, yc0_eq2, yc0_le, yc0_ge, yc0_lt, yc0_gt, yc0_ad, yc0_da, yc0_sb, yc0_ml, yc0_lm, yc1_eq, yc1_eq2, yc1_le, yc1_ge, yc1_lt, yc1_gt, yc1_ad, yc1_da, yc1_sb, yc1_ml, yc1_lm, yc2_eq, yc2_eq2, yc2_le, yc2_ge, yc2_lt, yc2_gt, yc2_ad, yc2_da, yc2_sb, yc2_ml, yc2_lm, yc31_ge, ymodn, yI_1sl, yc2_dv, yn1_eq, yn1_lt, xgd_t, xlt_e, Option.bind_some, nI_add, pk_mul, pk_sub, pk_div, pk_rem, yI_and, yI_or, yI_xor, yI_nd, yI_nd2, yI_31, yI_shl, nI_leI, nI_ltI, nI_eq, nI_clamp, xinb_t, yP_z, yP_if, if_neg, s_has, yif_t hb, h.2 k (by omega), s_bitsOf b2, if_pos e1]
        rw [em, e]
        refine yPm ?_ m
        constructor
        · rintro ⟨g1, g2⟩
          refine ⟨fun p hp hpS => ?_, g2⟩
          by_cases e : p = k
          · subst e; exact e1
          · exact g1 p (by omega) hpS
        · rintro ⟨g1, g2⟩
          exact ⟨fun p hp => g1 p (by omega), g2⟩
      · simp (disch := omega) only [yl3, yl4, yl5, yl6, yl7, yl8, yl9, yl10, yl13, yl16, yl20, yl21, yl22, yl23, yl24, yl32, yl40, yl48, yl57, yl59, yl63, yl64, yl97, yl99, yl122, yl255, yl256, yl400, yl1000, yl2000, yl2048, yc0_eq, yc0_eq2, yc0_le, yc0_ge, yc0_lt, yc0_gt, yc0_ad, yc0_da, yc0_sb, yc0_ml, yc0_lm, yc1_eq, yc1_eq2, yc1_le, yc1_ge, yc1_lt, yc1_gt, yc1_ad, yc1_da, yc1_sb, yc1_ml, yc1_lm, yc2_eq, yc2_eq2, yc2_le, yc2_ge, yc2_lt, yc2_gt, yc2_ad, yc2_da, yc2_sb, yc2_ml, yc2_lm, yc31_ge, ymodn, yI_1sl, yc2_dv, yn1_eq, yn1_lt, xgd_t, xlt_e, Option.bind_some, nI_add, pk_mul, pk_sub, pk_div, pk_rem, yI_and, yI_or, yI_xor, yI_nd, yI_nd2, yI_31, yI_shl, nI_leI, nI_ltI, nI_eq, nI_clamp, xinb_t, yP_z, yP_if, if_neg, s_has, yif_t hb, h.2 k (by omega), s_bitsOf b2, if_neg e1]
        rw [yP_f (fun g => e1 (g.1 k (Nat.lt_succ_self k) hb))]
    · have e := ih (by omega) f (by
        rcases hf with g | g
        · left
          intro p hp
          have := g p hp
          by_cases e : p = k
          · subst e; exact absurd hp hb
          · omega
        · exact Or.inr g)
      simp (disch := omega) only [yl3, yl4, yl5, yl6, yl7, yl8, yl9, yl10, yl13, yl16, yl20, yl21, yl22, yl23, yl24, yl32, yl40, yl48, yl57, yl59, yl63, yl64, yl97, yl99, yl122, yl255, yl256, yl400, yl1000, yl2000, yl2048, yc0_eq, yc0_eq2, yc0_le, yc0_ge, yc0_lt, yc0_gt, yc0_ad, yc0_da, yc0_sb, yc0_ml, yc0_lm, yc1_eq, yc1_eq2, yc1_le, yc1_ge, yc1_lt, yc1_gt, yc1_ad, yc1_da, yc1_sb, yc1_ml, yc1_lm, yc2_eq, yc2_eq2, yc2_le, yc2_ge, yc2_lt, yc2_gt, yc2_ad, yc2_da, yc2_sb, yc2_ml, yc2_lm, yc31_ge, ymodn, yI_1sl, yc2_dv, yn1_eq, yn1_lt, xgd_t, xlt_e, Option.bind_some, nI_add, pk_mul, pk_sub, pk_div, pk_rem, yI_and, yI_or, yI_xor, yI_nd, yI_nd2, yI_31, yI_shl, nI_leI, nI_ltI, nI_eq, nI_clamp, xinb_t, yP_z, yP_if, if_neg, s_has, yif_f hb]
      rw [em, e]
      refine yPm ?_ m
      constructor
      · rintro ⟨g1, g2⟩
        refine ⟨fun p hp hpS => ?_, g2⟩
        by_cases e : p = k
        · subst e; exact absurd hpS hb
        · exact g1 p (by omega) hpS
      · rintro ⟨g1, g2⟩
        exact ⟨fun p hp => g1 p (by omega), g2⟩
theorem s_mRound {n : Nat} {R : Nat → Nat} (hG : yGr n R) {m : xmm} (h : yMN n R m) {S : Nat} (hS : S < 2 ^ n) : fX12_isRound_144 (nI S) m = some (yP (yrd R S), m) := by
  have hn := hG.1
  have h8 := y2p8 hn
  have b := ypp_le S
  apply fX12_isRound_144_i
  by_cases e4 : 4 ≤ ypp S
  · have h0 : S ≠ 0 := by
      intro e
      subst e
      have : ypp 0 = 0 := yct_0 fun _ _ => yb_0
      omega
    have e := s_mrd_19 hG h hS h0 n (Nat.le_refl n) (-1) (Or.inl fun p hp => ytb_of hS hp)
    rw [s_bitsOf (by omega), Option.bind_some]
    have e5 : (4 : Int32) ≤ nI (ypp S) := (nI_leI (a := 4) (by decide) (by omega)).mpr e4
    dsimp only
    rw [if_pos e5, h.1, e]
    congr 2
    exact yP_c ⟨fun g => ⟨e4, fun p _ hpS => g.1 p (ytb_of hS hpS) hpS, g.2⟩, fun g => ⟨fun p hp hpS => g.2.1 p (by omega) hpS, g.2.2⟩⟩
  · simp (disch := omega) only [yl3, yl4, yl5, yl6, yl7, yl8, yl9, yl10, yl13, yl16, yl20, yl21, yl22, yl23, yl24, yl32, yl40, yl48, yl57, yl59, yl63, yl64, yl97, yl99, yl122, yl255, yl256, yl400, yl1000, yl2000, yl2048, yc0_eq, yc0_eq2, yc0_le, yc0_ge, yc0_lt, yc0_gt, yc0_ad, yc0_da, yc0_sb, yc0_ml, yc0_lm, yc1_eq, yc1_eq2, yc1_le, yc1_ge, yc1_lt, yc1_gt, yc1_ad, yc1_da, yc1_sb, yc1_ml, yc1_lm, yc2_eq, yc2_eq2, yc2_le, yc2_ge, yc2_lt, yc2_gt, yc2_ad, yc2_da, yc2_sb, yc2_ml, yc2_lm, yc31_ge, ymodn, yI_1sl, yc2_dv, yn1_eq, yn1_lt, xgd_t, xlt_e, Option.bind_some, nI_add, pk_mul, pk_sub, pk_div, pk_rem, yI_and, yI_or, yI_xor, yI_nd, yI_nd2, yI_31, yI_shl, nI_leI, nI_ltI, nI_eq, nI_clamp, xinb_t, yP_z, yP_if, s_bitsOf, if_neg]
    rw [yP_f (fun g => e4 g.1)]
/-! such sets -/
def ysuch (n : Nat) (R : Nat → Nat) (w S : Nat) : Prop := if w = 0 then ychn R S else if w = 1 then yap R S else if w = 2 then ymo (yad R) (2 ^ n - 1) S else yrd R S
theorem s_mSuch {n : Nat} {R : Nat → Nat} (hG : yGr n R) {m : xmm} (h : yMN n R m) {S w : Nat} (hS : S < 2 ^ n) (hw : w < 4) : fX12_isSuch_144 (nI S) (nI w) m = some (yP (ysuch n R w S), m) := by
  apply fX12_isSuch_144_i
  unfold ysuch
  have a00 : nI 0 = (0 : Int32) := rfl
  have a10 : ¬ nI 1 = (0 : Int32) := by decide
  have a11 : nI 1 = (1 : Int32) := rfl
  have a20 : ¬ nI 2 = (0 : Int32) := by decide
  have a21 : ¬ nI 2 = (1 : Int32) := by decide
  have a22 : nI 2 = (2 : Int32) := rfl
  have a30 : ¬ nI 3 = (0 : Int32) := by decide
  have a31 : ¬ nI 3 = (1 : Int32) := by decide
  have a32 : ¬ nI 3 = (2 : Int32) := by decide
  have b10 : ¬ (1 : Nat) = 0 := by decide
  have b20 : ¬ (2 : Nat) = 0 := by decide
  have b21 : ¬ (2 : Nat) = 1 := by decide
  have b30 : ¬ (3 : Nat) = 0 := by decide
  have b31 : ¬ (3 : Nat) = 1 := by decide
  have b32 : ¬ (3 : Nat) = 2 := by decide
  rcases (show w = 0 ∨ w = 1 ∨ w = 2 ∨ w = 3 by omega) with e | e | e | e
  · subst e
    rw [if_pos a00, if_pos rfl, s_mChain hG h hS, Option.bind_some, yP_z]; rfl
  · subst e
    rw [if_neg a10, if_pos a11, if_neg b10, if_pos rfl, s_mApart hG h hS, Option.bind_some, yP_z]; rfl
  · subst e
    rw [if_neg a20, if_neg a21, if_pos a22, if_neg b20, if_neg b21, if_pos rfl, s_mAlike hG h hS, Option.bind_some, yP_z]; rfl
  · subst e
    rw [if_neg a30, if_neg a31, if_neg a32, if_neg b30, if_neg b31, if_neg b32, s_mRound hG h hS, Option.bind_some, yP_z]; rfl
theorem s_mMany_l {n : Nat} {R : Nat → Nat} (hG : yGr n R) {m : xmm} (h : yMN n R m) {w : Nat} (hw : w < 4) : ∀ (d k : Nat), k + d = 2 ^ n → 0 < k → bX12_suchMany_144_4 (nI w) (nI (yct (fun S => S ≠ 0 ∧ ysuch n R w S) k)) (nI k) m = some (nI (ycnt (ysuch n R w) n), m) := by
  have hn := hG.1
  have h8 := y2p8 hn
  intro d
  induction d with
  | zero =>
    intro k hk h0
    have e : k = 2 ^ n := by omega
    subst e
    apply bX12_suchMany_144_4_i
    simp (disch := omega) only [yl3, yl4, yl5, yl6, yl7, yl8, yl9, yl10, yl13, yl16, yl20, yl21, yl22, yl23, yl24, yl32, yl40, yl48, yl57, yl59, yl63, yl64, yl97, yl99, yl122, yl255, yl256, yl400, yl1000, yl2000, yl2048, yc0_eq, yc0_eq2, yc0_le, yc0_ge, yc0_lt, yc0_gt, yc0_ad, yc0_da, yc0_sb, yc0_ml, yc0_lm, yc1_eq, yc1_eq2, yc1_le, yc1_ge, yc1_lt, yc1_gt, yc1_ad, yc1_da, yc1_sb, yc1_ml, yc1_lm, yc2_eq, yc2_eq2, yc2_le, yc2_ge, yc2_lt, yc2_gt, yc2_ad, yc2_da, yc2_sb, yc2_ml, yc2_lm, yc31_ge, ymodn, yI_1sl, yc2_dv, yn1_eq, yn1_lt, xgd_t, xlt_e, Option.bind_some, nI_add, pk_mul, pk_sub, pk_div, pk_rem, yI_and, yI_or, yI_xor, yI_nd, yI_nd2, yI_31, yI_shl, nI_leI, nI_ltI, nI_eq, nI_clamp, xinb_t, yP_z, yP_if, h.1, if_pos]
    rfl
  | succ d ih =>
    intro k hk h0
    have e := ih (k + 1) (by omega) (by omega)
    rw [yct_s] at e
    apply bX12_suchMany_144_4_i
    by_cases hs : ysuch n R w k
    · rw [yif_t ⟨by omega, hs⟩] at e
      simp (disch := omega) only [yl3, yl4, yl5, yl6, yl7, yl8, yl9, yl10, yl13, yl16, yl20, yl21, yl22, yl23, yl24, yl32, yl40, yl48, yl57, yl59, yl63, yl64, yl97, yl99, yl122, yl255, yl256, yl400, yl1000, yl2000, yl2048, yc0_eq, yc0_eq2, yc0_le, yc0_ge, yc0_lt, yc0_gt, yc0_ad, yc0_da, yc0_sb, yc0_ml, yc0_lm, yc1_eq, yc1_eq2, yc1_le, yc1_ge, yc1_lt, yc1_gt, yc1_ad, yc1_da, yc1_sb, yc1_ml, yc1_lm, yc2_eq, yc2_eq2, yc2_le, yc2_ge, yc2_lt, yc2_gt, yc2_ad, yc2_da, yc2_sb, yc2_ml, yc2_lm, yc31_ge, ymodn, yI_1sl, yc2_dv, yn1_eq, yn1_lt, xgd_t, xlt_e, Option.bind_some, nI_add, pk_mul, pk_sub, pk_div, pk_rem, yI_and, yI_or, yI_xor, yI_nd, yI_nd2, yI_31, yI_shl, nI_leI, nI_ltI, nI_eq, nI_clamp, xinb_t, yP_z, yP_if, h.1, if_neg, s_mSuch hG h (S := k) (by omega) hw, yif_t hs]
      exact e
    · rw [yif_f (fun g => hs g.2)] at e
      simp (disch := omega) only [yl3, yl4, yl5, yl6, yl7, yl8, yl9, yl10, yl13, yl16, yl20, yl21, yl22, yl23, yl24, yl32, yl40, yl48, yl57, yl59, yl63, yl64, yl97, yl99, yl122, yl255, yl256, yl400, yl1000, yl2000, yl2048, yc0_eq, yc0_eq2, yc0_le, yc0_ge, yc0_lt, yc0_gt, yc0_ad, yc0_da, yc0_sb, yc0_ml, yc0_lm, yc1_eq, yc1_eq2, yc1_le, yc1_ge, yc1_lt, yc1_gt, yc1_ad, yc1_da, yc1_sb, yc1_ml, yc1_lm, yc2_eq, yc2_eq2, yc2_le, yc2_ge, yc2_lt, yc2_gt, yc2_ad, yc2_da, yc2_sb, yc2_ml, yc2_lm, yc31_ge, ymodn, yI_1sl, yc2_dv, yn1_eq, yn1_lt, xgd_t, xlt_e, Option.bind_some, nI_add, pk_mul, pk_sub, pk_div, pk_rem, yI_and, yI_or, yI_xor, yI_nd, yI_nd2, yI_31, yI_shl, nI_leI, nI_ltI, nI_eq, nI_clamp, xinb_t, yP_z, yP_if, h.1, if_neg, s_mSuch hG h (S := k) (by omega) hw, yif_f hs]
      exact e
theorem s_mMany {n : Nat} {R : Nat → Nat} (hG : yGr n R) {m : xmm} (h : yMN n R m) {w : Nat} (hw : w < 4) : fX12_suchMany_144 (nI w) m = some (nI (ycnt (ysuch n R w) n), m) := by
  have h1 := y2p1 n
  apply fX12_suchMany_144_i
  have e := s_mMany_l hG h hw (2 ^ n - 1) 1 (by omega) (by omega)
  have e0 : yct (fun S => S ≠ 0 ∧ ysuch n R w S) 1 = 0 := by
    rw [yct_s, yif_f (fun g => g.1 rfl)]
    rfl
  rw [e0] at e
  exact e
theorem s_mGreat_l {n : Nat} {R : Nat → Nat} (hG : yGr n R) {m : xmm} (h : yMN n R m) {w : Nat} (hw : w < 4) : ∀ (d k : Nat), k + d = 2 ^ n → bX12_greatestSet_144_4 (nI w) (nI (ygs (ysuch n R w) k)) (nI k) m = some (nI (ygs (ysuch n R w) (2 ^ n)), m) := by
  have hn := hG.1
  have h8 := y2p8 hn
  intro d
  induction d with
  | zero =>
    intro k hk
    have e : k = 2 ^ n := by omega
    subst e
    apply bX12_greatestSet_144_4_i
    simp (disch := omega) only [yl3, yl4, yl5, yl6, yl7, yl8, yl9, yl10, yl13, yl16, yl20, yl21, yl22, yl23, yl24, yl32, yl40, yl48, yl57, yl59, yl63, yl64, yl97, yl99, yl122, yl255, yl256, yl400, yl1000, yl2000, yl2048, yc0_eq, yc0_eq2, yc0_le, yc0_ge, yc0_lt, yc0_gt, yc0_ad, yc0_da, yc0_sb, yc0_ml, yc0_lm, yc1_eq, yc1_eq2, yc1_le, yc1_ge, yc1_lt, yc1_gt, yc1_ad, yc1_da, yc1_sb, yc1_ml, yc1_lm, yc2_eq, yc2_eq2, yc2_le, yc2_ge, yc2_lt, yc2_gt, yc2_ad, yc2_da, yc2_sb, yc2_ml, yc2_lm, yc31_ge, ymodn, yI_1sl, yc2_dv, yn1_eq, yn1_lt, xgd_t, xlt_e, Option.bind_some, nI_add, pk_mul, pk_sub, pk_div, pk_rem, yI_and, yI_or, yI_xor, yI_nd, yI_nd2, yI_31, yI_shl, nI_leI, nI_ltI, nI_eq, nI_clamp, xinb_t, yP_z, yP_if, h.1, if_pos]
  | succ d ih =>
    intro k hk
    have e := ih (k + 1) (by omega)
    rw [ygs_s] at e
    have b1 := ygs_lt (ysuch n R w) k
    have b2 := ypp_le k
    have b3 := ypp_le (ygs (ysuch n R w) k)
    have b4 : ygs (ysuch n R w) k < 256 := by omega
    apply bX12_greatestSet_144_4_i
    by_cases hs : ysuch n R w k
    · by_cases hlt : ypp (ygs (ysuch n R w) k) < ypp k
      · rw [yif_t ⟨hs, hlt⟩] at e
        simp (disch := omega) only [yl3, yl4, yl5, yl6, yl7, yl8, yl9, yl10, yl13, yl16, yl20, yl21, yl22, yl23, yl24, yl32, yl40, yl48, yl57, yl59, yl63, yl64, yl97, yl99, yl122, yl255, yl256, yl400, yl1000, yl2000, yl2048, yc0_eq, yc0_eq2, yc0_le, yc0_ge, yc0_lt, yc0_gt, yc0_ad, yc0_da, yc0_sb, yc0_ml, yc0_lm, yc1_eq, yc1_eq2, yc1_le, yc1_ge, yc1_lt, yc1_gt, yc1_ad, yc1_da, yc1_sb, yc1_ml, yc1_lm, yc2_eq, yc2_eq2, yc2_le, yc2_ge, yc2_lt, yc2_gt, yc2_ad, yc2_da, yc2_sb, yc2_ml, yc2_lm, yc31_ge, ymodn, yI_1sl, yc2_dv, yn1_eq, yn1_lt, xgd_t, xlt_e, Option.bind_some, nI_add, pk_mul, pk_sub, pk_div, pk_rem, yI_and, yI_or, yI_xor, yI_nd, yI_nd2, yI_31, yI_shl, nI_leI, nI_ltI, nI_eq, nI_clamp, xinb_t, yP_z, yP_if, h.1, if_neg, s_mSuch hG h (S := k) (by omega) hw, yif_t hs, s_bitsOf (show k < 256 by omega), s_bitsOf b4]
        exact e
      · rw [yif_f (fun g => hlt g.2)] at e
        simp (disch := omega) only [yl3, yl4, yl5, yl6, yl7, yl8, yl9, yl10, yl13, yl16, yl20, yl21, yl22, yl23, yl24, yl32, yl40, yl48, yl57, yl59, yl63, yl64, yl97, yl99, yl122, yl255, yl256, yl400, yl1000, yl2000, yl2048, yc0_eq, yc0_eq2, yc0_le, yc0_ge, yc0_lt, yc0_gt, yc0_ad, yc0_da, yc0_sb, yc0_ml, yc0_lm, yc1_eq, yc1_eq2, yc1_le, yc1_ge, yc1_lt, yc1_gt, yc1_ad, yc1_da, yc1_sb, yc1_ml, yc1_lm, yc2_eq, yc2_eq2, yc2_le, yc2_ge, yc2_lt, yc2_gt, yc2_ad, yc2_da, yc2_sb, yc2_ml, yc2_lm, yc31_ge, ymodn, yI_1sl, yc2_dv, yn1_eq, yn1_lt, xgd_t, xlt_e, Option.bind_some, nI_add, pk_mul, pk_sub, pk_div, pk_rem, yI_and, yI_or, yI_xor, yI_nd, yI_nd2, yI_31, yI_shl, nI_leI, nI_ltI, nI_eq, nI_clamp, xinb_t, yP_z, yP_if, h.1, if_neg, s_mSuch hG h (S := k) (by omega) hw, yif_t hs, s_bitsOf (show k < 256 by omega), s_bitsOf b4, if_pos]
        exact e
    · rw [yif_f (fun g => hs g.1)] at e
      simp (disch := omega) only [yl3, yl4, yl5, yl6, yl7, yl8, yl9, yl10, yl13, yl16, yl20, yl21, yl22, yl23, yl24, yl32, yl40, yl48, yl57, yl59, yl63, yl64, yl97, yl99, yl122, yl255, yl256, yl400, yl1000, yl2000, yl2048, yc0_eq, yc0_eq2, yc0_le, yc0_ge, yc0_lt, yc0_gt, yc0_ad, yc0_da, yc0_sb, yc0_ml, yc0_lm, yc1_eq, yc1_eq2, yc1_le, yc1_ge, yc1_lt, yc1_gt, yc1_ad, yc1_da, yc1_sb, yc1_ml, yc1_lm, yc2_eq, yc2_eq2, yc2_le, yc2_ge, yc2_lt, yc2_gt, yc2_ad, yc2_da, yc2_sb, yc2_ml, yc2_lm, yc31_ge, ymodn, yI_1sl, yc2_dv, yn1_eq, yn1_lt, xgd_t, xlt_e, Option.bind_some, nI_add, pk_mul, pk_sub, pk_div, pk_rem, yI_and, yI_or, yI_xor, yI_nd, yI_nd2, yI_31, yI_shl, nI_leI, nI_ltI, nI_eq, nI_clamp, xinb_t, yP_z, yP_if, h.1, if_neg, s_mSuch hG h (S := k) (by omega) hw, yif_f hs]
      exact e
theorem s_mGreat {n : Nat} {R : Nat → Nat} (hG : yGr n R) {m : xmm} (h : yMN n R m) {w : Nat} (hw : w < 4) : fX12_greatestSet_144 (nI w) m = some (nI (ygs (ysuch n R w) (2 ^ n)), m) := by
  have h1 := y2p1 n
  apply fX12_greatestSet_144_i
  have e := s_mGreat_l hG h hw (2 ^ n - 1) 1 (by omega)
  have e0 : ygs (ysuch n R w) 1 = 0 := by
    rw [ygs_s]
    show yif _ 0 0 = 0
    by_cases g : ysuch n R w 0 ∧ ypp (ygs (ysuch n R w) 0) < ypp 0
    · exact yif_t g
    · exact yif_f g
  rw [e0] at e
  exact e
/-! how far -/
noncomputable def ylk (R : Nat → Nat) (a q : Nat) : Nat := @dite Nat (∃ k, yb (yit R 255 a k) q) (Classical.propDecidable _) (fun h => Classical.choose (yleast h)) (fun _ => 0)
theorem ylk_s {R : Nat → Nat} {a q : Nat} (h : ∃ k, yb (yit R 255 a k) q) : yb (yit R 255 a (ylk R a q)) q ∧ ∀ j, j < ylk R a q → ¬ yb (yit R 255 a j) q := by
  have e : ylk R a q = Classical.choose (yleast h) := by unfold ylk; exact dif_pos h
  rw [e]
  exact Classical.choose_spec (yleast h)
theorem yit_mono {R : Nat → Nat} {S a : Nat} (hS : S < 256) (ha : a < 8) {j k q : Nat} (hjk : j ≤ k) (h : yb (yit R S a j) q) : yb (yit R S a k) q := by
  obtain ⟨d, rfl⟩ := Nat.exists_eq_add_of_le hjk
  exact yit_sub hS ha j q d h
theorem ylk_le {R : Nat → Nat} {a k q : Nat} (h : yb (yit R 255 a k) q) : ylk R a q ≤ k := by
  rcases Nat.lt_or_ge k (ylk R a q) with e | e
  · exact absurd h ((ylk_s ⟨k, h⟩).2 k e)
  · exact e
theorem yit_7 {R : Nat → Nat} {a k q : Nat} (ha : a < 8) (hq : q < 8) (h : yb (yit R 255 a k) q) : yb (yit R 255 a 7) q := by
  rcases Nat.lt_or_ge 7 k with e | e
  · rcases yit_c (R := R) (S := 255) (by decide) ha 7 with hc | hc
    · have e2 := yit_st (by decide) ha hc (k - 7)
      rw [show 7 + (k - 7) = k by omega] at e2
      rw [e2] at h
      exact h
    · have h8 : ypp (yit R 255 a 7) ≤ 8 := yct_le _ 8
      exact ysz_n (n := 8) (show ysz 8 (yit R 255 a 7) = 8 from by show ypp (yit R 255 a 7) = 8; omega) q hq
  · exact yit_mono (by decide) ha e h
/-- fewest lines from a to q -/
noncomputable def yfd (R : Nat → Nat) (a q : Nat) : Int32 := yif (∃ k, yb (yit R 255 a k) q) (nI (ylk R a q)) (-2)
theorem s_far_l {R : Nat → Nat} {m : xmm} (h : yrx 11 R m) {a b : Nat} (ha : a < 8) (hb : b < 8) : ∀ (d k : Nat), k + d = 8 → (∀ j, j < k → ¬ yb (yit R 255 a j) b) → bX11_far_0_31 (nI b) (nI (yit R 255 a k)) (nI k) m = some (yfd R a b, m) := by
  intro d
  induction d with
  | zero =>
    intro k hk hj
    have e : k = 8 := by omega
    subst e
    apply bX11_far_0_31_i
    simp (disch := omega) only [yl3, yl4, yl5, yl6, yl7, yl8, yl9, yl10, yl13, yl16, yl20, yl21, yl22, yl23, yl24, yl32, yl40, yl48, yl57, yl59, yl63, yl64, yl97, yl99, yl122, yl255, yl256, yl400, yl1000, yl2000, yl2048, yc0_eq, yc0_eq2, yc0_le, yc0_ge, yc0_lt, yc0_gt, yc0_ad, yc0_da, yc0_sb, yc0_ml, yc0_lm, yc1_eq, yc1_eq2, yc1_le, yc1_ge, yc1_lt, yc1_gt, yc1_ad, yc1_da, yc1_sb, yc1_ml, yc1_lm, yc2_eq, yc2_eq2, yc2_le, yc2_ge, yc2_lt, yc2_gt, yc2_ad, yc2_da, yc2_sb, yc2_ml, yc2_lm, yc31_ge, ymodn, yI_1sl, yc2_dv, yn1_eq, yn1_lt, xgd_t, xlt_e, Option.bind_some, nI_add, pk_mul, pk_sub, pk_div, pk_rem, yI_and, yI_or, yI_xor, yI_nd, yI_nd2, yI_31, yI_shl, nI_leI, nI_ltI, nI_eq, nI_clamp, xinb_t, yP_z, yP_if, if_pos]
    unfold yfd
    rw [yif_f]
    rintro ⟨k, h1⟩
    exact hj 7 (by decide) (yit_7 ha hb h1)
  | succ d ih =>
    intro k hk hj
    have bk := yit_lt (R := R) (S := 255) (a := a) (by decide) ha k
    have bt := ytc_lt h (yit R 255 a k)
    apply bX11_far_0_31_i
    by_cases hbk : yb (yit R 255 a k) b
    · simp (disch := omega) only [yl3, yl4, yl5, yl6, yl7, yl8, yl9, yl10, yl13, yl16, yl20, yl21, yl22, yl23, yl24, yl32, yl40, yl48, yl57, yl59, yl63, yl64, yl97, yl99, yl122, yl255, yl256, yl400, yl1000, yl2000, yl2048, yc0_eq, yc0_eq2, yc0_le, yc0_ge, yc0_lt, yc0_gt, yc0_ad, yc0_da, yc0_sb, yc0_ml, yc0_lm, yc1_eq, yc1_eq2, yc1_le, yc1_ge, yc1_lt, yc1_gt, yc1_ad, yc1_da, yc1_sb, yc1_ml, yc1_lm, yc2_eq, yc2_eq2, yc2_le, yc2_ge, yc2_lt, yc2_gt, yc2_ad, yc2_da, yc2_sb, yc2_ml, yc2_lm, yc31_ge, ymodn, yI_1sl, yc2_dv, yn1_eq, yn1_lt, xgd_t, xlt_e, Option.bind_some, nI_add, pk_mul, pk_sub, pk_div, pk_rem, yI_and, yI_or, yI_xor, yI_nd, yI_nd2, yI_31, yI_shl, nI_leI, nI_ltI, nI_eq, nI_clamp, xinb_t, yP_z, yP_if, if_neg, s_contains, yif_t hbk]
      unfold yfd
      have e1 := ylk_le hbk
      have e2 : ylk R a b = k := by
        rcases Nat.lt_or_ge (ylk R a b) k with e | e
        · exact absurd (ylk_s ⟨k, hbk⟩).1 (hj _ e)
        · omega
      rw [yif_t ⟨k, hbk⟩, e2]
    · have e := ih (k + 1) (by omega) (fun j hjk => by
        by_cases e : j = k
        · subst e; exact hbk
        · exact hj j (by omega))
      have e1 : ytc R (yit R 255 a k) &&& 255 = ytc R (yit R 255 a k) := Nat.and_two_pow_sub_one_of_lt_two_pow (n := 8) bt
      rw [yit_s, e1] at e
      simp (disch := omega) only [yl3, yl4, yl5, yl6, yl7, yl8, yl9, yl10, yl13, yl16, yl20, yl21, yl22, yl23, yl24, yl32, yl40, yl48, yl57, yl59, yl63, yl64, yl97, yl99, yl122, yl255, yl256, yl400, yl1000, yl2000, yl2048, yc0_eq, yc0_eq2, yc0_le, yc0_ge, yc0_lt, yc0_gt, yc0_ad, yc0_da, yc0_sb, yc0_ml, yc0_lm, yc1_eq, yc1_eq2, yc1_le, yc1_ge, yc1_lt, yc1_gt, yc1_ad, yc1_da, yc1_sb, yc1_ml, yc1_lm, yc2_eq, yc2_eq2, yc2_le, yc2_ge, yc2_lt, yc2_gt, yc2_ad, yc2_da, yc2_sb, yc2_ml, yc2_lm, yc31_ge, ymodn, yI_1sl, yc2_dv, yn1_eq, yn1_lt, xgd_t, xlt_e, Option.bind_some, nI_add, pk_mul, pk_sub, pk_div, pk_rem, yI_and, yI_or, yI_xor, yI_nd, yI_nd2, yI_31, yI_shl, nI_leI, nI_ltI, nI_eq, nI_clamp, xinb_t, yP_z, yP_if, if_neg, s_contains, yif_f hbk, s_touched h bk]
      exact e
/-- what far rows tell in round r: found by the lines that went so far -/
noncomputable def yft (R : Nat → Nat) (a r p k q : Nat) : Prop := yb (yit R 255 a r) q ∨ ∃ w, w < 8 ∧ yb (yit R 255 a r) w ∧ ylk R a w = r ∧ yad R w q ∧ (w < p ∨ (w = p ∧ q < k))
theorem yft_in {R : Nat → Nat} {a r p k q : Nat} (ha : a < 8) (hq : q < 8) (h : yft R a r p k q) : yb (yit R 255 a (r + 1)) q := by
  rcases h with e | ⟨w, w1, w2, w3, w4, _⟩
  · exact yit_mono (by decide) ha (Nat.le_succ r) e
  · exact (yit_b (by decide) ha r q).mpr (Or.inr ⟨y255 q hq, w, w2, w4⟩)
theorem yft_lk {R : Nat → Nat} {a r q : Nat} (h : yb (yit R 255 a (r + 1)) q) (hn : ¬ yb (yit R 255 a r) q) (ha : a < 8) : ylk R a q = r + 1 := by
  have e1 := ylk_le h
  rcases Nat.lt_or_ge (ylk R a q) (r + 1) with e | e
  · exact absurd (yit_mono (by decide) ha (by omega) (ylk_s ⟨_, h⟩).1) hn
  · omega
theorem ylk_64 {n : Nat} {R : Nat → Nat} (hG : yGr n R) {a q : Nat} (ha : a < n) (h : ∃ k, yb (yit R 255 a k) q) : ylk R a q ≤ n := by
  obtain ⟨k, hk⟩ := h
  have hn := hG.1
  have c := (yit_cnn hG (S := 255) (b := q) (by decide) ha).mpr (yit_m (by decide) (by omega) k q hk)
  exact ylk_le c
theorem s_lf_54 {n : Nat} {R : Nat → Nat} (hG : yGr n R) {a r p : Nat} (ha : a < n) (hp : p < n) (hr : r < n) : ∀ (d k : Nat), k + d = n → ∀ (m : xmm), yMN n R m → (∀ q, q < 8 → m.1 171 q = yif (yft R a r p k q) (nI (ylk R a q)) (-2)) → ∃ m', (∀ {z : xmm}, bX12_laysFar_144_43 (nI r) (nI (p + 1)) m' = some z → bX12_laysFar_144_54 (nI r) (nI p) (nI k) m = some z) ∧ (∀ q, q < 8 → m'.1 171 q = yif (yft R a r (p + 1) 0 q) (nI (ylk R a q)) (-2)) ∧ yfr [171] m m' := by
  have hn := hG.1
  have n2 : ¬ (0 : Int32) ≤ -2 := by decide
  have bnd : ∀ q, yft R a r p 8 q → ylk R a q ≤ 8 := by
    intro q hq
    by_cases h8 : q < 8
    · have := ylk_64 hG ha ⟨r + 1, yft_in (by omega) h8 hq⟩
      omega
    · rcases hq with e | ⟨w, _, _, _, w4, _⟩
      · have := ytb_of (n := 8) (yit_lt (R := R) (S := 255) (by decide) (by omega : a < 8) r) e
        omega
      · have := (yGr_n hG w4).2
        omega
  have pin : ∀ k, k ≤ n → (yft R a r p k p ↔ yb (yit R 255 a r) p) ∨ True := fun _ _ => Or.inr trivial
  intro d
  induction d with
  | zero =>
    intro k hk m h hc
    have e : k = n := by omega
    subst e
    refine ⟨m, fun {z} hz => ?_, fun q hq => ?_, yfr_r⟩
    · apply bX12_laysFar_144_54_i
      simp (disch := omega) only [yl3, yl4, yl5, yl6, yl7, yl8, yl9, yl10, yl13, yl16, yl20, yl21, yl22, yl23, yl24, yl32, yl40, yl48, yl57, yl59, yl63, yl64, yl97, yl99, yl122, yl255, yl256, yl400, yl1000, yl2000, yl2048, yc0_eq, yc0_eq2, yc0_le, yc0_ge, yc0_lt, yc0_gt, yc0_ad, yc0_da, yc0_sb, yc0_ml, yc0_lm, yc1_eq, yc1_eq2, yc1_le, yc1_ge, yc1_lt, yc1_gt, yc1_ad, yc1_da, yc1_sb, yc1_ml, yc1_lm, yc2_eq, yc2_eq2, yc2_le, yc2_ge, yc2_lt, yc2_gt, yc2_ad, yc2_da, yc2_sb, yc2_ml, yc2_lm, yc31_ge, ymodn, yI_1sl, yc2_dv, yn1_eq, yn1_lt, xgd_t, xlt_e, Option.bind_some, nI_add, pk_mul, pk_sub, pk_div, pk_rem, yI_and, yI_or, yI_xor, yI_nd, yI_nd2, yI_31, yI_shl, nI_leI, nI_ltI, nI_eq, nI_clamp, xinb_t, yP_z, yP_if, h.1, if_pos]
      exact hz
    · rw [hc q hq]
      apply yif_c
      unfold yft
      constructor
      · rintro (e | ⟨w, w1, w2, w3, w4, w5⟩)
        · exact Or.inl e
        · exact Or.inr ⟨w, w1, w2, w3, w4, Or.inl (by omega)⟩
      · rintro (e | ⟨w, w1, w2, w3, w4, w5⟩)
        · exact Or.inl e
        · have := (yGr_n hG w4).2
          refine Or.inr ⟨w, w1, w2, w3, w4, ?_⟩
          omega
  | succ d ih =>
    intro k hk m h hc
    have hcp := hc p (by omega)
    have hck := hc k (by omega)
    have b0 := yGr_8 hG p
    -- whether p is at r
    have ptest : (m.1 171 p = nI r) ↔ (yb (yit R 255 a r) p ∧ ylk R a p = r) := by
      rw [hcp]
      by_cases hf : yft R a r p k p
      · have hl := ylk_64 hG ha ⟨r + 1, yft_in (by omega) (by omega) hf⟩
        rw [yif_t hf, nI_eq (by omega) (by omega)]
        constructor
        · intro e
          refine ⟨?_, e⟩
          have := (ylk_s ⟨r + 1, yft_in (by omega) (by omega : p < 8) hf⟩).1
          rw [e] at this
          exact this
        · intro e; exact e.2
      · rw [yif_f hf]
        constructor
        · intro e
          have e2 : (-2 : Int32).toInt = -2 := by decide
          have := congrArg Int32.toInt e
          rw [nI_toInt (by omega), e2] at this
          omega
        · intro e; exact absurd (Or.inl e.1) hf
    have step : ∀ (Q : Prop), (Q ↔ (yb (yit R 255 a r) p ∧ ylk R a p = r ∧ yad R p k)) → ∀ q, q < 8 → (yft R a r p (k + 1) q ↔ (yft R a r p k q ∨ (q = k ∧ Q))) := by
      intro Q hQ q hq
      unfold yft
      constructor
      · rintro (e | ⟨w, w1, w2, w3, w4, w5⟩)
        · exact Or.inl (Or.inl e)
        · by_cases e : w = p ∧ q = k
          · obtain ⟨e1, e2⟩ := e
            subst e1; subst e2
            exact Or.inr ⟨rfl, hQ.mpr ⟨w2, w3, w4⟩⟩
          · exact Or.inl (Or.inr ⟨w, w1, w2, w3, w4, by omega⟩)
      · rintro ((e | ⟨w, w1, w2, w3, w4, w5⟩) | ⟨e1, e2⟩)
        · exact Or.inl e
        · exact Or.inr ⟨w, w1, w2, w3, w4, by omega⟩
        · subst e1
          have := hQ.mp e2
          exact Or.inr ⟨p, by omega, this.1, this.2.1, this.2.2, by omega⟩
    by_cases hat : yb (yit R 255 a r) p ∧ ylk R a p = r
    · by_cases hl : yad R p k
      · have st := step True ⟨fun _ => ⟨hat.1, hat.2, hl⟩, fun _ => trivial⟩
        have hl' : yb (R p) k := hl
        by_cases hf : yft R a r p k k
        · have hlk := ylk_64 hG ha ⟨r + 1, yft_in (by omega) (by omega : k < 8) hf⟩
          obtain ⟨m', e1, e2, e3⟩ := ih (k + 1) (by omega) m h (fun q hq => by
            rw [hc q hq]
            apply yif_c
            rw [st q hq]
            exact ⟨Or.inl, fun g => g.elim id fun g => by rw [g.1]; exact hf⟩)
          refine ⟨m', fun {z} hz => ?_, e2, e3⟩
          rw [yif_t hf] at hck
          apply bX12_laysFar_144_54_i
          simp (disch := omega) only [yl3, yl4, yl5, yl6, yl7, yl8, yl9, yl10, yl13, yl16, yl20, yl21, yl22, yl23, yl24, yl32, yl40, yl48, yl57, yl59, yl63, yl64, yl97, yl99, yl122, yl255, yl256, yl400, yl1000, yl2000, yl2048, yc0_eq, yc0_eq2, yc0_le, yc0_ge, yc0_lt, yc0_gt, yc0_ad, yc0_da, yc0_sb, yc0_ml, yc0_lm, yc1_eq, yc1_eq2, yc1_le, yc1_ge, yc1_lt, yc1_gt, yc1_ad, yc1_da, yc1_sb, yc1_ml, yc1_lm, yc2_eq, yc2_eq2, yc2_le, yc2_ge, yc2_lt, yc2_gt, yc2_ad, yc2_da, yc2_sb, yc2_ml, yc2_lm, yc31_ge, ymodn, yI_1sl, yc2_dv, yn1_eq, yn1_lt, xgd_t, xlt_e, Option.bind_some, nI_add, pk_mul, pk_sub, pk_div, pk_rem, yI_and, yI_or, yI_xor, yI_nd, yI_nd2, yI_31, yI_shl, nI_leI, nI_ltI, nI_eq, nI_clamp, xinb_t, yP_z, yP_if, h.1, if_neg, if_pos (ptest.mpr hat), h.2 p (by omega), s_has, yif_t hl', hck, if_pos]
          exact e1 hz
        · have hnk : ¬ yb (yit R 255 a r) k := fun e => hf (Or.inl e)
          have hlk : ylk R a k = r + 1 := yft_lk (yft_in (by omega) (by omega : k < 8) ((st k (by omega)).mpr (Or.inr ⟨rfl, trivial⟩))) hnk (by omega)
          have fr : yfr [171] m (xwi m 171 k (nI (r + 1))) := yfr_w yfr_r (by decide)
          obtain ⟨m', e1, e2, e3⟩ := ih (k + 1) (by omega) (xwi m 171 k (nI (r + 1))) (yMN_r h fr (by decide) (by decide)) (fun q hq => by
            by_cases e : q = k
            · subst e
              rw [xwi_e, yif_t ((st q hq).mpr (Or.inr ⟨rfl, trivial⟩)), hlk]
            · rw [xwi_i e, hc q hq]
              apply yif_c
              rw [st q hq]
              exact ⟨Or.inl, fun g => g.elim id fun g => absurd g.1 e⟩)
          refine ⟨m', fun {z} hz => ?_, e2, yfr_t fr e3⟩
          rw [yif_f hf] at hck
          apply bX12_laysFar_144_54_i
          simp (disch := omega) only [yl3, yl4, yl5, yl6, yl7, yl8, yl9, yl10, yl13, yl16, yl20, yl21, yl22, yl23, yl24, yl32, yl40, yl48, yl57, yl59, yl63, yl64, yl97, yl99, yl122, yl255, yl256, yl400, yl1000, yl2000, yl2048, yc0_eq, yc0_eq2, yc0_le, yc0_ge, yc0_lt, yc0_gt, yc0_ad, yc0_da, yc0_sb, yc0_ml, yc0_lm, yc1_eq, yc1_eq2, yc1_le, yc1_ge, yc1_lt, yc1_gt, yc1_ad, yc1_da, yc1_sb, yc1_ml, yc1_lm, yc2_eq, yc2_eq2, yc2_le, yc2_ge, yc2_lt, yc2_gt, yc2_ad, yc2_da, yc2_sb, yc2_ml, yc2_lm, yc31_ge, ymodn, yI_1sl, yc2_dv, yn1_eq, yn1_lt, xgd_t, xlt_e, Option.bind_some, nI_add, pk_mul, pk_sub, pk_div, pk_rem, yI_and, yI_or, yI_xor, yI_nd, yI_nd2, yI_31, yI_shl, nI_leI, nI_ltI, nI_eq, nI_clamp, xinb_t, yP_z, yP_if, h.1, if_neg, if_pos (ptest.mpr hat), h.2 p (by omega), s_has, yif_t hl', hck, n2, if_false]
          exact e1 hz
      · have st := step False ⟨fun e => e.elim, fun e => hl e.2.2⟩
        have hl' : ¬ yb (R p) k := hl
        obtain ⟨m', e1, e2, e3⟩ := ih (k + 1) (by omega) m h (fun q hq => by
          rw [hc q hq]
          apply yif_c
          rw [st q hq]
          exact ⟨Or.inl, fun g => g.elim id fun g => g.2.elim⟩)
        refine ⟨m', fun {z} hz => ?_, e2, e3⟩
        apply bX12_laysFar_144_54_i
        simp (disch := omega) only [yl3, yl4, yl5, yl6, yl7, yl8, yl9, yl10, yl13, yl16, yl20, yl21, yl22, yl23, yl24, yl32, yl40, yl48, yl57, yl59, yl63, yl64, yl97, yl99, yl122, yl255, yl256, yl400, yl1000, yl2000, yl2048, yc0_eq, yc0_eq2, yc0_le, yc0_ge, yc0_lt, yc0_gt, yc0_ad, yc0_da, yc0_sb, yc0_ml, yc0_lm, yc1_eq, yc1_eq2, yc1_le, yc1_ge, yc1_lt, yc1_gt, yc1_ad, yc1_da, yc1_sb, yc1_ml, yc1_lm, yc2_eq, yc2_eq2, yc2_le, yc2_ge, yc2_lt, yc2_gt, yc2_ad, yc2_da, yc2_sb, yc2_ml, yc2_lm, yc31_ge, ymodn, yI_1sl, yc2_dv, yn1_eq, yn1_lt, xgd_t, xlt_e, Option.bind_some, nI_add, pk_mul, pk_sub, pk_div, pk_rem, yI_and, yI_or, yI_xor, yI_nd, yI_nd2, yI_31, yI_shl, nI_leI, nI_ltI, nI_eq, nI_clamp, xinb_t, yP_z, yP_if, h.1, if_neg, if_pos (ptest.mpr hat), h.2 p (by omega), s_has, yif_f hl']
        exact e1 hz
    · have st := step False ⟨fun e => e.elim, fun e => hat ⟨e.1, e.2.1⟩⟩
      obtain ⟨m', e1, e2, e3⟩ := ih (k + 1) (by omega) m h (fun q hq => by
        rw [hc q hq]
        apply yif_c
        rw [st q hq]
        exact ⟨Or.inl, fun g => g.elim id fun g => g.2.elim⟩)
      refine ⟨m', fun {z} hz => ?_, e2, e3⟩
      apply bX12_laysFar_144_54_i
      simp (disch := omega) only [yl3, yl4, yl5, yl6, yl7, yl8, yl9, yl10, yl13, yl16, yl20, yl21, yl22, yl23, yl24, yl32, yl40, yl48, yl57, yl59, yl63, yl64, yl97, yl99, yl122, yl255, yl256, yl400, yl1000, yl2000, yl2048, yc0_eq, yc0_eq2, yc0_le, yc0_ge, yc0_lt, yc0_gt, yc0_ad, yc0_da, yc0_sb, yc0_ml, yc0_lm, yc1_eq, yc1_eq2, yc1_le, yc1_ge, yc1_lt, yc1_gt, yc1_ad, yc1_da, yc1_sb, yc1_ml, yc1_lm, yc2_eq, yc2_eq2, yc2_le, yc2_ge, yc2_lt, yc2_gt, yc2_ad, yc2_da, yc2_sb, yc2_ml, yc2_lm, yc31_ge, ymodn, yI_1sl, yc2_dv, yn1_eq, yn1_lt, xgd_t, xlt_e, Option.bind_some, nI_add, pk_mul, pk_sub, pk_div, pk_rem, yI_and, yI_or, yI_xor, yI_nd, yI_nd2, yI_31, yI_shl, nI_leI, nI_ltI, nI_eq, nI_clamp, xinb_t, yP_z, yP_if, h.1, if_neg, if_neg (fun e => hat (ptest.mp e))]
      exact e1 hz
theorem s_lf_43 {n : Nat} {R : Nat → Nat} (hG : yGr n R) {a r : Nat} (ha : a < n) (hr : r < n) : ∀ (d p : Nat), p + d = n → ∀ (m : xmm), yMN n R m → (∀ q, q < 8 → m.1 171 q = yif (yft R a r p 0 q) (nI (ylk R a q)) (-2)) → ∃ m', (∀ {z : xmm}, bX12_laysFar_144_33 (nI (r + 1)) m' = some z → bX12_laysFar_144_43 (nI r) (nI p) m = some z) ∧ (∀ q, q < 8 → m'.1 171 q = yif (yb (yit R 255 a (r + 1)) q) (nI (ylk R a q)) (-2)) ∧ yfr [171] m m' := by
  have hn := hG.1
  intro d
  induction d with
  | zero =>
    intro p hp m h hc
    have e : p = n := by omega
    subst e
    refine ⟨m, fun {z} hz => ?_, fun q hq => ?_, yfr_r⟩
    · apply bX12_laysFar_144_43_i
      simp (disch := omega) only [yl3, yl4, yl5, yl6, yl7, yl8, yl9, yl10, yl13, yl16, yl20, yl21, yl22, yl23, yl24, yl32, yl40, yl48, yl57, yl59, yl63, yl64, yl97, yl99, yl122, yl255, yl256, yl400, yl1000, yl2000, yl2048, yc0_eq, yc0_eq2, yc0_le, yc0_ge, yc0_lt, yc0_gt, yc0_ad, yc0_da, yc0_sb, yc0_ml, yc0_lm, yc1_eq, yc1_eq2, yc1_le, yc1_ge, yc1_lt, yc1_gt, yc1_ad, yc1_da, yc1_sb, yc1_ml, yc1_lm, yc2_eq, yc2_eq2, yc2_le, yc2_ge, yc2_lt, yc2_gt, yc2_ad, yc2_da, yc2_sb, yc2_ml, yc2_lm, yc31_ge, ymodn, yI_1sl, yc2_dv, yn1_eq, yn1_lt, xgd_t, xlt_e, Option.bind_some, nI_add, pk_mul, pk_sub, pk_div, pk_rem, yI_and, yI_or, yI_xor, yI_nd, yI_nd2, yI_31, yI_shl, nI_leI, nI_ltI, nI_eq, nI_clamp, xinb_t, yP_z, yP_if, h.1, if_pos]
      exact hz
    · rw [hc q hq]
      apply yif_c
      constructor
      · exact yft_in (by omega) hq
      · intro e
        rcases (yit_b (by decide) (by omega : a < 8) r q).mp e with e | ⟨_, w, w1, w2⟩
        · exact Or.inl e
        · have hw := yGr_n hG w2
          by_cases e3 : ylk R a w = r
          · exact Or.inr ⟨w, by omega, w1, e3, w2, Or.inl hw.1⟩
          · left
            have e4 := ylk_le w1
            have e5 := (ylk_s ⟨r, w1⟩).1
            have : yb (yit R 255 a (ylk R a w + 1)) q := (yit_b (by decide) (by omega) _ q).mpr (Or.inr ⟨y255 q hq, w, e5, w2⟩)
            exact yit_mono (by decide) (by omega) (by omega) this
  | succ d ih =>
    intro p hp m h hc
    obtain ⟨m1, a1, a2, a3⟩ := s_lf_54 hG ha (p := p) (by omega) hr n 0 (by omega) m h hc
    obtain ⟨m', e1, e2, e3⟩ := ih (p + 1) (by omega) m1 (yMN_r h a3 (by decide) (by decide)) a2
    refine ⟨m', fun {z} hz => ?_, e2, yfr_t a3 e3⟩
    apply bX12_laysFar_144_43_i
    simp (disch := omega) only [yl3, yl4, yl5, yl6, yl7, yl8, yl9, yl10, yl13, yl16, yl20, yl21, yl22, yl23, yl24, yl32, yl40, yl48, yl57, yl59, yl63, yl64, yl97, yl99, yl122, yl255, yl256, yl400, yl1000, yl2000, yl2048, yc0_eq, yc0_eq2, yc0_le, yc0_ge, yc0_lt, yc0_gt, yc0_ad, yc0_da, yc0_sb, yc0_ml, yc0_lm, yc1_eq, yc1_eq2, yc1_le, yc1_ge, yc1_lt, yc1_gt, yc1_ad, yc1_da, yc1_sb, yc1_ml, yc1_lm, yc2_eq, yc2_eq2, yc2_le, yc2_ge, yc2_lt, yc2_gt, yc2_ad, yc2_da, yc2_sb, yc2_ml, yc2_lm, yc31_ge, ymodn, yI_1sl, yc2_dv, yn1_eq, yn1_lt, xgd_t, xlt_e, Option.bind_some, nI_add, pk_mul, pk_sub, pk_div, pk_rem, yI_and, yI_or, yI_xor, yI_nd, yI_nd2, yI_31, yI_shl, nI_leI, nI_ltI, nI_eq, nI_clamp, xinb_t, yP_z, yP_if, h.1, if_neg]
    exact a1 (e1 hz)
theorem s_lf_33 {n : Nat} {R : Nat → Nat} (hG : yGr n R) {a : Nat} (ha : a < n) : ∀ (d r : Nat), r + d = n → ∀ (m : xmm), yMN n R m → (∀ q, q < 8 → m.1 171 q = yif (yb (yit R 255 a r) q) (nI (ylk R a q)) (-2)) → ∃ m', bX12_laysFar_144_33 (nI r) m = some m' ∧ (∀ q, q < 8 → m'.1 171 q = yfd R a q) ∧ yfr [171] m m' := by
  have hn := hG.1
  intro d
  induction d with
  | zero =>
    intro r hr m h hc
    have e : r = n := by omega
    subst e
    refine ⟨m, ?_, fun q hq => ?_, yfr_r⟩
    · apply bX12_laysFar_144_33_i
      simp (disch := omega) only [yl3, yl4, yl5, yl6, yl7, yl8, yl9, yl10, yl13, yl16, yl20, yl21, yl22, yl23, yl24, yl32, yl40, yl48, yl57, yl59, yl63, yl64, yl97, yl99, yl122, yl255, yl256, yl400, yl1000, yl2000, yl2048, yc0_eq, yc0_eq2, yc0_le, yc0_ge, yc0_lt, yc0_gt, yc0_ad, yc0_da, yc0_sb, yc0_ml, yc0_lm, yc1_eq, yc1_eq2, yc1_le, yc1_ge, yc1_lt, yc1_gt, yc1_ad, yc1_da, yc1_sb, yc1_ml, yc1_lm, yc2_eq, yc2_eq2, yc2_le, yc2_ge, yc2_lt, yc2_gt, yc2_ad, yc2_da, yc2_sb, yc2_ml, yc2_lm, yc31_ge, ymodn, yI_1sl, yc2_dv, yn1_eq, yn1_lt, xgd_t, xlt_e, Option.bind_some, nI_add, pk_mul, pk_sub, pk_div, pk_rem, yI_and, yI_or, yI_xor, yI_nd, yI_nd2, yI_31, yI_shl, nI_leI, nI_ltI, nI_eq, nI_clamp, xinb_t, yP_z, yP_if, h.1, if_pos]
    · rw [hc q hq]
      unfold yfd
      apply yif_c
      constructor
      · intro e; exact ⟨r, e⟩
      · rintro ⟨k, hk⟩
        exact (yit_cnn hG (by decide) ha).mpr (yit_m (by decide) (by omega) k q hk)
  | succ d ih =>
    intro r hr m h hc
    obtain ⟨m1, a1, a2, a3⟩ := s_lf_43 hG ha (r := r) (by omega) n 0 (by omega) m h (fun q hq => by
      rw [hc q hq]
      apply yif_c
      unfold yft
      constructor
      · exact Or.inl
      · rintro (e | ⟨w, _, _, _, _, w5⟩)
        · exact e
        · omega)
    obtain ⟨m', e1, e2, e3⟩ := ih (r + 1) (by omega) m1 (yMN_r h a3 (by decide) (by decide)) a2
    refine ⟨m', ?_, e2, yfr_t a3 e3⟩
    apply bX12_laysFar_144_33_i
    simp (disch := omega) only [yl3, yl4, yl5, yl6, yl7, yl8, yl9, yl10, yl13, yl16, yl20, yl21, yl22, yl23, yl24, yl32, yl40, yl48, yl57, yl59, yl63, yl64, yl97, yl99, yl122, yl255, yl256, yl400, yl1000, yl2000, yl2048, yc0_eq, yc0_eq2, yc0_le, yc0_ge, yc0_lt, yc0_gt, yc0_ad, yc0_da, yc0_sb, yc0_ml, yc0_lm, yc1_eq, yc1_eq2, yc1_le, yc1_ge, yc1_lt, yc1_gt, yc1_ad, yc1_da, yc1_sb, yc1_ml, yc1_lm, yc2_eq, yc2_eq2, yc2_le, yc2_ge, yc2_lt, yc2_gt, yc2_ad, yc2_da, yc2_sb, yc2_ml, yc2_lm, yc31_ge, ymodn, yI_1sl, yc2_dv, yn1_eq, yn1_lt, xgd_t, xlt_e, Option.bind_some, nI_add, pk_mul, pk_sub, pk_div, pk_rem, yI_and, yI_or, yI_xor, yI_nd, yI_nd2, yI_31, yI_shl, nI_leI, nI_ltI, nI_eq, nI_clamp, xinb_t, yP_z, yP_if, h.1, if_neg]
    exact a1 e1
theorem s_lf_2 {R : Nat → Nat} {n a : Nat} (ha : a < 8) : ∀ (d k : Nat), k + d = 8 → ∀ (m : xmm), yMN n R m → (∀ q, q < k → m.1 171 q = yif (yb (yit R 255 a 0) q) (nI (ylk R a q)) (-2)) → ∃ m', (∀ {z : xmm}, bX12_laysFar_144_33 0 m' = some z → bX12_laysFar_144_2 (nI a) (nI k) m = some z) ∧ (∀ q, q < 8 → m'.1 171 q = yif (yb (yit R 255 a 0) q) (nI (ylk R a q)) (-2)) ∧ yfr [171] m m' := by
  intro d
  induction d with
  | zero =>
    intro k hk m h hc
    have e : k = 8 := by omega
    subst e
    refine ⟨m, fun {z} hz => ?_, hc, yfr_r⟩
    apply bX12_laysFar_144_2_i
    simp (disch := omega) only [yl3, yl4, yl5, yl6, yl7, yl8, yl9, yl10, yl13, yl16, yl20, yl21, yl22, yl23, yl24, yl32, yl40, yl48, yl57, yl59, yl63, yl64, yl97, yl99, yl122, yl255, yl256, yl400, yl1000, yl2000, yl2048, yc0_eq, yc0_eq2, yc0_le, yc0_ge, yc0_lt, yc0_gt, yc0_ad, yc0_da, yc0_sb, yc0_ml, yc0_lm, yc1_eq, yc1_eq2, yc1_le, yc1_ge, yc1_lt, yc1_gt, yc1_ad, yc1_da, yc1_sb, yc1_ml, yc1_lm, yc2_eq, yc2_eq2, yc2_le, yc2_ge, yc2_lt, yc2_gt, yc2_ad, yc2_da, yc2_sb, yc2_ml, yc2_lm, yc31_ge, ymodn, yI_1sl, yc2_dv, yn1_eq, yn1_lt, xgd_t, xlt_e, Option.bind_some, nI_add, pk_mul, pk_sub, pk_div, pk_rem, yI_and, yI_or, yI_xor, yI_nd, yI_nd2, yI_31, yI_shl, nI_leI, nI_ltI, nI_eq, nI_clamp, xinb_t, yP_z, yP_if, if_pos]
    exact hz
  | succ d ih =>
    intro k hk m h hc
    have hb0 : yb (yit R 255 a 0) k ↔ k = a := yb_pw
    by_cases e : k = a
    · have hlk : ylk R a k = 0 := by
        have := ylk_le (hb0.mpr e)
        omega
      have fr : yfr [171] m (xwi m 171 k 0) := yfr_w yfr_r (by decide)
      obtain ⟨m', e1, e2, e3⟩ := ih (k + 1) (by omega) (xwi m 171 k 0) (yMN_r h fr (by decide) (by decide)) (fun q hq => by
        by_cases e2 : q = k
        · subst e2
          rw [xwi_e, yif_t (hb0.mpr e), hlk]; rfl
        · rw [xwi_i e2]; exact hc q (by omega))
      refine ⟨m', fun {z} hz => ?_, e2, yfr_t fr e3⟩
      apply bX12_laysFar_144_2_i
      simp (disch := omega) only [yl3, yl4, yl5, yl6, yl7, yl8, yl9, yl10, yl13, yl16, yl20, yl21, yl22, yl23, yl24, yl32, yl40, yl48, yl57, yl59, yl63, yl64, yl97, yl99, yl122, yl255, yl256, yl400, yl1000, yl2000, yl2048, yc0_eq, yc0_eq2, yc0_le, yc0_ge, yc0_lt, yc0_gt, yc0_ad, yc0_da, yc0_sb, yc0_ml, yc0_lm, yc1_eq, yc1_eq2, yc1_le, yc1_ge, yc1_lt, yc1_gt, yc1_ad, yc1_da, yc1_sb, yc1_ml, yc1_lm, yc2_eq, yc2_eq2, yc2_le, yc2_ge, yc2_lt, yc2_gt, yc2_ad, yc2_da, yc2_sb, yc2_ml, yc2_lm, yc31_ge, ymodn, yI_1sl, yc2_dv, yn1_eq, yn1_lt, xgd_t, xlt_e, Option.bind_some, nI_add, pk_mul, pk_sub, pk_div, pk_rem, yI_and, yI_or, yI_xor, yI_nd, yI_nd2, yI_31, yI_shl, nI_leI, nI_ltI, nI_eq, nI_clamp, xinb_t, yP_z, yP_if, if_neg, if_pos]
      exact e1 hz
    · have fr : yfr [171] m (xwi m 171 k (-2)) := yfr_w yfr_r (by decide)
      obtain ⟨m', e1, e2, e3⟩ := ih (k + 1) (by omega) (xwi m 171 k (-2)) (yMN_r h fr (by decide) (by decide)) (fun q hq => by
        by_cases e2 : q = k
        · subst e2
          rw [xwi_e, yif_f (fun g => e (hb0.mp g))]
        · rw [xwi_i e2]; exact hc q (by omega))
      refine ⟨m', fun {z} hz => ?_, e2, yfr_t fr e3⟩
      apply bX12_laysFar_144_2_i
      simp (disch := omega) only [yl3, yl4, yl5, yl6, yl7, yl8, yl9, yl10, yl13, yl16, yl20, yl21, yl22, yl23, yl24, yl32, yl40, yl48, yl57, yl59, yl63, yl64, yl97, yl99, yl122, yl255, yl256, yl400, yl1000, yl2000, yl2048, yc0_eq, yc0_eq2, yc0_le, yc0_ge, yc0_lt, yc0_gt, yc0_ad, yc0_da, yc0_sb, yc0_ml, yc0_lm, yc1_eq, yc1_eq2, yc1_le, yc1_ge, yc1_lt, yc1_gt, yc1_ad, yc1_da, yc1_sb, yc1_ml, yc1_lm, yc2_eq, yc2_eq2, yc2_le, yc2_ge, yc2_lt, yc2_gt, yc2_ad, yc2_da, yc2_sb, yc2_ml, yc2_lm, yc31_ge, ymodn, yI_1sl, yc2_dv, yn1_eq, yn1_lt, xgd_t, xlt_e, Option.bind_some, nI_add, pk_mul, pk_sub, pk_div, pk_rem, yI_and, yI_or, yI_xor, yI_nd, yI_nd2, yI_31, yI_shl, nI_leI, nI_ltI, nI_eq, nI_clamp, xinb_t, yP_z, yP_if, if_neg]
      exact e1 hz
theorem s_laysFar {n : Nat} {R : Nat → Nat} (hG : yGr n R) {a : Nat} (ha : a < n) {m : xmm} (h : yMN n R m) : ∃ m', fX12_laysFar_144 (nI a) m = some m' ∧ (∀ q, q < 8 → m'.1 171 q = yfd R a q) ∧ yfr [171] m m' := by
  have hn := hG.1
  obtain ⟨m1, a1, a2, a3⟩ := s_lf_2 (R := R) (n := n) (a := a) (by omega) 8 0 rfl m h (fun q hq => absurd hq (Nat.not_lt_zero q))
  obtain ⟨m', e1, e2, e3⟩ := s_lf_33 hG ha n 0 (by omega) m1 (yMN_r h a3 (by decide) (by decide)) a2
  refine ⟨m', ?_, e2, yfr_t a3 e3⟩
  apply fX12_laysFar_144_i
  exact a1 e1
/-! parts -/
theorem yfd_neg {n : Nat} {R : Nat → Nat} (hG : yGr n R) {a q : Nat} (ha : a < n) : (0 : Int32) ≤ yfd R a q ↔ ycn (yad R) 255 a q := by
  have hn := hG.1
  have hex : (∃ k, yb (yit R 255 a k) q) ↔ ycn (yad R) 255 a q := ⟨fun ⟨k, hk⟩ => yit_m (by decide) (by omega) k q hk, fun h => ⟨n, (yit_cnn hG (by decide) ha).mpr h⟩⟩
  unfold yfd
  by_cases h : ∃ k, yb (yit R 255 a k) q
  · have := ylk_64 hG ha h
    rw [yif_t h]
    exact ⟨fun _ => hex.mp h, fun _ => nI_pos' (by omega)⟩
  · rw [yif_f h]
    exact ⟨fun e => absurd e (by decide), fun e => absurd (hex.mpr e) h⟩
theorem ycn_all {n : Nat} {R : Nat → Nat} (hG : yGr n R) {a b : Nat} : ycn (yad R) 255 a b ↔ ycn (yad R) (2 ^ n - 1) a b := by
  have hn := hG.1
  constructor
  · intro h X h1 h2
    exact h X h1 fun u v hu huv _ => h2 u v hu huv (yall_b.mpr (yGr_n hG huv).2)
  · intro h X h1 h2
    exact h X h1 fun u v hu huv hv => h2 u v hu huv (by
      have h3 := yall_b.mp hv
      have : ∀ q, q < 8 → yb 255 q := by decide
      exact this v (by omega))
theorem s_pm_22 {n : Nat} {R : Nat → Nat} (hG : yGr n R) {m : xmm} {p c : Nat} (hp : p < n) (hf : ∀ q, q < 8 → m.1 171 q = yfd R p q) : ∀ (d q : Nat), q + d = p → ∀ {z : Int32 × xmm}, bX12_partMany_144_4 (nI (c + yif (∀ w, w < p → ¬ ycn (yad R) 255 p w) 1 0)) (nI (p + 1)) m = some z → bX12_partMany_144_22 (nI c) (nI p) (yP (∀ w, w < q → ¬ ycn (yad R) 255 p w)) (nI q) m = some z := by
  have hn := hG.1
  intro d
  induction d with
  | zero =>
    intro q hq z hz
    have e : q = p := by omega
    subst e
    apply bX12_partMany_144_22_i
    by_cases h : ∀ w, w < q → ¬ ycn (yad R) 255 q w
    · rw [yif_t h] at hz
      rw [yP_t h]
      have n1 : ¬ (1 : Int32) = 0 := by decide
      simp (disch := omega) only [yl3, yl4, yl5, yl6, yl7, yl8, yl9, yl10, yl13, yl16, yl20, yl21, yl22, yl23, yl24, yl32, yl40, yl48, yl57, yl59, yl63, yl64, yl97, yl99, yl122, yl255, yl256, yl400, yl1000, yl2000, yl2048, yc0_eq, yc0_eq2, yc0_le, yc0_ge, yc0_lt, yc0_gt, yc0_ad, yc0_da, yc0_sb, yc0_ml, yc0_lm, yc1_eq, yc1_eq2, yc1_le, yc1_ge, yc1_lt, yc1_gt, yc1_ad, yc1_da, yc1_sb, yc1_ml, yc1_lm, yc2_eq, yc2_eq2, yc2_le, yc2_ge, yc2_lt, yc2_gt, yc2_ad, yc2_da, yc2_sb, yc2_ml, yc2_lm, yc31_ge, ymodn, yI_1sl, yc2_dv, yn1_eq, yn1_lt, xgd_t, xlt_e, Option.bind_some, nI_add, pk_mul, pk_sub, pk_div, pk_rem, yI_and, yI_or, yI_xor, yI_nd, yI_nd2, yI_31, yI_shl, nI_leI, nI_ltI, nI_eq, nI_clamp, xinb_t, yP_z, yP_if, if_pos, n1, if_false]
      exact hz
    · rw [yif_f h] at hz
      rw [yP_f h]
      simp (disch := omega) only [yl3, yl4, yl5, yl6, yl7, yl8, yl9, yl10, yl13, yl16, yl20, yl21, yl22, yl23, yl24, yl32, yl40, yl48, yl57, yl59, yl63, yl64, yl97, yl99, yl122, yl255, yl256, yl400, yl1000, yl2000, yl2048, yc0_eq, yc0_eq2, yc0_le, yc0_ge, yc0_lt, yc0_gt, yc0_ad, yc0_da, yc0_sb, yc0_ml, yc0_lm, yc1_eq, yc1_eq2, yc1_le, yc1_ge, yc1_lt, yc1_gt, yc1_ad, yc1_da, yc1_sb, yc1_ml, yc1_lm, yc2_eq, yc2_eq2, yc2_le, yc2_ge, yc2_lt, yc2_gt, yc2_ad, yc2_da, yc2_sb, yc2_ml, yc2_lm, yc31_ge, ymodn, yI_1sl, yc2_dv, yn1_eq, yn1_lt, xgd_t, xlt_e, Option.bind_some, nI_add, pk_mul, pk_sub, pk_div, pk_rem, yI_and, yI_or, yI_xor, yI_nd, yI_nd2, yI_31, yI_shl, nI_leI, nI_ltI, nI_eq, nI_clamp, xinb_t, yP_z, yP_if, if_pos, if_true]
      exact hz
  | succ d ih =>
    intro q hq z hz
    have e := ih (q + 1) (by omega) hz
    have hq8 := hf q (by omega)
    apply bX12_partMany_144_22_i
    by_cases h : ∀ w, w < q → ¬ ycn (yad R) 255 p w
    · rw [yP_t h]
      have n1 : ¬ (1 : Int32) = 0 := by decide
      by_cases hc : ycn (yad R) 255 p q
      · have h0 := (yfd_neg hG hp).mpr hc
        rw [yP_f (fun g => g q (Nat.lt_succ_self q) hc)] at e
        simp (disch := omega) only [yl3, yl4, yl5, yl6, yl7, yl8, yl9, yl10, yl13, yl16, yl20, yl21, yl22, yl23, yl24, yl32, yl40, yl48, yl57, yl59, yl63, yl64, yl97, yl99, yl122, yl255, yl256, yl400, yl1000, yl2000, yl2048, yc0_eq, yc0_eq2, yc0_le, yc0_ge, yc0_lt, yc0_gt, yc0_ad, yc0_da, yc0_sb, yc0_ml, yc0_lm, yc1_eq, yc1_eq2, yc1_le, yc1_ge, yc1_lt, yc1_gt, yc1_ad, yc1_da, yc1_sb, yc1_ml, yc1_lm, yc2_eq, yc2_eq2, yc2_le, yc2_ge, yc2_lt, yc2_gt, yc2_ad, yc2_da, yc2_sb, yc2_ml, yc2_lm, yc31_ge, ymodn, yI_1sl, yc2_dv, yn1_eq, yn1_lt, xgd_t, xlt_e, Option.bind_some, nI_add, pk_mul, pk_sub, pk_div, pk_rem, yI_and, yI_or, yI_xor, yI_nd, yI_nd2, yI_31, yI_shl, nI_leI, nI_ltI, nI_eq, nI_clamp, xinb_t, yP_z, yP_if, if_neg, n1, if_false, hq8, if_pos h0]
        exact e
      · have h0 : ¬ (0 : Int32) ≤ yfd R p q := fun g => hc ((yfd_neg hG hp).mp g)
        rw [yP_t (fun w hw => by
          by_cases e : w = q
          · subst e; exact hc
          · exact h w (by omega))] at e
        simp (disch := omega) only [yl3, yl4, yl5, yl6, yl7, yl8, yl9, yl10, yl13, yl16, yl20, yl21, yl22, yl23, yl24, yl32, yl40, yl48, yl57, yl59, yl63, yl64, yl97, yl99, yl122, yl255, yl256, yl400, yl1000, yl2000, yl2048, yc0_eq, yc0_eq2, yc0_le, yc0_ge, yc0_lt, yc0_gt, yc0_ad, yc0_da, yc0_sb, yc0_ml, yc0_lm, yc1_eq, yc1_eq2, yc1_le, yc1_ge, yc1_lt, yc1_gt, yc1_ad, yc1_da, yc1_sb, yc1_ml, yc1_lm, yc2_eq, yc2_eq2, yc2_le, yc2_ge, yc2_lt, yc2_gt, yc2_ad, yc2_da, yc2_sb, yc2_ml, yc2_lm, yc31_ge, ymodn, yI_1sl, yc2_dv, yn1_eq, yn1_lt, xgd_t, xlt_e, Option.bind_some, nI_add, pk_mul, pk_sub, pk_div, pk_rem, yI_and, yI_or, yI_xor, yI_nd, yI_nd2, yI_31, yI_shl, nI_leI, nI_ltI, nI_eq, nI_clamp, xinb_t, yP_z, yP_if, if_neg, n1, if_false, hq8, if_neg h0]
        exact e
    · rw [yP_f h]
      rw [yP_f (fun g => h fun w hw => g w (by omega))] at e
      simp (disch := omega) only [yl3, yl4, yl5, yl6, yl7, yl8, yl9, yl10, yl13, yl16, yl20, yl21, yl22, yl23, yl24, yl32, yl40, yl48, yl57, yl59, yl63, yl64, yl97, yl99, yl122, yl255, yl256, yl400, yl1000, yl2000, yl2048, yc0_eq, yc0_eq2, yc0_le, yc0_ge, yc0_lt, yc0_gt, yc0_ad, yc0_da, yc0_sb, yc0_ml, yc0_lm, yc1_eq, yc1_eq2, yc1_le, yc1_ge, yc1_lt, yc1_gt, yc1_ad, yc1_da, yc1_sb, yc1_ml, yc1_lm, yc2_eq, yc2_eq2, yc2_le, yc2_ge, yc2_lt, yc2_gt, yc2_ad, yc2_da, yc2_sb, yc2_ml, yc2_lm, yc31_ge, ymodn, yI_1sl, yc2_dv, yn1_eq, yn1_lt, xgd_t, xlt_e, Option.bind_some, nI_add, pk_mul, pk_sub, pk_div, pk_rem, yI_and, yI_or, yI_xor, yI_nd, yI_nd2, yI_31, yI_shl, nI_leI, nI_ltI, nI_eq, nI_clamp, xinb_t, yP_z, yP_if, if_neg, if_true]
      exact e
theorem s_pm_4 {n : Nat} {R : Nat → Nat} (hG : yGr n R) : ∀ (d p : Nat), p + d = n → ∀ (m : xmm), yMN n R m → ∃ m', bX12_partMany_144_4 (nI (yct (fun p => ∀ w, w < p → ¬ ycn (yad R) 255 p w) p)) (nI p) m = some (nI (yct (fun p => ∀ w, w < p → ¬ ycn (yad R) 255 p w) n), m') ∧ yfr [171] m m' := by
  have hn := hG.1
  intro d
  induction d with
  | zero =>
    intro p hp m h
    have e : p = n := by omega
    subst e
    refine ⟨m, ?_, yfr_r⟩
    apply bX12_partMany_144_4_i
    simp (disch := omega) only [yl3, yl4, yl5, yl6, yl7, yl8, yl9, yl10, yl13, yl16, yl20, yl21, yl22, yl23, yl24, yl32, yl40, yl48, yl57, yl59, yl63, yl64, yl97, yl99, yl122, yl255, yl256, yl400, yl1000, yl2000, yl2048, yc0_eq, yc0_eq2, yc0_le, yc0_ge, yc0_lt, yc0_gt, yc0_ad, yc0_da, yc0_sb, yc0_ml, yc0_lm, yc1_eq, yc1_eq2, yc1_le, yc1_ge, yc1_lt, yc1_gt, yc1_ad, yc1_da, yc1_sb, yc1_ml, yc1_lm, yc2_eq, yc2_eq2, yc2_le, yc2_ge, yc2_lt, yc2_gt, yc2_ad, yc2_da, yc2_sb, yc2_ml, yc2_lm, yc31_ge, ymodn, yI_1sl, yc2_dv, yn1_eq, yn1_lt, xgd_t, xlt_e, Option.bind_some, nI_add, pk_mul, pk_sub, pk_div, pk_rem, yI_and, yI_or, yI_xor, yI_nd, yI_nd2, yI_31, yI_shl, nI_leI, nI_ltI, nI_eq, nI_clamp, xinb_t, yP_z, yP_if, h.1, if_pos]
  | succ d ih =>
    intro p hp m h
    obtain ⟨m1, a1, a2, a3⟩ := s_laysFar hG (a := p) (by omega) h
    obtain ⟨m', e1, e2⟩ := ih (p + 1) (by omega) m1 (yMN_r h a3 (by decide) (by decide))
    refine ⟨m', ?_, yfr_t a3 e2⟩
    rw [yct_s] at e1
    have e := s_pm_22 hG (c := yct (fun p => ∀ w, w < p → ¬ ycn (yad R) 255 p w) p) (by omega : p < n) a2 p 0 (Nat.zero_add p) e1
    rw [yP_t (fun w hw => absurd hw (Nat.not_lt_zero w))] at e
    apply bX12_partMany_144_4_i
    simp (disch := omega) only [yl3, yl4, yl5, yl6, yl7, yl8, yl9, yl10, yl13, yl16, yl20, yl21, yl22, yl23, yl24, yl32, yl40, yl48, yl57, yl59, yl63, yl64, yl97, yl99, yl122, yl255, yl256, yl400, yl1000, yl2000, yl2048, yc0_eq, yc0_eq2, yc0_le, yc0_ge, yc0_lt, yc0_gt, yc0_ad, yc0_da, yc0_sb, yc0_ml, yc0_lm, yc1_eq, yc1_eq2, yc1_le, yc1_ge, yc1_lt, yc1_gt, yc1_ad, yc1_da, yc1_sb, yc1_ml, yc1_lm, yc2_eq, yc2_eq2, yc2_le, yc2_ge, yc2_lt, yc2_gt, yc2_ad, yc2_da, yc2_sb, yc2_ml, yc2_lm, yc31_ge, ymodn, yI_1sl, yc2_dv, yn1_eq, yn1_lt, xgd_t, xlt_e, Option.bind_some, nI_add, pk_mul, pk_sub, pk_div, pk_rem, yI_and, yI_or, yI_xor, yI_nd, yI_nd2, yI_31, yI_shl, nI_leI, nI_ltI, nI_eq, nI_clamp, xinb_t, yP_z, yP_if, h.1, if_neg, a1]
    exact e
theorem s_partMany {n : Nat} {R : Nat → Nat} (hG : yGr n R) {m : xmm} (h : yMN n R m) : ∃ m', fX12_partMany_144 m = some (nI (ypt (yad R) (2 ^ n - 1)), m') ∧ yfr [171] m m' := by
  have hn := hG.1
  obtain ⟨m', e1, e2⟩ := s_pm_4 hG n 0 (by omega) m h
  refine ⟨m', ?_, e2⟩
  have e : ypt (yad R) (2 ^ n - 1) = yct (fun p => ∀ w, w < p → ¬ ycn (yad R) 255 p w) n := by
    unfold ypt
    rw [yct_ext hn fun k h1 _ h3 => by have := yall_b.mp h3.1; omega]
    apply yct_c
    intro p hp
    constructor
    · rintro ⟨_, g⟩ w hw hc
      exact g w hw (yall_b.mpr (by omega)) (ycn_sy hG.2.2.2 (yall_b.mpr hp) ((ycn_all hG).mp hc))
    · intro g
      exact ⟨yall_b.mpr hp, fun w hw _ hc => g w hw ((ycn_all hG).mpr (ycn_sy hG.2.2.2 (yall_b.mpr (by omega)) hc))⟩
  rw [e]
  apply fX12_partMany_144_i
  exact e1
