/-! the smallest methods -/
theorem s_contains {S k : Nat} (hS : S < 2 ^ 31) (hk : k < 32) (m : xmm) : fX11_contains (nI S) (nI k) m = some (yP (S.testBit k = true), m) := by
  apply fX11_contains_i
  rw [yI_bit hS hk]
  by_cases h : S.testBit k = true
  · rw [yP_t h, if_pos rfl]
  · rw [yP_f h, if_neg (by decide)]
theorem s_bit (p : Prop) (m : xmm) : fX11_bit (yP p) m = some (yP p, m) := by
  apply fX11_bit_i
  by_cases h : p
  · rw [yP_t h]; rfl
  · rw [yP_f h]; rfl
theorem s_arrowFrom (a b : Nat) (m : xmm) : fX11_arrowFrom (nI a) (nI b) m = some (nI (8 * a + b), m) := by
  apply fX11_arrowFrom_i
  simp only [yl3, yl4, yl5, yl6, yl7, yl8, yl9, yl10, yl13, yl16, yl20, yl21, yl22, yl23, yl24, yl32, yl40, yl48, yl57, yl59, yl63, yl64, yl97, yl99, yl122, yl255, yl256, yl400, yl1000, yl2000, yl2048, yc0_eq, yc0_eq2, yc0_le, yc0_ge, yc0_lt, yc0_gt, yc0_ad, yc0_da, yc0_sb, yc0_ml, yc0_lm, yc1_eq, yc1_eq2, yc1_le, yc1_ge, yc1_lt, yc1_gt, yc1_ad, yc1_da, yc1_sb, yc1_ml, yc1_lm, yc2_eq, yc2_eq2, yc2_le, yc2_ge, yc2_lt, yc2_gt, yc2_ad, yc2_da, yc2_sb, yc2_ml, yc2_lm, yc31_ge, ymodn, yI_1sl, yc2_dv, yn1_eq, yn1_lt, xgd_t, xlt_e, Option.bind_some, nI_add, pk_mul, pk_sub, pk_div, pk_rem, yI_and, yI_or, yI_xor, yI_nd, yI_nd2, yI_31, yI_shl, nI_leI, nI_ltI, nI_eq, nI_clamp, xinb_t, yP_z, yP_if]
theorem s_against {x : Nat} (h : x < 64) (m : xmm) : fX11_against (nI x) m = some (nI (8 * (x % 8) + x / 8), m) := by
  apply fX11_against_i
  simp (disch := omega) only [yl3, yl4, yl5, yl6, yl7, yl8, yl9, yl10, yl13, yl16, yl20, yl21, yl22, yl23, yl24, yl32, yl40, yl48, yl57, yl59, yl63, yl64, yl97, yl99, yl122, yl255, yl256, yl400, yl1000, yl2000, yl2048, yc0_eq, yc0_eq2, yc0_le, yc0_ge, yc0_lt, yc0_gt, yc0_ad, yc0_da, yc0_sb, yc0_ml, yc0_lm, yc1_eq, yc1_eq2, yc1_le, yc1_ge, yc1_lt, yc1_gt, yc1_ad, yc1_da, yc1_sb, yc1_ml, yc1_lm, yc2_eq, yc2_eq2, yc2_le, yc2_ge, yc2_lt, yc2_gt, yc2_ad, yc2_da, yc2_sb, yc2_ml, yc2_lm, yc31_ge, ymodn, yI_1sl, yc2_dv, yn1_eq, yn1_lt, xgd_t, xlt_e, Option.bind_some, nI_add, pk_mul, pk_sub, pk_div, pk_rem, yI_and, yI_or, yI_xor, yI_nd, yI_nd2, yI_31, yI_shl, nI_leI, nI_ltI, nI_eq, nI_clamp, xinb_t, yP_z, yP_if, s_arrowFrom]
/-- rows of a network in a cell -/
def yrw (v : Nat) (R : Nat → Nat) (m : xmm) : Prop := ∀ p, p < 8 → m.1 v p = nI (R p)
theorem s_isArrow {v : Nat} (hv : Nat.beq v 1999 = false) (hk : xkd v = (1, 8)) {R : Nat → Nat} {m : xmm} (hR : yrw v R m) (hb : ∀ p, p < 8 → R p < 256) {x : Nat} (h : x < 64) : fX11_isArrow v (nI x) m = some (yP (yb (R (x / 8)) (x % 8)), m) := by
  apply fX11_isArrow_i
  have h1 : x / 8 < 8 := by omega
  have h2 := hb _ h1
  rw [hv]
  simp (disch := omega) only [yl3, yl4, yl5, yl6, yl7, yl8, yl9, yl10, yl13, yl16, yl20, yl21, yl22, yl23, yl24, yl32, yl40, yl48, yl57, yl59, yl63, yl64, yl97, yl99, yl122, yl255, yl256, yl400, yl1000, yl2000, yl2048, yc0_eq, yc0_eq2, yc0_le, yc0_ge, yc0_lt, yc0_gt, yc0_ad, yc0_da, yc0_sb, yc0_ml, yc0_lm, yc1_eq, yc1_eq2, yc1_le, yc1_ge, yc1_lt, yc1_gt, yc1_ad, yc1_da, yc1_sb, yc1_ml, yc1_lm, yc2_eq, yc2_eq2, yc2_le, yc2_ge, yc2_lt, yc2_gt, yc2_ad, yc2_da, yc2_sb, yc2_ml, yc2_lm, yc31_ge, ymodn, yI_1sl, yc2_dv, yn1_eq, yn1_lt, xgd_t, xlt_e, Option.bind_some, nI_add, pk_mul, pk_sub, pk_div, pk_rem, yI_and, yI_or, yI_xor, yI_nd, yI_nd2, yI_31, yI_shl, nI_leI, nI_ltI, nI_eq, nI_clamp, xinb_t, yP_z, yP_if, Bool.not_false, xia_t hk, hR _ h1, s_contains]
def ybc (k : Nat) : Nat := k % 2 + k / 2 % 2 + k / 4 % 2 + k / 8 % 2 + k / 16 % 2 + k / 32 % 2 + k / 64 % 2 + k / 128 % 2
def ybci (v0 : Int32) : Int32 := xlt (v0 - ((((v0).toUInt32 >>> (((1 : Int32)).toUInt32 &&& Int32.toUInt32 31)).toInt32) &&& (1431655765 : Int32))) fun (x1 : Int32) => xlt ((x1 &&& (858993459 : Int32)) + ((((x1).toUInt32 >>> (((2 : Int32)).toUInt32 &&& Int32.toUInt32 31)).toInt32) &&& (858993459 : Int32))) fun (x2 : Int32) => xlt ((x2 + (((x2).toUInt32 >>> (((4 : Int32)).toUInt32 &&& Int32.toUInt32 31)).toInt32)) &&& (252645135 : Int32)) fun (x3 : Int32) => xlt (x3 + (((x3).toUInt32 >>> (((8 : Int32)).toUInt32 &&& Int32.toUInt32 31)).toInt32)) fun (x4 : Int32) => xlt (x4 + (((x4).toUInt32 >>> (((16 : Int32)).toUInt32 &&& Int32.toUInt32 31)).toInt32)) fun (x5 : Int32) => x5 &&& (63 : Int32)
theorem ybci_ok : ∀ k, k < 256 → ybci (nI k) = nI (ybc k) := by decide +kernel
theorem yb_div (S i : Nat) : yb S i ↔ S / 2 ^ i % 2 = 1 := by
  unfold yb
  rw [Nat.testBit_eq_decide_div_mod_eq, decide_eq_true_iff]
theorem ybc_s (S i : Nat) : S / 2 ^ i % 2 = yif (yb S i) 1 0 := by
  by_cases h : yb S i
  · rw [yif_t h, (yb_div S i).mp h]
  · rw [yif_f h]
    have h2 : ¬ S / 2 ^ i % 2 = 1 := fun e => h ((yb_div S i).mpr e)
    generalize S / 2 ^ i = q at h2 ⊢
    omega
theorem ybc_e (S : Nat) : ybc S = ypp S := by
  unfold ybc ypp
  simp only [yct_s, ← ybc_s]
  show _ = 0 + S / 1 % 2 + S / 2 % 2 + S / 4 % 2 + S / 8 % 2 + S / 16 % 2 + S / 32 % 2 + S / 64 % 2 + S / 128 % 2
  rw [Nat.zero_add, Nat.div_one]
theorem s_bitCount {k : Nat} (h : k < 256) (m : xmm) : fJ6_bitCount (nI k) m = some (nI (ypp k), m) := by
  apply fJ6_bitCount_i
  rw [← ybc_e, ← ybci_ok k h]
  rfl
