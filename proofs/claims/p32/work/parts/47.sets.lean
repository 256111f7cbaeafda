/-! the class's sets -/
/-- rows in a cell that may be read -/
def yrx (v : Nat) (R : Nat → Nat) (m : xmm) : Prop := Nat.beq v 1999 = false ∧ xkd v = (1, 8) ∧ yrw v R m ∧ ∀ p, p < 8 → R p < 256
noncomputable def yto (R : Nat → Nat) (S : Nat) : Nat → Nat
  | 0 => 0
  | k + 1 => yto R S k ||| yif (yb S k) (R k) 0
theorem yto_s (R : Nat → Nat) (S k : Nat) : yto R S (k + 1) = yto R S k ||| yif (yb S k) (R k) 0 := rfl
theorem yto_b {R : Nat → Nat} {S b : Nat} : ∀ k, yb (yto R S k) b ↔ ∃ p, p < k ∧ yb S p ∧ yb (R p) b
  | 0 => ⟨fun e => absurd e yb_0, fun ⟨p, hp, _⟩ => absurd hp (Nat.not_lt_zero p)⟩
  | k + 1 => by
    rw [yto_s, yb_or, yto_b k]
    by_cases h : yb S k
    · rw [yif_t h]
      constructor
      · rintro (⟨p, p1, p2⟩ | e)
        · exact ⟨p, by omega, p2⟩
        · exact ⟨k, by omega, h, e⟩
      · rintro ⟨p, p1, p2, p3⟩
        by_cases e : p = k
        · subst e; exact Or.inr p3
        · exact Or.inl ⟨p, by omega, p2, p3⟩
    · rw [yif_f h]
      constructor
      · rintro (⟨p, p1, p2⟩ | e)
        · exact ⟨p, by omega, p2⟩
        · exact absurd e yb_0
      · rintro ⟨p, p1, p2, p3⟩
        by_cases e : p = k
        · subst e; exact absurd p2 h
        · exact Or.inl ⟨p, by omega, p2, p3⟩
theorem yto_lt {R : Nat → Nat} (hR : ∀ p, p < 8 → R p < 256) (S : Nat) : ∀ k, k ≤ 8 → yto R S k < 256
  | 0, _ => show 0 < 256 by decide
  | k + 1, h => by
    rw [yto_s]
    refine Nat.or_lt_two_pow (n := 8) (yto_lt hR S k (by omega)) ?_
    by_cases e : yb S k
    · rw [yif_t e]; exact hR k (by omega)
    · rw [yif_f e]; decide
/-- what a set's posts have lines to -/
noncomputable def ytc (R : Nat → Nat) (S : Nat) : Nat := yto R S 8
theorem ytc_b {R : Nat → Nat} {S b : Nat} (hS : S < 256) : yb (ytc R S) b ↔ ∃ p, yb S p ∧ yad R p b := by
  unfold ytc
  rw [yto_b]
  exact ⟨fun ⟨p, _, h⟩ => ⟨p, h⟩, fun ⟨p, h1, h2⟩ => ⟨p, ytb_of (n := 8) hS h1, h1, h2⟩⟩
theorem s_touched_l {v : Nat} {R : Nat → Nat} {m : xmm} (h : yrx v R m) {S : Nat} (hS : S < 256) : ∀ (d k : Nat), k + d = 8 → bX9_touched_4 v (nI S) (nI (yto R S k)) (nI k) m = some (nI (ytc R S), m) := by
  obtain ⟨h1, h2, h3, h4⟩ := h
  intro d
  induction d with
  | zero =>
    intro k hk
    have e : k = 8 := by omega
    subst e
    apply bX9_touched_4_i
    simp (disch := omega) only [yl3, yl4, yl5, yl6, yl7, yl8, yl9, yl10, yl13, yl16, yl20, yl21, yl22, yl23, yl24, yl32, yl40, yl48, yl57, yl59, yl63, yl64, yl97, yl99, yl122, yl255, yl256, yl400, yl1000, yl2000, yl2048, yc0_eq, yc0_eq2, yc0_le, yc0_ge, yc0_lt, yc0_gt, yc0_ad, yc0_da, yc0_sb, yc0_ml, yc0_lm, yc1_eq, yc1_eq2, yc1_le, yc1_ge, yc1_lt, yc1_gt, yc1_ad, yc1_da, yc1_sb, yc1_ml, yc1_lm, yc2_eq, yc2_eq2, yc2_le, yc2_ge, yc2_lt, yc2_gt, yc2_ad, yc2_da, yc2_sb, yc2_ml, yc2_lm, yc31_ge, ymodn, yI_1sl, yc2_dv, yn1_eq, yn1_lt, xgd_t, xlt_e, Option.bind_some, nI_add, pk_mul, pk_sub, pk_div, pk_rem, yI_and, yI_or, yI_xor, yI_nd, yI_nd2, yI_31, yI_shl, nI_leI, nI_ltI, nI_eq, nI_clamp, xinb_t, yP_z, yP_if, if_pos]
    rfl
  | succ d ih =>
    intro k hk
    have e := ih (k + 1) (by omega)
    rw [yto_s] at e
    apply bX9_touched_4_i
    by_cases hb : yb S k
    · rw [yif_t hb] at e
      simp (disch := omega) only [yl3, yl4, yl5, yl6, yl7, yl8, yl9, yl10, yl13, yl16, yl20, yl21, yl22, yl23, yl24, yl32, yl40, yl48, yl57, yl59, yl63, yl64, yl97, yl99, yl122, yl255, yl256, yl400, yl1000, yl2000, yl2048, yc0_eq, yc0_eq2, yc0_le, yc0_ge, yc0_lt, yc0_gt, yc0_ad, yc0_da, yc0_sb, yc0_ml, yc0_lm, yc1_eq, yc1_eq2, yc1_le, yc1_ge, yc1_lt, yc1_gt, yc1_ad, yc1_da, yc1_sb, yc1_ml, yc1_lm, yc2_eq, yc2_eq2, yc2_le, yc2_ge, yc2_lt, yc2_gt, yc2_ad, yc2_da, yc2_sb, yc2_ml, yc2_lm, yc31_ge, ymodn, yI_1sl, yc2_dv, yn1_eq, yn1_lt, xgd_t, xlt_e, Option.bind_some, nI_add, pk_mul, pk_sub, pk_div, pk_rem, yI_and, yI_or, yI_xor, yI_nd, yI_nd2, yI_31, yI_shl, nI_leI, nI_ltI, nI_eq, nI_clamp, xinb_t, yP_z, yP_if, if_neg, s_contains, yif_t hb, h1, Bool.not_false, xia_t h2, h3 k (by omega)]
      exact e
    · rw [yif_f hb, Nat.or_zero] at e
      simp (disch := omega) only [yl3, yl4, yl5, yl6, yl7, yl8, yl9, yl10, yl13, yl16, yl20, yl21, yl22, yl23, yl24, yl32, yl40, yl48, yl57, yl59, yl63, yl64, yl97, yl99, yl122, yl255, yl256, yl400, yl1000, yl2000, yl2048, yc0_eq, yc0_eq2, yc0_le, yc0_ge, yc0_lt, yc0_gt, yc0_ad, yc0_da, yc0_sb, yc0_ml, yc0_lm, yc1_eq, yc1_eq2, yc1_le, yc1_ge, yc1_lt, yc1_gt, yc1_ad, yc1_da, yc1_sb, yc1_ml, yc1_lm, yc2_eq, yc2_eq2, yc2_le, yc2_ge, yc2_lt, yc2_gt, yc2_ad, yc2_da, yc2_sb, yc2_ml, yc2_lm, yc31_ge, ymodn, yI_1sl, yc2_dv, yn1_eq, yn1_lt, xgd_t, xlt_e, Option.bind_some, nI_add, pk_mul, pk_sub, pk_div, pk_rem, yI_and, yI_or, yI_xor, yI_nd, yI_nd2, yI_31, yI_shl, nI_leI, nI_ltI, nI_eq, nI_clamp, xinb_t, yP_z, yP_if, if_neg, s_contains, yif_f hb]
      exact e
theorem s_touched {v : Nat} {R : Nat → Nat} {m : xmm} (h : yrx v R m) {S : Nat} (hS : S < 256) : fX9_touched v (nI S) m = some (nI (ytc R S), m) := by
  apply fX9_touched_i
  exact s_touched_l h hS 8 0 rfl
theorem ytc_lt {v : Nat} {R : Nat → Nat} {m : xmm} (h : yrx v R m) (S : Nat) : ytc R S < 256 := yto_lt h.2.2.2 S 8 (Nat.le_refl 8)
def yap (R : Nat → Nat) (S : Nat) : Prop := ∀ p q, yb S p → yb S q → ¬ yad R p q
theorem s_isApart {v : Nat} {R : Nat → Nat} {m : xmm} (h : yrx v R m) {S : Nat} (hS : S < 256) : fX9_isApart v (nI S) m = some (yP (yap R S), m) := by
  have b1 := ytc_lt h S
  have b2 := yand_lt (ytc R S) S (n := 8) b1
  have e0 : ytc R S &&& S = 0 ↔ yap R S := by
    rw [yand0]
    constructor
    · intro h1 p q hp hq hl
      exact h1 q ((ytc_b hS).mpr ⟨p, hp, hl⟩) hq
    · intro h1 q hq hb
      obtain ⟨p, p1, p2⟩ := (ytc_b hS).mp hq
      exact h1 p q p1 hb p2
  apply fX9_isApart_i
  rw [h.1]
  simp (disch := omega) only [yl3, yl4, yl5, yl6, yl7, yl8, yl9, yl10, yl13, yl16, yl20, yl21, yl22, yl23, yl24, yl32, yl40, yl48, yl57, yl59, yl63, yl64, yl97, yl99, yl122, yl255, yl256, yl400, yl1000, yl2000, yl2048, yc0_eq, yc0_eq2, yc0_le, yc0_ge, yc0_lt, yc0_gt, yc0_ad, yc0_da, yc0_sb, yc0_ml, yc0_lm, yc1_eq, yc1_eq2, yc1_le, yc1_ge, yc1_lt, yc1_gt, yc1_ad, yc1_da, yc1_sb, yc1_ml, yc1_lm, yc2_eq, yc2_eq2, yc2_le, yc2_ge, yc2_lt, yc2_gt, yc2_ad, yc2_da, yc2_sb, yc2_ml, yc2_lm, yc31_ge, ymodn, yI_1sl, yc2_dv, yn1_eq, yn1_lt, xgd_t, xlt_e, Option.bind_some, nI_add, pk_mul, pk_sub, pk_div, pk_rem, yI_and, yI_or, yI_xor, yI_nd, yI_nd2, yI_31, yI_shl, nI_leI, nI_ltI, nI_eq, nI_clamp, xinb_t, yP_z, yP_if, Bool.not_false, s_touched h hS]
  by_cases e : ytc R S &&& S = 0
  · rw [if_pos e, yP_t (e0.mp e)]
  · rw [if_neg e, yP_f (fun h => e (e0.mpr h))]
/-! parts -/
noncomputable def yit (R : Nat → Nat) (S a : Nat) : Nat → Nat
  | 0 => 2 ^ a
  | k + 1 => yit R S a k ||| (ytc R (yit R S a k) &&& S)
theorem yit_s (R : Nat → Nat) (S a k : Nat) : yit R S a (k + 1) = yit R S a k ||| (ytc R (yit R S a k) &&& S) := rfl
theorem yit_lt {R : Nat → Nat} {S a : Nat} (hS : S < 256) (ha : a < 8) : ∀ k, yit R S a k < 256
  | 0 => Nat.pow_lt_pow_right (by decide : 1 < 2) ha
  | k + 1 => by
    rw [yit_s]
    exact Nat.or_lt_two_pow (n := 8) (yit_lt hS ha k) (Nat.and_lt_two_pow _ hS)
theorem yit_b {R : Nat → Nat} {S a : Nat} (hS : S < 256) (ha : a < 8) (k b : Nat) : yb (yit R S a (k + 1)) b ↔ yb (yit R S a k) b ∨ (yb S b ∧ ∃ p, yb (yit R S a k) p ∧ yad R p b) := by
  rw [yit_s, yb_or, yb_an, ytc_b (yit_lt hS ha k)]
  exact ⟨fun h => h.elim Or.inl fun h => Or.inr ⟨h.2, h.1⟩, fun h => h.elim Or.inl fun h => Or.inr ⟨h.2, h.1⟩⟩
def ycd (R : Nat → Nat) (S X : Nat) : Prop := ∀ u v, yb X u → yad R u v → yb S v → yb X v
theorem yit_c {R : Nat → Nat} {S a : Nat} (hS : S < 256) (ha : a < 8) : ∀ k, ycd R S (yit R S a k) ∨ k + 1 ≤ ypp (yit R S a k)
  | 0 => Or.inr (yct_1 (i := a) (n := 8) ha (yb_pw.mpr rfl))
  | k + 1 => by
    by_cases hc : ycd R S (yit R S a k)
    · have e : yit R S a (k + 1) = yit R S a k := by
        apply ytb_ext
        intro b
        have := yit_b (R := R) hS ha k b
        exact ⟨fun h => (this.mp h).elim id fun ⟨h1, p, h2, h3⟩ => hc p b h2 h3 h1, fun h => this.mpr (Or.inl h)⟩
      rw [e]
      exact Or.inl hc
    · right
      have ih := (yit_c hS ha k).resolve_left hc
      have hex : ∃ u v, yb (yit R S a k) u ∧ yad R u v ∧ yb S v ∧ ¬ yb (yit R S a k) v := by
        refine Classical.byContradiction fun hn => hc fun u v h1 h2 h3 => Classical.byContradiction fun h4 => hn ⟨u, v, h1, h2, h3, h4⟩
      obtain ⟨u, v, h1, h2, h3, h4⟩ := hex
      have := yct_slt (P := fun b => yb (yit R S a k) b) (Q := fun b => yb (yit R S a (k + 1)) b) (j := v) (n := 8) (fun b _ hb => (yit_b hS ha k b).mpr (Or.inl hb)) (ytb_of (n := 8) hS h3) ((yit_b hS ha k v).mpr (Or.inr ⟨h3, u, h1, h2⟩)) h4
      have e1 : ypp (yit R S a (k + 1)) = yct (fun b => yb (yit R S a (k + 1)) b) 8 := rfl
      have e2 : ypp (yit R S a k) = yct (fun b => yb (yit R S a k) b) 8 := rfl
      omega
theorem yit_8 {R : Nat → Nat} {S a : Nat} (hS : S < 256) (ha : a < 8) : ycd R S (yit R S a 8) := by
  rcases yit_c (R := R) hS ha 8 with h | h
  · exact h
  · have : ypp (yit R S a 8) ≤ 8 := yct_le _ 8
    omega
theorem yit_m {R : Nat → Nat} {S a : Nat} (hS : S < 256) (ha : a < 8) : ∀ k b, yb (yit R S a k) b → ycn (yad R) S a b
  | 0, b => fun h => by
    rw [yb_pw.mp h]
    exact ycn_r _ S a
  | k + 1, b => fun h => by
    rcases (yit_b hS ha k b).mp h with e | ⟨e1, p, e2, e3⟩
    · exact yit_m hS ha k b e
    · exact ycn_s (yit_m hS ha k p e2) e3 e1
theorem yit_sub {R : Nat → Nat} {S a : Nat} (hS : S < 256) (ha : a < 8) (k b : Nat) : ∀ d, yb (yit R S a k) b → yb (yit R S a (k + d)) b
  | 0 => id
  | d + 1 => fun h => (yit_b hS ha (k + d) b).mpr (Or.inl (yit_sub hS ha k b d h))
/-- eight rounds come to all that can be come to -/
theorem yit_cn {R : Nat → Nat} {S a b : Nat} (hS : S < 256) (ha : a < 8) : yb (yit R S a 8) b ↔ ycn (yad R) S a b := by
  refine ⟨yit_m hS ha 8 b, fun h => h (fun u => yb (yit R S a 8) u) ?_ fun u v hu huv hv => yit_8 hS ha u v hu huv hv⟩
  have := yit_sub (R := R) hS ha 0 a 8 (yb_pw.mpr rfl)
  rw [Nat.zero_add] at this
  exact this
theorem s_partOf_l {v : Nat} {R : Nat → Nat} {m : xmm} (h : yrx v R m) {S a : Nat} (hS : S < 256) (ha : a < 8) : ∀ (d k : Nat), k + d = 8 → bX9_partOf_7 v (nI S) (nI (yit R S a k)) (nI k) m = some (nI (yit R S a 8), m) := by
  intro d
  induction d with
  | zero =>
    intro k hk
    have e : k = 8 := by omega
    subst e
    apply bX9_partOf_7_i
    simp (disch := omega) only [yl3, yl4, yl5, yl6, yl7, yl8, yl9, yl10, yl13, yl16, yl20, yl21, yl22, yl23, yl24, yl32, yl40, yl48, yl57, yl59, yl63, yl64, yl97, yl99, yl122, yl255, yl256, yl400, yl1000, yl2000, yl2048, yc0_eq, yc0_eq2, yc0_le, yc0_ge, yc0_lt, yc0_gt, yc0_ad, yc0_da, yc0_sb, yc0_ml, yc0_lm, yc1_eq, yc1_eq2, yc1_le, yc1_ge, yc1_lt, yc1_gt, yc1_ad, yc1_da, yc1_sb, yc1_ml, yc1_lm, yc2_eq, yc2_eq2, yc2_le, yc2_ge, yc2_lt, yc2_gt, yc2_ad, yc2_da, yc2_sb, yc2_ml, yc2_lm, yc31_ge, ymodn, yI_1sl, yc2_dv, yn1_eq, yn1_lt, xgd_t, xlt_e, Option.bind_some, nI_add, pk_mul, pk_sub, pk_div, pk_rem, yI_and, yI_or, yI_xor, yI_nd, yI_nd2, yI_31, yI_shl, nI_leI, nI_ltI, nI_eq, nI_clamp, xinb_t, yP_z, yP_if, if_pos]
  | succ d ih =>
    intro k hk
    have e := ih (k + 1) (by omega)
    rw [yit_s] at e
    have b := yit_lt (R := R) hS ha k
    apply bX9_partOf_7_i
    simp (disch := omega) only [yl3, yl4, yl5, yl6, yl7, yl8, yl9, yl10, yl13, yl16, yl20, yl21, yl22, yl23, yl24, yl32, yl40, yl48, yl57, yl59, yl63, yl64, yl97, yl99, yl122, yl255, yl256, yl400, yl1000, yl2000, yl2048, yc0_eq, yc0_eq2, yc0_le, yc0_ge, yc0_lt, yc0_gt, yc0_ad, yc0_da, yc0_sb, yc0_ml, yc0_lm, yc1_eq, yc1_eq2, yc1_le, yc1_ge, yc1_lt, yc1_gt, yc1_ad, yc1_da, yc1_sb, yc1_ml, yc1_lm, yc2_eq, yc2_eq2, yc2_le, yc2_ge, yc2_lt, yc2_gt, yc2_ad, yc2_da, yc2_sb, yc2_ml, yc2_lm, yc31_ge, ymodn, yI_1sl, yc2_dv, yn1_eq, yn1_lt, xgd_t, xlt_e, Option.bind_some, nI_add, pk_mul, pk_sub, pk_div, pk_rem, yI_and, yI_or, yI_xor, yI_nd, yI_nd2, yI_31, yI_shl, nI_leI, nI_ltI, nI_eq, nI_clamp, xinb_t, yP_z, yP_if, if_neg, h.1, Bool.not_false, s_touched h b]
    exact e
theorem s_partOf {v : Nat} {R : Nat → Nat} {m : xmm} (h : yrx v R m) {S a : Nat} (hS : S < 256) (ha : a < 8) : fX9_partOf v (nI S) (nI a) m = some (nI (yit R S a 8), m) := by
  apply fX9_partOf_i
  simp (disch := omega) only [yl3, yl4, yl5, yl6, yl7, yl8, yl9, yl10, yl13, yl16, yl20, yl21, yl22, yl23, yl24, yl32, yl40, yl48, yl57, yl59, yl63, yl64, yl97, yl99, yl122, yl255, yl256, yl400, yl1000, yl2000, yl2048, yc0_eq, yc0_eq2, yc0_le, yc0_ge, yc0_lt, yc0_gt, yc0_ad, yc0_da, yc0_sb, yc0_ml, yc0_lm, yc1_eq, yc1_eq2, yc1_le, yc1_ge, yc1_lt, yc1_gt, yc1_ad, yc1_da, yc1_sb, yc1_ml, yc1_lm, yc2_eq, yc2_eq2, yc2_le, yc2_ge, yc2_lt, yc2_gt, yc2_ad, yc2_da, yc2_sb, yc2_ml, yc2_lm, yc31_ge, ymodn, yI_1sl, yc2_dv, yn1_eq, yn1_lt, xgd_t, xlt_e, Option.bind_some, nI_add, pk_mul, pk_sub, pk_div, pk_rem, yI_and, yI_or, yI_xor, yI_nd, yI_nd2, yI_31, yI_shl, nI_leI, nI_ltI, nI_eq, nI_clamp, xinb_t, yP_z, yP_if]
  exact s_partOf_l h hS ha 8 0 rfl
theorem s_parts_l {v : Nat} {R : Nat → Nat} {m : xmm} (h : yrx v R m) (hsy : ysy (yad R)) {S : Nat} (hS : S < 256) : ∀ (d k L : Nat), k + d = 8 → L < 256 → (∀ b, yb L b ↔ yb S b ∧ ∀ q, q < k → yb S q → ¬ ycn (yad R) S q b) → bX9_parts_7 v (nI S) (nI (yct (fun a => yb S a ∧ ∀ b, b < a → yb S b → ¬ ycn (yad R) S b a) k)) (nI L) (nI k) m = some (nI (ypt (yad R) S), m) := by
  intro d
  induction d with
  | zero =>
    intro k L hk hL hLb
    have e : k = 8 := by omega
    subst e
    apply bX9_parts_7_i
    simp (disch := omega) only [yl3, yl4, yl5, yl6, yl7, yl8, yl9, yl10, yl13, yl16, yl20, yl21, yl22, yl23, yl24, yl32, yl40, yl48, yl57, yl59, yl63, yl64, yl97, yl99, yl122, yl255, yl256, yl400, yl1000, yl2000, yl2048, yc0_eq, yc0_eq2, yc0_le, yc0_ge, yc0_lt, yc0_gt, yc0_ad, yc0_da, yc0_sb, yc0_ml, yc0_lm, yc1_eq, yc1_eq2, yc1_le, yc1_ge, yc1_lt, yc1_gt, yc1_ad, yc1_da, yc1_sb, yc1_ml, yc1_lm, yc2_eq, yc2_eq2, yc2_le, yc2_ge, yc2_lt, yc2_gt, yc2_ad, yc2_da, yc2_sb, yc2_ml, yc2_lm, yc31_ge, ymodn, yI_1sl, yc2_dv, yn1_eq, yn1_lt, xgd_t, xlt_e, Option.bind_some, nI_add, pk_mul, pk_sub, pk_div, pk_rem, yI_and, yI_or, yI_xor, yI_nd, yI_nd2, yI_31, yI_shl, nI_leI, nI_ltI, nI_eq, nI_clamp, xinb_t, yP_z, yP_if, if_pos]
    rfl
  | succ d ih =>
    intro k L hk hL hLb
    apply bX9_parts_7_i
    by_cases hb : yb L k
    · have hb' := (hLb k).mp hb
      have bp := yit_lt (R := R) (a := k) hS (by omega) 8
      have e := ih (k + 1) (ynd L (yit R S k 8)) (by omega) (ynd_le _ _ 8 hL) (fun b => by
        rw [yb_nd, hLb b, yit_cn hS (by omega)]
        constructor
        · rintro ⟨⟨h1, h2⟩, h3⟩
          refine ⟨h1, fun q hq hqS => ?_⟩
          by_cases e : q = k
          · subst e; exact h3
          · exact h2 q (by omega) hqS
        · rintro ⟨h1, h2⟩
          exact ⟨⟨h1, fun q hq hqS => h2 q (by omega) hqS⟩, h2 k (by omega) hb'.1⟩)
      rw [yct_s, yif_t hb'] at e
      simp (disch := omega) only [yl3, yl4, yl5, yl6, yl7, yl8, yl9, yl10, yl13, yl16, yl20, yl21, yl22, yl23, yl24, yl32, yl40, yl48, yl57, yl59, yl63, yl64, yl97, yl99, yl122, yl255, yl256, yl400, yl1000, yl2000, yl2048, yc0_eq, yc0_eq2, yc0_le, yc0_ge, yc0_lt, yc0_gt, yc0_ad, yc0_da, yc0_sb, yc0_ml, yc0_lm, yc1_eq, yc1_eq2, yc1_le, yc1_ge, yc1_lt, yc1_gt, yc1_ad, yc1_da, yc1_sb, yc1_ml, yc1_lm, yc2_eq, yc2_eq2, yc2_le, yc2_ge, yc2_lt, yc2_gt, yc2_ad, yc2_da, yc2_sb, yc2_ml, yc2_lm, yc31_ge, ymodn, yI_1sl, yc2_dv, yn1_eq, yn1_lt, xgd_t, xlt_e, Option.bind_some, nI_add, pk_mul, pk_sub, pk_div, pk_rem, yI_and, yI_or, yI_xor, yI_nd, yI_nd2, yI_31, yI_shl, nI_leI, nI_ltI, nI_eq, nI_clamp, xinb_t, yP_z, yP_if, if_neg, s_contains, yif_t hb, h.1, Bool.not_false, s_partOf h hS (a := k) (by omega)]
      exact e
    · have hb' : ¬ (yb S k ∧ ∀ b, b < k → yb S b → ¬ ycn (yad R) S b k) := fun e => hb ((hLb k).mpr e)
      have e := ih (k + 1) L (by omega) hL (fun b => by
        rw [hLb b]
        constructor
        · rintro ⟨h1, h2⟩
          refine ⟨h1, fun q hq hqS hc => ?_⟩
          by_cases e : q = k
          · subst e
            refine hb' ⟨hqS, fun w hw hwS hwc => ?_⟩
            exact h2 w (by omega) hwS (ycn_t hwc hc)
          · exact h2 q (by omega) hqS hc
        · rintro ⟨h1, h2⟩
          exact ⟨h1, fun q hq hqS => h2 q (by omega) hqS⟩)
      rw [yct_s, yif_f hb', Nat.add_zero] at e
      simp (disch := omega) only [yl3, yl4, yl5, yl6, yl7, yl8, yl9, yl10, yl13, yl16, yl20, yl21, yl22, yl23, yl24, yl32, yl40, yl48, yl57, yl59, yl63, yl64, yl97, yl99, yl122, yl255, yl256, yl400, yl1000, yl2000, yl2048, yc0_eq, yc0_eq2, yc0_le, yc0_ge, yc0_lt, yc0_gt, yc0_ad, yc0_da, yc0_sb, yc0_ml, yc0_lm, yc1_eq, yc1_eq2, yc1_le, yc1_ge, yc1_lt, yc1_gt, yc1_ad, yc1_da, yc1_sb, yc1_ml, yc1_lm, yc2_eq, yc2_eq2, yc2_le, yc2_ge, yc2_lt, yc2_gt, yc2_ad, yc2_da, yc2_sb, yc2_ml, yc2_lm, yc31_ge, ymodn, yI_1sl, yc2_dv, yn1_eq, yn1_lt, xgd_t, xlt_e, Option.bind_some, nI_add, pk_mul, pk_sub, pk_div, pk_rem, yI_and, yI_or, yI_xor, yI_nd, yI_nd2, yI_31, yI_shl, nI_leI, nI_ltI, nI_eq, nI_clamp, xinb_t, yP_z, yP_if, if_neg, s_contains, yif_f hb]
      exact e
theorem s_parts {v : Nat} {R : Nat → Nat} {m : xmm} (h : yrx v R m) (hsy : ysy (yad R)) {S : Nat} (hS : S < 256) : fX9_parts v (nI S) m = some (nI (ypt (yad R) S), m) := by
  apply fX9_parts_i
  exact s_parts_l h hsy hS 8 0 S rfl hS (fun b => ⟨fun e => ⟨e, fun q hq => absurd hq (Nat.not_lt_zero q)⟩, fun e => e.1⟩)
/-! alike, round -/
theorem ymo_rows {n : Nat} {R : Nat → Nat} (hG : yGr n R) {S : Nat} (hS : S < 2 ^ n) : ymo (yad R) (2 ^ n - 1) S ↔ S ≠ 0 ∧ ∀ p, p < n → ¬ yb S p → R p &&& S = 0 ∨ R p &&& S = S := by
  constructor
  · rintro ⟨h1, ⟨a, ha⟩, h3⟩
    refine ⟨fun e => by rw [e] at ha; exact yb_0 ha, fun p hp hn => ?_⟩
    by_cases hl : yad R p a
    · right
      apply ytb_ext
      intro i
      have e := yb_an (A := R p) (B := S) (a := i)
      exact ⟨fun h => (e.mp h).2, fun h => e.mpr ⟨(h3 p (yall_b.mpr hp) hn a i ha h).mp hl, h⟩⟩
    · left
      rw [yand0]
      intro q h1 h2
      exact hl ((h3 p (yall_b.mpr hp) hn q a h2 ha).mp h1)
  · rintro ⟨h1, h2⟩
    refine ⟨fun a ha => yall_b.mpr (ytb_of hS ha), yex_ne h1, fun x hx hn a b ha hb => ?_⟩
    rcases h2 x (yall_b.mp hx) hn with h | h
    · rw [yand0] at h
      exact ⟨fun e => absurd ha (h a e), fun e => absurd hb (h b e)⟩
    · have key : ∀ a, yb S a → yad R x a := fun a ha => by
        have e : yb (R x &&& S) a := by rw [h]; exact ha
        exact (yb_an.mp e).1
      exact ⟨fun _ => key b hb, fun _ => key a ha⟩
theorem s_isAlike_l {n : Nat} {v : Nat} {R : Nat → Nat} {m : xmm} (h : yrx v R m) (hn : n ≤ 8) {S : Nat} (hS : S < 2 ^ n) : ∀ (d k : Nat), k + d = 8 → bX9_isAlike_8 v (nI S) (nI (2 ^ n - 1)) (nI k) m = some (yP (∀ p, k ≤ p → p < 8 → p < n → ¬ yb S p → R p &&& S = 0 ∨ R p &&& S = S), m) := by
  have h8 := y2p8 hn
  have h1' := y2p1 n
  obtain ⟨h1, h2, h3, h4⟩ := h
  intro d
  induction d with
  | zero =>
    intro k hk
    have e : k = 8 := by omega
    subst e
    rw [yP_t yal_e]
    apply bX9_isAlike_8_i
    simp (disch := omega) only [yl3, yl4, yl5, yl6, yl7, yl8, yl9, yl10, yl13, yl16, yl20, yl21, yl22, yl23, yl24, yl32, yl40, yl48, yl57, yl59, yl63, yl64, yl97, yl99, yl122, yl255, yl256, yl400, yl1000, yl2000, yl2048, yc0_eq, yc0_eq2, yc0_le, yc0_ge, yc0_lt, yc0_gt, yc0_ad, yc0_da, yc0_sb, yc0_ml, yc0_lm, yc1_eq, yc1_eq2, yc1_le, yc1_ge, yc1_lt, yc1_gt, yc1_ad, yc1_da, yc1_sb, yc1_ml, yc1_lm, yc2_eq, yc2_eq2, yc2_le, yc2_ge, yc2_lt, yc2_gt, yc2_ad, yc2_da, yc2_sb, yc2_ml, yc2_lm, yc31_ge, ymodn, yI_1sl, yc2_dv, yn1_eq, yn1_lt, xgd_t, xlt_e, Option.bind_some, nI_add, pk_mul, pk_sub, pk_div, pk_rem, yI_and, yI_or, yI_xor, yI_nd, yI_nd2, yI_31, yI_shl, nI_leI, nI_ltI, nI_eq, nI_clamp, xinb_t, yP_z, yP_if, if_pos]
  | succ d ih =>
    intro k hk
    rw [yP_c (yal_s (P := fun p => p < n → ¬ yb S p → R p &&& S = 0 ∨ R p &&& S = S) (by omega : k < 8))]
    have e := ih (k + 1) (by omega)
    have b1 := h4 k (by omega)
    have b2 := yand_lt (R k) S (n := 8) b1
    have b3 := ynd_le (2 ^ n - 1) S 8 (by omega)
    have eb : yb (ynd (2 ^ n - 1) S) k ↔ k < n ∧ ¬ yb S k := by rw [yb_nd, yall_b]
    apply bX9_isAlike_8_i
    by_cases hb : k < n ∧ ¬ yb S k
    · by_cases e1 : R k &&& S = 0
      · simp (disch := omega) only [yl3, yl4, yl5, yl6, yl7, yl8, yl9, yl10, yl13, yl16, yl20, yl21, yl22, yl23, yl24, yl32, yl40, yl48, yl57, yl59, yl63, yl64, yl97, yl99, yl122, yl255, yl256, yl400, yl1000, yl2000, yl2048, yc0_eq, yc0_eq2, yc0_le, yc0_ge, yc0_lt, yc0_gt, yc0_ad, yc0_da, yc0_sb, yc0_ml, yc0_lm, yc1_eq, yc1_eq2, yc1_le, yc1_ge, yc1_lt, yc1_gt, yc1_ad, yc1_da, yc1_sb, yc1_ml, yc1_lm, yc2_eq, yc2_eq2, yc2_le, yc2_ge, yc2_lt, yc2_gt, yc2_ad, yc2_da, yc2_sb, yc2_ml, yc2_lm, yc31_ge, ymodn, yI_1sl, yc2_dv, yn1_eq, yn1_lt, xgd_t, xlt_e, Option.bind_some, nI_add, pk_mul, pk_sub, pk_div, pk_rem, yI_and, yI_or, yI_xor, yI_nd, yI_nd2, yI_31, yI_shl, nI_leI, nI_ltI, nI_eq, nI_clamp, xinb_t, yP_z, yP_if, if_neg, h1, Bool.not_false, xia_t h2, h3 k (by omega), s_contains, yif_t (eb.mpr hb), if_pos e1]
        rw [e]
        congr 2
        exact yP_c ⟨fun h => ⟨fun _ _ => Or.inl e1, h⟩, fun h => h.2⟩
      · by_cases e2 : R k &&& S = S
        · simp (disch := omega) only [yl3, yl4, yl5, yl6, yl7, yl8, yl9, yl10, yl13, yl16, yl20, yl21, yl22, yl23, yl24, yl32, yl40, yl48, yl57, yl59, yl63, yl64, yl97, yl99, yl122, yl255, yl256, yl400, yl1000, yl2000, yl2048, yc0_eq, yc0_eq2, yc0_le, yc0_ge, yc0_lt, yc0_gt, yc0_ad, yc0_da, yc0_sb, yc0_ml, yc0_lm, yc1_eq, yc1_eq2, yc1_le, yc1_ge, yc1_lt, yc1_gt, yc1_ad, yc1_da, yc1_sb, yc1_ml, yc1_lm, yc2_eq, yc2_eq2, yc2_le, yc2_ge, yc2_lt, yc2_gt, yc2_ad, yc2_da, yc2_sb, yc2_ml, yc2_lm, yc31_ge, ymodn, yI_1sl, yc2_dv, yn1_eq, yn1_lt, xgd_t, xlt_e, Option.bind_some, nI_add, pk_mul, pk_sub, pk_div, pk_rem, yI_and, yI_or, yI_xor, yI_nd, yI_nd2, yI_31, yI_shl, nI_leI, nI_ltI, nI_eq, nI_clamp, xinb_t, yP_z, yP_if, if_neg, h1, Bool.not_false, xia_t h2, h3 k (by omega), s_contains, yif_t (eb.mpr hb), if_neg e1, if_pos e2]
          rw [e]
          congr 2
          exact yP_c ⟨fun h => ⟨fun _ _ => Or.inr e2, h⟩, fun h => h.2⟩
        · simp (disch := omega) only [yl3, yl4, yl5, yl6, yl7, yl8, yl9, yl10, yl13, yl16, yl20, yl21, yl22, yl23, yl24, yl32, yl40, yl48, yl57, yl59, yl63, yl64, yl97, yl99, yl122, yl255, yl256, yl400, yl1000, yl2000, yl2048, yc0_eq, yc0_eq2, yc0_le, yc0_ge, yc0_lt, yc0_gt, yc0_ad, yc0_da, yc0_sb, yc0_ml, yc0_lm, yc1_eq, yc1_eq2, yc1_le, yc1_ge, yc1_lt, yc1_gt, yc1_ad, yc1_da, yc1_sb, yc1_ml, yc1_lm, yc2_eq, yc2_eq2, yc2_le, yc2_ge, yc2_lt, yc2_gt, yc2_ad, yc2_da, yc2_sb, yc2_ml, yc2_lm, yc31_ge, ymodn, yI_1sl, yc2_dv, yn1_eq, yn1_lt, xgd_t, xlt_e, Option.bind_some, nI_add, pk_mul, pk_sub, pk_div, pk_rem, yI_and, yI_or, yI_xor, yI_nd, yI_nd2, yI_31, yI_shl, nI_leI, nI_ltI, nI_eq, nI_clamp, xinb_t, yP_z, yP_if, if_neg, h1, Bool.not_false, xia_t h2, h3 k (by omega), s_contains, yif_t (eb.mpr hb), if_neg e1, if_neg e2]
          rw [yP_f (fun h => (h.1 hb.1 hb.2).elim e1 e2)]
    · simp (disch := omega) only [yl3, yl4, yl5, yl6, yl7, yl8, yl9, yl10, yl13, yl16, yl20, yl21, yl22, yl23, yl24, yl32, yl40, yl48, yl57, yl59, yl63, yl64, yl97, yl99, yl122, yl255, yl256, yl400, yl1000, yl2000, yl2048, yc0_eq, yc0_eq2, yc0_le, yc0_ge, yc0_lt, yc0_gt, yc0_ad, yc0_da, yc0_sb, yc0_ml, yc0_lm, yc1_eq, yc1_eq2, yc1_le, yc1_ge, yc1_lt, yc1_gt, yc1_ad, yc1_da, yc1_sb, yc1_ml, yc1_lm, yc2_eq, yc2_eq2, yc2_le, yc2_ge, yc2_lt, yc2_gt, yc2_ad, yc2_da, yc2_sb, yc2_ml, yc2_lm, yc31_ge, ymodn, yI_1sl, yc2_dv, yn1_eq, yn1_lt, xgd_t, xlt_e, Option.bind_some, nI_add, pk_mul, pk_sub, pk_div, pk_rem, yI_and, yI_or, yI_xor, yI_nd, yI_nd2, yI_31, yI_shl, nI_leI, nI_ltI, nI_eq, nI_clamp, xinb_t, yP_z, yP_if, if_neg, h1, Bool.not_false, xia_t h2, h3 k (by omega), s_contains, yif_f (fun e => hb (eb.mp e))]
      rw [e]
      congr 2
      exact yP_c ⟨fun h => ⟨fun g1 g2 => absurd ⟨g1, g2⟩ hb, h⟩, fun h => h.2⟩
theorem s_isAlike {n : Nat} {v : Nat} {R : Nat → Nat} {m : xmm} (h : yrx v R m) (hG : yGr n R) {S : Nat} (hS : S < 2 ^ n) : fX9_isAlike v (nI S) (nI (2 ^ n - 1)) m = some (yP (ymo (yad R) (2 ^ n - 1) S), m) := by
  have h8 := y2p8 hG.1
  rw [yP_c (ymo_rows hG hS)]
  apply fX9_isAlike_i
  by_cases h0 : S = 0
  · simp (disch := omega) only [yl3, yl4, yl5, yl6, yl7, yl8, yl9, yl10, yl13, yl16, yl20, yl21, yl22, yl23, yl24, yl32, yl40, yl48, yl57, yl59, yl63, yl64, yl97, yl99, yl122, yl255, yl256, yl400, yl1000, yl2000, yl2048, yc0_eq, yc0_eq2, yc0_le, yc0_ge, yc0_lt, yc0_gt, yc0_ad, yc0_da, yc0_sb, yc0_ml, yc0_lm, yc1_eq, yc1_eq2, yc1_le, yc1_ge, yc1_lt, yc1_gt, yc1_ad, yc1_da, yc1_sb, yc1_ml, yc1_lm, yc2_eq, yc2_eq2, yc2_le, yc2_ge, yc2_lt, yc2_gt, yc2_ad, yc2_da, yc2_sb, yc2_ml, yc2_lm, yc31_ge, ymodn, yI_1sl, yc2_dv, yn1_eq, yn1_lt, xgd_t, xlt_e, Option.bind_some, nI_add, pk_mul, pk_sub, pk_div, pk_rem, yI_and, yI_or, yI_xor, yI_nd, yI_nd2, yI_31, yI_shl, nI_leI, nI_ltI, nI_eq, nI_clamp, xinb_t, yP_z, yP_if, if_pos]
    rw [yP_f (fun e => e.1 h0)]
  · simp (disch := omega) only [yl3, yl4, yl5, yl6, yl7, yl8, yl9, yl10, yl13, yl16, yl20, yl21, yl22, yl23, yl24, yl32, yl40, yl48, yl57, yl59, yl63, yl64, yl97, yl99, yl122, yl255, yl256, yl400, yl1000, yl2000, yl2048, yc0_eq, yc0_eq2, yc0_le, yc0_ge, yc0_lt, yc0_gt, yc0_ad, yc0_da, yc0_sb, yc0_ml, yc0_lm, yc1_eq, yc1_eq2, yc1_le, yc1_ge, yc1_lt, yc1_gt, yc1_ad, yc1_da, yc1_sb, yc1_ml, yc1_lm, yc2_eq, yc2_eq2, yc2_le, yc2_ge, yc2_lt, yc2_gt, yc2_ad, yc2_da, yc2_sb, yc2_ml, yc2_lm, yc31_ge, ymodn, yI_1sl, yc2_dv, yn1_eq, yn1_lt, xgd_t, xlt_e, Option.bind_some, nI_add, pk_mul, pk_sub, pk_div, pk_rem, yI_and, yI_or, yI_xor, yI_nd, yI_nd2, yI_31, yI_shl, nI_leI, nI_ltI, nI_eq, nI_clamp, xinb_t, yP_z, yP_if, if_neg]
    have e := s_isAlike_l h hG.1 hS 8 0 rfl
    rw [show (0 : Int32) = nI 0 from rfl, e]
    congr 2
    apply yP_c
    have := hG.1
    exact ⟨fun g => ⟨h0, fun p hp => g p (Nat.zero_le _) (by omega) hp⟩, fun g p _ _ hp => g.2 p hp⟩
def yrd (R : Nat → Nat) (S : Nat) : Prop := 4 ≤ ypp S ∧ (∀ p, p < 8 → yb S p → ypp (R p &&& S) = 2) ∧ ypt (yad R) S = 1
theorem ypt_8 (g : yG) (S : Nat) : ypt g S ≤ 8 := yct_le _ 8
theorem s_isRound_l {v : Nat} {R : Nat → Nat} {m : xmm} (h : yrx v R m) (hsy : ysy (yad R)) {S : Nat} (hS : S < 256) : ∀ (d k : Nat), k + d = 8 → bX9_isRound_12 v (nI S) (nI k) m = some (yP ((∀ p, k ≤ p → p < 8 → yb S p → ypp (R p &&& S) = 2) ∧ ypt (yad R) S = 1), m) := by
  intro d
  induction d with
  | zero =>
    intro k hk
    have e : k = 8 := by omega
    subst e
    have b := ypt_8 (yad R) S
    apply bX9_isRound_12_i
    simp (disch := omega) only [yl3, yl4, yl5, yl6, yl7, yl8, yl9, yl10, yl13, yl16, yl20, yl21, yl22, yl23, yl24, yl32, yl40, yl48, yl57, yl59, yl63, yl64, yl97, yl99, yl122, yl255, yl256, yl400, yl1000, yl2000, yl2048, yc0_eq, yc0_eq2, yc0_le, yc0_ge, yc0_lt, yc0_gt, yc0_ad, yc0_da, yc0_sb, yc0_ml, yc0_lm, yc1_eq, yc1_eq2, yc1_le, yc1_ge, yc1_lt, yc1_gt, yc1_ad, yc1_da, yc1_sb, yc1_ml, yc1_lm, yc2_eq, yc2_eq2, yc2_le, yc2_ge, yc2_lt, yc2_gt, yc2_ad, yc2_da, yc2_sb, yc2_ml, yc2_lm, yc31_ge, ymodn, yI_1sl, yc2_dv, yn1_eq, yn1_lt, xgd_t, xlt_e, Option.bind_some, nI_add, pk_mul, pk_sub, pk_div, pk_rem, yI_and, yI_or, yI_xor, yI_nd, yI_nd2, yI_31, yI_shl, nI_leI, nI_ltI, nI_eq, nI_clamp, xinb_t, yP_z, yP_if, if_pos, h.1, Bool.not_false, s_parts h hsy hS]
    by_cases e : ypt (yad R) S = 1
    · rw [if_pos e, yP_t ⟨yal_e, e⟩]
    · rw [if_neg e, yP_f (fun g => e g.2)]
  | succ d ih =>
    intro k hk
    rw [yP_c (and_congr_left fun _ => yal_s (P := fun p => yb S p → ypp (R p &&& S) = 2) (by omega : k < 8))]
    have e := ih (k + 1) (by omega)
    have b1 := h.2.2.2 k (by omega)
    have b2 := yand_lt (R k) S (n := 8) b1
    have b3 := ypp_le (R k &&& S)
    apply bX9_isRound_12_i
    by_cases hb : yb S k
    · by_cases e1 : ypp (R k &&& S) = 2
      · simp (disch := omega) only [yl3, yl4, yl5, yl6, yl7, yl8, yl9, yl10, yl13, yl16, yl20, yl21, yl22, yl23, yl24, yl32, yl40, yl48, yl57, yl59, yl63, yl64, yl97, yl99, yl122, yl255, yl256, yl400, yl1000, yl2000, yl2048, yc0_eq, yc0_eq2, yc0_le, yc0_ge, yc0_lt, yc0_gt, yc0_ad, yc0_da, yc0_sb, yc0_ml, yc0_lm, yc1_eq, yc1_eq2, yc1_le, yc1_ge, yc1_lt, yc1_gt, yc1_ad, yc1_da, yc1_sb, yc1_ml, yc1_lm, yc2_eq, yc2_eq2, yc2_le, yc2_ge, yc2_lt, yc2_gt, yc2_ad, yc2_da, yc2_sb, yc2_ml, yc2_lm, yc31_ge, ymodn, yI_1sl, yc2_dv, yn1_eq, yn1_lt, xgd_t, xlt_e, Option.bind_some, nI_add, pk_mul, pk_sub, pk_div, pk_rem, yI_and, yI_or, yI_xor, yI_nd, yI_nd2, yI_31, yI_shl, nI_leI, nI_ltI, nI_eq, nI_clamp, xinb_t, yP_z, yP_if, if_neg, s_contains, yif_t hb, h.1, Bool.not_false, xia_t h.2.1, h.2.2.1 k (by omega), s_bitCount b2, if_pos e1]
        rw [e]
        congr 2
        exact yP_c ⟨fun g => ⟨⟨fun _ => e1, g.1⟩, g.2⟩, fun g => ⟨g.1.2, g.2⟩⟩
      · simp (disch := omega) only [yl3, yl4, yl5, yl6, yl7, yl8, yl9, yl10, yl13, yl16, yl20, yl21, yl22, yl23, yl24, yl32, yl40, yl48, yl57, yl59, yl63, yl64, yl97, yl99, yl122, yl255, yl256, yl400, yl1000, yl2000, yl2048, yc0_eq, yc0_eq2, yc0_le, yc0_ge, yc0_lt, yc0_gt, yc0_ad, yc0_da, yc0_sb, yc0_ml, yc0_lm, yc1_eq, yc1_eq2, yc1_le, yc1_ge, yc1_lt, yc1_gt, yc1_ad, yc1_da, yc1_sb, yc1_ml, yc1_lm, yc2_eq, yc2_eq2, yc2_le, yc2_ge, yc2_lt, yc2_gt, yc2_ad, yc2_da, yc2_sb, yc2_ml, yc2_lm, yc31_ge, ymodn, yI_1sl, yc2_dv, yn1_eq, yn1_lt, xgd_t, xlt_e, Option.bind_some, nI_add, pk_mul, pk_sub, pk_div, pk_rem, yI_and, yI_or, yI_xor, yI_nd, yI_nd2, yI_31, yI_shl, nI_leI, nI_ltI, nI_eq, nI_clamp, xinb_t, yP_z, yP_if, if_neg, s_contains, yif_t hb, h.1, Bool.not_false, xia_t h.2.1, h.2.2.1 k (by omega), s_bitCount b2, if_neg e1]
        rw [yP_f (fun g => e1 (g.1.1 hb))]
    · simp (disch := omega) only [yl3, yl4, yl5, yl6, yl7, yl8, yl9, yl10, yl13, yl16, yl20, yl21, yl22, yl23, yl24, yl32, yl40, yl48, yl57, yl59, yl63, yl64, yl97, yl99, yl122, yl255, yl256, yl400, yl1000, yl2000, yl2048, yc0_eq, yc0_eq2, yc0_le, yc0_ge, yc0_lt, yc0_gt, yc0_ad, yc0_da, yc0_sb, yc0_ml, yc0_lm, yc1_eq, yc1_eq2, yc1_le, yc1_ge, yc1_lt, yc1_gt, yc1_ad, yc1_da, yc1_sb, yc1_ml, yc1_lm, yc2_eq, yc2_eq2, yc2_le, yc2_ge, yc2_lt, yc2_gt, yc2_ad, yc2_da, yc2_sb, yc2_ml, yc2_lm, yc31_ge, ymodn, yI_1sl, yc2_dv, yn1_eq, yn1_lt, xgd_t, xlt_e, Option.bind_some, nI_add, pk_mul, pk_sub, pk_div, pk_rem, yI_and, yI_or, yI_xor, yI_nd, yI_nd2, yI_31, yI_shl, nI_leI, nI_ltI, nI_eq, nI_clamp, xinb_t, yP_z, yP_if, if_neg, s_contains, yif_f hb]
      rw [e]
      congr 2
      exact yP_c ⟨fun g => ⟨⟨fun e => absurd e hb, g.1⟩, g.2⟩, fun g => ⟨g.1.2, g.2⟩⟩
theorem s_isRound {v : Nat} {R : Nat → Nat} {m : xmm} (h : yrx v R m) (hsy : ysy (yad R)) {S : Nat} (hS : S < 256) : fX9_isRound v (nI S) m = some (yP (yrd R S), m) := by
  have b := ypp_le S
  apply fX9_isRound_i
  by_cases e4 : 4 ≤ ypp S
  · simp (disch := omega) only [yl3, yl4, yl5, yl6, yl7, yl8, yl9, yl10, yl13, yl16, yl20, yl21, yl22, yl23, yl24, yl32, yl40, yl48, yl57, yl59, yl63, yl64, yl97, yl99, yl122, yl255, yl256, yl400, yl1000, yl2000, yl2048, yc0_eq, yc0_eq2, yc0_le, yc0_ge, yc0_lt, yc0_gt, yc0_ad, yc0_da, yc0_sb, yc0_ml, yc0_lm, yc1_eq, yc1_eq2, yc1_le, yc1_ge, yc1_lt, yc1_gt, yc1_ad, yc1_da, yc1_sb, yc1_ml, yc1_lm, yc2_eq, yc2_eq2, yc2_le, yc2_ge, yc2_lt, yc2_gt, yc2_ad, yc2_da, yc2_sb, yc2_ml, yc2_lm, yc31_ge, ymodn, yI_1sl, yc2_dv, yn1_eq, yn1_lt, xgd_t, xlt_e, Option.bind_some, nI_add, pk_mul, pk_sub, pk_div, pk_rem, yI_and, yI_or, yI_xor, yI_nd, yI_nd2, yI_31, yI_shl, nI_leI, nI_ltI, nI_eq, nI_clamp, xinb_t, yP_z, yP_if, s_bitCount hS, if_pos]
    rw [show (0 : Int32) = nI 0 from rfl, s_isRound_l h hsy hS 8 0 rfl]
    congr 2
    exact yP_c ⟨fun g => ⟨e4, fun p hp => g.1 p (Nat.zero_le _) hp, g.2⟩, fun g => ⟨fun p _ hp => g.2.1 p hp, g.2.2⟩⟩
  · simp (disch := omega) only [yl3, yl4, yl5, yl6, yl7, yl8, yl9, yl10, yl13, yl16, yl20, yl21, yl22, yl23, yl24, yl32, yl40, yl48, yl57, yl59, yl63, yl64, yl97, yl99, yl122, yl255, yl256, yl400, yl1000, yl2000, yl2048, yc0_eq, yc0_eq2, yc0_le, yc0_ge, yc0_lt, yc0_gt, yc0_ad, yc0_da, yc0_sb, yc0_ml, yc0_lm, yc1_eq, yc1_eq2, yc1_le, yc1_ge, yc1_lt, yc1_gt, yc1_ad, yc1_da, yc1_sb, yc1_ml, yc1_lm, yc2_eq, yc2_eq2, yc2_le, yc2_ge, yc2_lt, yc2_gt, yc2_ad, yc2_da, yc2_sb, yc2_ml, yc2_lm, yc31_ge, ymodn, yI_1sl, yc2_dv, yn1_eq, yn1_lt, xgd_t, xlt_e, Option.bind_some, nI_add, pk_mul, pk_sub, pk_div, pk_rem, yI_and, yI_or, yI_xor, yI_nd, yI_nd2, yI_31, yI_shl, nI_leI, nI_ltI, nI_eq, nI_clamp, xinb_t, yP_z, yP_if, s_bitCount hS, if_neg]
    rw [yP_f (fun g => e4 g.1)]
/-! counted, and the greatest -/
noncomputable def ygs (P : Nat → Prop) : Nat → Nat
  | 0 => 0
  | k + 1 => yif (P k ∧ ypp (ygs P k) < ypp k) k (ygs P k)
theorem ygs_s (P : Nat → Prop) (k : Nat) : ygs P (k + 1) = yif (P k ∧ ypp (ygs P k) < ypp k) k (ygs P k) := rfl
theorem ygs_lt (P : Nat → Prop) : ∀ k, ygs P k < k ∨ ygs P k = 0
  | 0 => Or.inr rfl
  | k + 1 => by
    rw [ygs_s]
    by_cases h : P k ∧ ypp (ygs P k) < ypp k
    · rw [yif_t h]; exact Or.inl (Nat.lt_succ_self k)
    · rw [yif_f h]
      rcases ygs_lt P k with e | e
      · exact Or.inl (by omega)
      · exact Or.inr e
theorem ygs_c {P Q : Nat → Prop} : ∀ {n : Nat}, (∀ k, k < n → (P k ↔ Q k)) → ygs P n = ygs Q n
  | 0, _ => rfl
  | n + 1, h => by
    rw [ygs_s, ygs_s, ygs_c fun k hk => h k (Nat.lt_succ_of_lt hk)]
    exact yif_c (and_congr_left fun _ => h n (Nat.lt_succ_self n))
theorem s_gApart_l {n : Nat} {v : Nat} {R : Nat → Nat} {m : xmm} (h : yrx v R m) (hn : n ≤ 8) : ∀ (d k : Nat), k + d = 2 ^ n → bX9_greatestApart_4 v (nI (2 ^ n - 1)) (nI (ygs (yap R) k)) (nI k) m = some (nI (ygs (yap R) (2 ^ n)), m) := by
  have h8 := y2p8 hn
  have h1 := y2p1 n
  intro d
  induction d with
  | zero =>
    intro k hk
    have e : k = 2 ^ n := by omega
    subst e
    apply bX9_greatestApart_4_i
    simp (disch := omega) only [yl3, yl4, yl5, yl6, yl7, yl8, yl9, yl10, yl13, yl16, yl20, yl21, yl22, yl23, yl24, yl32, yl40, yl48, yl57, yl59, yl63, yl64, yl97, yl99, yl122, yl255, yl256, yl400, yl1000, yl2000, yl2048, yc0_eq, yc0_eq2, yc0_le, yc0_ge, yc0_lt, yc0_gt, yc0_ad, yc0_da, yc0_sb, yc0_ml, yc0_lm, yc1_eq, yc1_eq2, yc1_le, yc1_ge, yc1_lt, yc1_gt, yc1_ad, yc1_da, yc1_sb, yc1_ml, yc1_lm, yc2_eq, yc2_eq2, yc2_le, yc2_ge, yc2_lt, yc2_gt, yc2_ad, yc2_da, yc2_sb, yc2_ml, yc2_lm, yc31_ge, ymodn, yI_1sl, yc2_dv, yn1_eq, yn1_lt, xgd_t, xlt_e, Option.bind_some, nI_add, pk_mul, pk_sub, pk_div, pk_rem, yI_and, yI_or, yI_xor, yI_nd, yI_nd2, yI_31, yI_shl, nI_leI, nI_ltI, nI_eq, nI_clamp, xinb_t, yP_z, yP_if, if_pos]
  | succ d ih =>
    intro k hk
    have e := ih (k + 1) (by omega)
    rw [ygs_s] at e
    have b1 := ygs_lt (yap R) k
    have b2 := ypp_le k
    have b3 := ypp_le (ygs (yap R) k)
    have b4 : ygs (yap R) k < 256 := by omega
    apply bX9_greatestApart_4_i
    by_cases hlt : ypp (ygs (yap R) k) < ypp k
    · by_cases hp : yap R k
      · rw [yif_t ⟨hp, hlt⟩] at e
        simp (disch := omega) only [yl3, yl4, yl5, yl6, yl7, yl8, yl9, yl10, yl13, yl16, yl20, yl21, yl22, yl23, yl24, yl32, yl40, yl48, yl57, yl59, yl63, yl64, yl97, yl99, yl122, yl255, yl256, yl400, yl1000, yl2000, yl2048, yc0_eq, yc0_eq2, yc0_le, yc0_ge, yc0_lt, yc0_gt, yc0_ad, yc0_da, yc0_sb, yc0_ml, yc0_lm, yc1_eq, yc1_eq2, yc1_le, yc1_ge, yc1_lt, yc1_gt, yc1_ad, yc1_da, yc1_sb, yc1_ml, yc1_lm, yc2_eq, yc2_eq2, yc2_le, yc2_ge, yc2_lt, yc2_gt, yc2_ad, yc2_da, yc2_sb, yc2_ml, yc2_lm, yc31_ge, ymodn, yI_1sl, yc2_dv, yn1_eq, yn1_lt, xgd_t, xlt_e, Option.bind_some, nI_add, pk_mul, pk_sub, pk_div, pk_rem, yI_and, yI_or, yI_xor, yI_nd, yI_nd2, yI_31, yI_shl, nI_leI, nI_ltI, nI_eq, nI_clamp, xinb_t, yP_z, yP_if, if_neg, s_bitCount (show k < 256 by omega), s_bitCount b4, h.1, Bool.not_false, s_isApart h (S := k) (by omega), yif_t hp]
        exact e
      · rw [yif_f (fun g => hp g.1)] at e
        simp (disch := omega) only [yl3, yl4, yl5, yl6, yl7, yl8, yl9, yl10, yl13, yl16, yl20, yl21, yl22, yl23, yl24, yl32, yl40, yl48, yl57, yl59, yl63, yl64, yl97, yl99, yl122, yl255, yl256, yl400, yl1000, yl2000, yl2048, yc0_eq, yc0_eq2, yc0_le, yc0_ge, yc0_lt, yc0_gt, yc0_ad, yc0_da, yc0_sb, yc0_ml, yc0_lm, yc1_eq, yc1_eq2, yc1_le, yc1_ge, yc1_lt, yc1_gt, yc1_ad, yc1_da, yc1_sb, yc1_ml, yc1_lm, yc2_eq, yc2_eq2, yc2_le, yc2_ge, yc2_lt, yc2_gt, yc2_ad, yc2_da, yc2_sb, yc2_ml, yc2_lm, yc31_ge, ymodn, yI_1sl, yc2_dv, yn1_eq, yn1_lt, xgd_t, xlt_e, Option.bind_some, nI_add, pk_mul, pk_sub, pk_div, pk_rem, yI_and, yI_or, yI_xor, yI_nd, yI_nd2, yI_31, yI_shl, nI_leI, nI_ltI, nI_eq, nI_clamp, xinb_t, yP_z, yP_if, if_neg, s_bitCount (show k < 256 by omega), s_bitCount b4, h.1, Bool.not_false, s_isApart h (S := k) (by omega), yif_f hp]
        exact e
    · rw [yif_f (fun g => hlt g.2)] at e
      simp (disch := omega) only [yl3, yl4, yl5, yl6, yl7, yl8, yl9, yl10, yl13, yl16, yl20, yl21, yl22, yl23, yl24, yl32, yl40, yl48, yl57, yl59, yl63, yl64, yl97, yl99, yl122, yl255, yl256, yl400, yl1000, yl2000, yl2048, yc0_eq, yc0_eq2, yc0_le, yc0_ge, yc0_lt, yc0_gt, yc0_ad, yc0_da, yc0_sb, yc0_ml, yc0_lm, yc1_eq, yc1_eq2, yc1_le, yc1_ge, yc1_lt, yc1_gt, yc1_ad, yc1_da, yc1_sb, yc1_ml, yc1_lm, yc2_eq, yc2_eq2, yc2_le, yc2_ge, yc2_lt, yc2_gt, yc2_ad, yc2_da, yc2_sb, yc2_ml, yc2_lm, yc31_ge, ymodn, yI_1sl, yc2_dv, yn1_eq, yn1_lt, xgd_t, xlt_e, Option.bind_some, nI_add, pk_mul, pk_sub, pk_div, pk_rem, yI_and, yI_or, yI_xor, yI_nd, yI_nd2, yI_31, yI_shl, nI_leI, nI_ltI, nI_eq, nI_clamp, xinb_t, yP_z, yP_if, if_neg, s_bitCount (show k < 256 by omega), s_bitCount b4, if_pos]
      exact e
theorem s_gApart {n : Nat} {v : Nat} {R : Nat → Nat} {m : xmm} (h : yrx v R m) (hn : n ≤ 8) : fX9_greatestApart v (nI (2 ^ n - 1)) m = some (nI (ygs (yap R) (2 ^ n)), m) := by
  apply fX9_greatestApart_i
  exact s_gApart_l h hn _ 0 (Nat.zero_add _)
noncomputable def ycnt (P : Nat → Prop) (n : Nat) : Nat := yct (fun S => S ≠ 0 ∧ P S) (2 ^ n)
theorem yP_add (k : Nat) (P : Prop) : nI k + yP P = nI (k + yif P 1 0) := by
  by_cases h : P
  · rw [yP_t h, yif_t h, yc1_ad]
  · rw [yP_f h, yif_f h, Int32.add_zero, Nat.add_zero]
theorem s_cApart_l {n : Nat} {v : Nat} {R : Nat → Nat} {m : xmm} (h : yrx v R m) (hG : yGr n R) : ∀ (d k : Nat), k + d = 2 ^ n → 0 < k → bX9_countApart_4 v (nI (2 ^ n - 1)) (nI (yct (fun S => S ≠ 0 ∧ (yap R) S) k)) (nI k) m = some (nI (ycnt (yap R) n), m) := by
  have hn := hG.1
  have h8 := y2p8 hn
  have h1 := y2p1 n
  intro d
  induction d with
  | zero =>
    intro k hk h0
    have e : k = 2 ^ n := by omega
    subst e
    apply bX9_countApart_4_i
    simp (disch := omega) only [yl3, yl4, yl5, yl6, yl7, yl8, yl9, yl10, yl13, yl16, yl20, yl21, yl22, yl23, yl24, yl32, yl40, yl48, yl57, yl59, yl63, yl64, yl97, yl99, yl122, yl255, yl256, yl400, yl1000, yl2000, yl2048, yc0_eq, yc0_eq2, yc0_le, yc0_ge, yc0_lt, yc0_gt, yc0_ad, yc0_da, yc0_sb, yc0_ml, yc0_lm, yc1_eq, yc1_eq2, yc1_le, yc1_ge, yc1_lt, yc1_gt, yc1_ad, yc1_da, yc1_sb, yc1_ml, yc1_lm, yc2_eq, yc2_eq2, yc2_le, yc2_ge, yc2_lt, yc2_gt, yc2_ad, yc2_da, yc2_sb, yc2_ml, yc2_lm, yc31_ge, ymodn, yI_1sl, yc2_dv, yn1_eq, yn1_lt, xgd_t, xlt_e, Option.bind_some, nI_add, pk_mul, pk_sub, pk_div, pk_rem, yI_and, yI_or, yI_xor, yI_nd, yI_nd2, yI_31, yI_shl, nI_leI, nI_ltI, nI_eq, nI_clamp, xinb_t, yP_z, yP_if, if_pos]
    rfl
  | succ d ih =>
    intro k hk h0
    have e := ih (k + 1) (by omega) (by omega)
    rw [yct_s] at e
    have c := s_isApart h (S:=k) (by omega)
    apply bX9_countApart_4_i
    simp (disch := omega) only [yl3, yl4, yl5, yl6, yl7, yl8, yl9, yl10, yl13, yl16, yl20, yl21, yl22, yl23, yl24, yl32, yl40, yl48, yl57, yl59, yl63, yl64, yl97, yl99, yl122, yl255, yl256, yl400, yl1000, yl2000, yl2048, yc0_eq, yc0_eq2, yc0_le, yc0_ge, yc0_lt, yc0_gt, yc0_ad, yc0_da, yc0_sb, yc0_ml, yc0_lm, yc1_eq, yc1_eq2, yc1_le, yc1_ge, yc1_lt, yc1_gt, yc1_ad, yc1_da, yc1_sb, yc1_ml, yc1_lm, yc2_eq, yc2_eq2, yc2_le, yc2_ge, yc2_lt, yc2_gt, yc2_ad, yc2_da, yc2_sb, yc2_ml, yc2_lm, yc31_ge, ymodn, yI_1sl, yc2_dv, yn1_eq, yn1_lt, xgd_t, xlt_e, Option.bind_some, nI_add, pk_mul, pk_sub, pk_div, pk_rem, yI_and, yI_or, yI_xor, yI_nd, yI_nd2, yI_31, yI_shl, nI_leI, nI_ltI, nI_eq, nI_clamp, xinb_t, yP_z, yP_if, if_neg, h.1, Bool.not_false, c, s_bit, yP_add]
    rw [yif_c (q := k ≠ 0 ∧ (yap R) k) ⟨fun g => ⟨by omega, g⟩, fun g => g.2⟩]
    exact e
theorem s_cApart {n : Nat} {v : Nat} {R : Nat → Nat} {m : xmm} (h : yrx v R m) (hG : yGr n R) : fX9_countApart v (nI (2 ^ n - 1)) m = some (nI (ycnt (yap R) n), m) := by
  have h1 := y2p1 n
  apply fX9_countApart_i
  have e := s_cApart_l h hG (2 ^ n - 1) 1 (by omega) (by omega)
  have e0 : yct (fun S => S ≠ 0 ∧ (yap R) S) 1 = 0 := by
    rw [yct_s, yif_f (fun g => g.1 rfl)]
    rfl
  rw [e0] at e
  exact e
theorem s_cRounds_l {n : Nat} {v : Nat} {R : Nat → Nat} {m : xmm} (h : yrx v R m) (hG : yGr n R) : ∀ (d k : Nat), k + d = 2 ^ n → 0 < k → bX9_countRounds_4 v (nI (2 ^ n - 1)) (nI (yct (fun S => S ≠ 0 ∧ (yrd R) S) k)) (nI k) m = some (nI (ycnt (yrd R) n), m) := by
  have hn := hG.1
  have h8 := y2p8 hn
  have h1 := y2p1 n
  intro d
  induction d with
  | zero =>
    intro k hk h0
    have e : k = 2 ^ n := by omega
    subst e
    apply bX9_countRounds_4_i
    simp (disch := omega) only [yl3, yl4, yl5, yl6, yl7, yl8, yl9, yl10, yl13, yl16, yl20, yl21, yl22, yl23, yl24, yl32, yl40, yl48, yl57, yl59, yl63, yl64, yl97, yl99, yl122, yl255, yl256, yl400, yl1000, yl2000, yl2048, yc0_eq, yc0_eq2, yc0_le, yc0_ge, yc0_lt, yc0_gt, yc0_ad, yc0_da, yc0_sb, yc0_ml, yc0_lm, yc1_eq, yc1_eq2, yc1_le, yc1_ge, yc1_lt, yc1_gt, yc1_ad, yc1_da, yc1_sb, yc1_ml, yc1_lm, yc2_eq, yc2_eq2, yc2_le, yc2_ge, yc2_lt, yc2_gt, yc2_ad, yc2_da, yc2_sb, yc2_ml, yc2_lm, yc31_ge, ymodn, yI_1sl, yc2_dv, yn1_eq, yn1_lt, xgd_t, xlt_e, Option.bind_some, nI_add, pk_mul, pk_sub, pk_div, pk_rem, yI_and, yI_or, yI_xor, yI_nd, yI_nd2, yI_31, yI_shl, nI_leI, nI_ltI, nI_eq, nI_clamp, xinb_t, yP_z, yP_if, if_pos]
    rfl
  | succ d ih =>
    intro k hk h0
    have e := ih (k + 1) (by omega) (by omega)
    rw [yct_s] at e
    have c := s_isRound h hG.2.2.2 (S:=k) (by omega)
    apply bX9_countRounds_4_i
    simp (disch := omega) only [yl3, yl4, yl5, yl6, yl7, yl8, yl9, yl10, yl13, yl16, yl20, yl21, yl22, yl23, yl24, yl32, yl40, yl48, yl57, yl59, yl63, yl64, yl97, yl99, yl122, yl255, yl256, yl400, yl1000, yl2000, yl2048, yc0_eq, yc0_eq2, yc0_le, yc0_ge, yc0_lt, yc0_gt, yc0_ad, yc0_da, yc0_sb, yc0_ml, yc0_lm, yc1_eq, yc1_eq2, yc1_le, yc1_ge, yc1_lt, yc1_gt, yc1_ad, yc1_da, yc1_sb, yc1_ml, yc1_lm, yc2_eq, yc2_eq2, yc2_le, yc2_ge, yc2_lt, yc2_gt, yc2_ad, yc2_da, yc2_sb, yc2_ml, yc2_lm, yc31_ge, ymodn, yI_1sl, yc2_dv, yn1_eq, yn1_lt, xgd_t, xlt_e, Option.bind_some, nI_add, pk_mul, pk_sub, pk_div, pk_rem, yI_and, yI_or, yI_xor, yI_nd, yI_nd2, yI_31, yI_shl, nI_leI, nI_ltI, nI_eq, nI_clamp, xinb_t, yP_z, yP_if, if_neg, h.1, Bool.not_false, c, s_bit, yP_add]
    rw [yif_c (q := k ≠ 0 ∧ (yrd R) k) ⟨fun g => ⟨by omega, g⟩, fun g => g.2⟩]
    exact e
theorem s_cRounds {n : Nat} {v : Nat} {R : Nat → Nat} {m : xmm} (h : yrx v R m) (hG : yGr n R) : fX9_countRounds v (nI (2 ^ n - 1)) m = some (nI (ycnt (yrd R) n), m) := by
  have h1 := y2p1 n
  apply fX9_countRounds_i
  have e := s_cRounds_l h hG (2 ^ n - 1) 1 (by omega) (by omega)
  have e0 : yct (fun S => S ≠ 0 ∧ (yrd R) S) 1 = 0 := by
    rw [yct_s, yif_f (fun g => g.1 rfl)]
    rfl
  rw [e0] at e
  exact e
theorem s_cAlike_l {n : Nat} {v : Nat} {R : Nat → Nat} {m : xmm} (h : yrx v R m) (hG : yGr n R) : ∀ (d k : Nat), k + d = 2 ^ n → 0 < k → bX9_countAlike_4 v (nI (2 ^ n - 1)) (nI (yct (fun S => S ≠ 0 ∧ (ymo (yad R) (2^n-1)) S) k)) (nI k) m = some (nI (ycnt (ymo (yad R) (2^n-1)) n), m) := by
  have hn := hG.1
  have h8 := y2p8 hn
  have h1 := y2p1 n
  intro d
  induction d with
  | zero =>
    intro k hk h0
    have e : k = 2 ^ n := by omega
    subst e
    apply bX9_countAlike_4_i
    simp (disch := omega) only [yl3, yl4, yl5, yl6, yl7, yl8, yl9, yl10, yl13, yl16, yl20, yl21, yl22, yl23, yl24, yl32, yl40, yl48, yl57, yl59, yl63, yl64, yl97, yl99, yl122, yl255, yl256, yl400, yl1000, yl2000, yl2048, yc0_eq, yc0_eq2, yc0_le, yc0_ge, yc0_lt, yc0_gt, yc0_ad, yc0_da, yc0_sb, yc0_ml, yc0_lm, yc1_eq, yc1_eq2, yc1_le, yc1_ge, yc1_lt, yc1_gt, yc1_ad, yc1_da, yc1_sb, yc1_ml, yc1_lm, yc2_eq, yc2_eq2, yc2_le, yc2_ge, yc2_lt, yc2_gt, yc2_ad, yc2_da, yc2_sb, yc2_ml, yc2_lm, yc31_ge, ymodn, yI_1sl, yc2_dv, yn1_eq, yn1_lt, xgd_t, xlt_e, Option.bind_some, nI_add, pk_mul, pk_sub, pk_div, pk_rem, yI_and, yI_or, yI_xor, yI_nd, yI_nd2, yI_31, yI_shl, nI_leI, nI_ltI, nI_eq, nI_clamp, xinb_t, yP_z, yP_if, if_pos]
    rfl
  | succ d ih =>
    intro k hk h0
    have e := ih (k + 1) (by omega) (by omega)
    rw [yct_s] at e
    have c := s_isAlike h hG (S:=k) (by omega)
    apply bX9_countAlike_4_i
    simp (disch := omega) only [yl3, yl4, yl5, yl6, yl7, yl8, yl9, yl10, yl13, yl16, yl20, yl21, yl22, yl23, yl24, yl32, yl40, yl48, yl57, yl59, yl63, yl64, yl97, yl99, yl122, yl255, yl256, yl400, yl1000, yl2000, yl2048, yc0_eq, yc0_eq2, yc0_le, yc0_ge, yc0_lt, yc0_gt, yc0_ad, yc0_da, yc0_sb, yc0_ml, yc0_lm, yc1_eq, yc1_eq2, yc1_le, yc1_ge, yc1_lt, yc1_gt, yc1_ad, yc1_da, yc1_sb, yc1_ml, yc1_lm, yc2_eq, yc2_eq2, yc2_le, yc2_ge, yc2_lt, yc2_gt, yc2_ad, yc2_da, yc2_sb, yc2_ml, yc2_lm, yc31_ge, ymodn, yI_1sl, yc2_dv, yn1_eq, yn1_lt, xgd_t, xlt_e, Option.bind_some, nI_add, pk_mul, pk_sub, pk_div, pk_rem, yI_and, yI_or, yI_xor, yI_nd, yI_nd2, yI_31, yI_shl, nI_leI, nI_ltI, nI_eq, nI_clamp, xinb_t, yP_z, yP_if, if_neg, h.1, Bool.not_false, c, s_bit, yP_add]
    rw [yif_c (q := k ≠ 0 ∧ (ymo (yad R) (2^n-1)) k) ⟨fun g => ⟨by omega, g⟩, fun g => g.2⟩]
    exact e
theorem s_cAlike {n : Nat} {v : Nat} {R : Nat → Nat} {m : xmm} (h : yrx v R m) (hG : yGr n R) : fX9_countAlike v (nI (2 ^ n - 1)) m = some (nI (ycnt (ymo (yad R) (2^n-1)) n), m) := by
  have h1 := y2p1 n
  apply fX9_countAlike_i
  have e := s_cAlike_l h hG (2 ^ n - 1) 1 (by omega) (by omega)
  have e0 : yct (fun S => S ≠ 0 ∧ (ymo (yad R) (2^n-1)) S) 1 = 0 := by
    rw [yct_s, yif_f (fun g => g.1 rfl)]
    rfl
  rw [e0] at e
  exact e
