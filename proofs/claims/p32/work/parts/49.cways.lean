/-! WAYS: the class -/
theorem ypt_co {n : Nat} {R : Nat → Nat} (hG : yGr n R) {S : Nat} (hS : ysb S (2 ^ n - 1)) : ypt (yad (yop n R)) S = ypt (yco (yad R)) S := by
  have lt : ∀ {a}, yb S a → a < n := fun h => yall_b.mp (hS _ h)
  have e : ∀ a b, yb S a → (ycn (yad (yop n R)) S a b ↔ ycn (yco (yad R)) S a b) := by
    intro a b ha
    constructor
    · intro h
      have := h (fun u => yb S u ∧ ycn (yco (yad R)) S a u) ⟨ha, ycn_r _ S a⟩ fun u v hu huv hv => ⟨hv, ycn_s hu.2 ⟨(yop_b.mp huv).2.2.1, (yop_b.mp huv).2.2.2⟩ hv⟩
      exact this.2
    · intro h
      have := h (fun u => yb S u ∧ ycn (yad (yop n R)) S a u) ⟨ha, ycn_r _ S a⟩ fun u v hu huv hv => ⟨hv, ycn_s hu.2 (yop_b.mpr ⟨lt hu.1, lt hv, huv.1, huv.2⟩) hv⟩
      exact this.2
  unfold ypt
  apply yct_c
  intro a _
  exact and_congr_right fun _ => ⟨fun h b h1 h2 h3 => h b h1 h2 ((e b a h2).mpr h3), fun h b h1 h2 h3 => h b h1 h2 ((e b a h2).mp h3)⟩
theorem s_fact_l {k : Nat} (hk : k ≤ 8) (m : xmm) : ∀ (d i : Nat), i + d = k + 1 → 1 ≤ i → bX2_factorial_4 (nI k) (nI (yfa (i - 1))) (nI i) m = some (nI (yfa k), m) := by
  intro d
  induction d with
  | zero =>
    intro i hi h1
    have e : i = k + 1 := by omega
    subst e
    apply bX2_factorial_4_i
    simp (disch := omega) only [yl3, yl4, yl5, yl6, yl7, yl8, yl9, yl10, yl13, yl16, yl20, yl21, yl22, yl23, yl24, yl32, yl40, yl48, yl57, yl59, yl63, yl64, yl97, yl99, yl122, yl255, yl256, yl400, yl1000, yl2000, yl2048, yc0_eq, yc0_eq2, yc0_le, yc0_ge, yc0_lt, yc0_gt, yc0_ad, yc0_da, yc0_sb, yc0_ml, yc0_lm, yc1_eq, yc1_eq2, yc1_le, yc1_ge, yc1_lt, yc1_gt, yc1_ad, yc1_da, yc1_sb, yc1_ml, yc1_lm, yc2_eq, yc2_eq2, yc2_le, yc2_ge, yc2_lt, yc2_gt, yc2_ad, yc2_da, yc2_sb, yc2_ml, yc2_lm, yc31_ge, ymodn, yI_1sl, yc2_dv, yn1_eq, yn1_lt, xgd_t, xlt_e, Option.bind_some, nI_add, pk_mul, pk_sub, pk_div, pk_rem, yI_and, yI_or, yI_xor, yI_nd, yI_nd2, yI_31, yI_shl, nI_leI, nI_ltI, nI_eq, nI_clamp, xinb_t, yP_z, yP_if, if_pos]
    rfl
  | succ d ih =>
    intro i hi h1
    have e := ih (i + 1) (by omega) (by omega)
    have e2 : yfa (i + 1 - 1) = yfa (i - 1) * i := by
      rw [Nat.add_sub_cancel]
      cases i with
      | zero => omega
      | succ i =>
        rw [Nat.add_sub_cancel]
        exact Nat.mul_comm _ _
    rw [e2] at e
    apply bX2_factorial_4_i
    simp (disch := omega) only [yl3, yl4, yl5, yl6, yl7, yl8, yl9, yl10, yl13, yl16, yl20, yl21, yl22, yl23, yl24, yl32, yl40, yl48, yl57, yl59, yl63, yl64, yl97, yl99, yl122, yl255, yl256, yl400, yl1000, yl2000, yl2048, yc0_eq, yc0_eq2, yc0_le, yc0_ge, yc0_lt, yc0_gt, yc0_ad, yc0_da, yc0_sb, yc0_ml, yc0_lm, yc1_eq, yc1_eq2, yc1_le, yc1_ge, yc1_lt, yc1_gt, yc1_ad, yc1_da, yc1_sb, yc1_ml, yc1_lm, yc2_eq, yc2_eq2, yc2_le, yc2_ge, yc2_lt, yc2_gt, yc2_ad, yc2_da, yc2_sb, yc2_ml, yc2_lm, yc31_ge, ymodn, yI_1sl, yc2_dv, yn1_eq, yn1_lt, xgd_t, xlt_e, Option.bind_some, nI_add, pk_mul, pk_sub, pk_div, pk_rem, yI_and, yI_or, yI_xor, yI_nd, yI_nd2, yI_31, yI_shl, nI_leI, nI_ltI, nI_eq, nI_clamp, xinb_t, yP_z, yP_if, if_neg]
    exact e
theorem s_fact {k : Nat} (hk : k ≤ 8) (m : xmm) : fX2_factorial (nI k) m = some (nI (yfa k), m) := by
  apply fX2_factorial_i
  rcases (show k = 0 ∨ 1 ≤ k by omega) with e | e
  · subst e
    apply bX2_factorial_4_i
    rw [if_pos (by decide)]
    rfl
  · exact s_fact_l hk m (k - 1) 2 (by omega) (by decide)
/-- the network, and the other one, in their cells -/
def yNO (n : Nat) (R : Nat → Nat) (m : xmm) : Prop := m.1 10 0 = nI n ∧ yrw 11 R m ∧ yrw 13 (yop n R) m
theorem yNO_11 {n : Nat} {R : Nat → Nat} (hG : yGr n R) {m : xmm} (h : yNO n R m) : yrx 11 R m := ⟨rfl, rfl, h.2.1, fun p _ => yGr_8 hG p⟩
theorem yNO_13 {n : Nat} {R : Nat → Nat} (hG : yGr n R) {m : xmm} (h : yNO n R m) : yrx 13 (yop n R) m := ⟨rfl, rfl, h.2.2, fun p _ => yGr_8 (yop_gr hG) p⟩
theorem yNO_r {n : Nat} {R : Nat → Nat} {L : List Nat} {m m' : xmm} (h : yNO n R m) (hf : yfr L m m') (h1 : 10 ∉ L) (h2 : 11 ∉ L) (h3 : 13 ∉ L) : yNO n R m' := ⟨by rw [yfr_1 hf 10 0 h1]; exact h.1, fun p hp => by rw [yfr_1 hf 11 p h2]; exact h.2.1 p hp, fun p hp => by rw [yfr_1 hf 13 p h3]; exact h.2.2 p hp⟩
theorem s_everyPost {n : Nat} (hn : n ≤ 8) {m : xmm} (h : m.1 10 0 = nI n) : fX3_everyPost 10 m = some (nI (2 ^ n - 1), m) := by
  have h1 := y2p1 n
  apply fX3_everyPost_i
  rw [show Nat.beq 10 1999 = false from rfl, show xob 10 3 = true from rfl, h]
  simp (disch := omega) only [yl3, yl4, yl5, yl6, yl7, yl8, yl9, yl10, yl13, yl16, yl20, yl21, yl22, yl23, yl24, yl32, yl40, yl48, yl57, yl59, yl63, yl64, yl97, yl99, yl122, yl255, yl256, yl400, yl1000, yl2000, yl2048, yc0_eq, yc0_eq2, yc0_le, yc0_ge, yc0_lt, yc0_gt, yc0_ad, yc0_da, yc0_sb, yc0_ml, yc0_lm, yc1_eq, yc1_eq2, yc1_le, yc1_ge, yc1_lt, yc1_gt, yc1_ad, yc1_da, yc1_sb, yc1_ml, yc1_lm, yc2_eq, yc2_eq2, yc2_le, yc2_ge, yc2_lt, yc2_gt, yc2_ad, yc2_da, yc2_sb, yc2_ml, yc2_lm, yc31_ge, ymodn, yI_1sl, yc2_dv, yn1_eq, yn1_lt, xgd_t, xlt_e, Option.bind_some, nI_add, pk_mul, pk_sub, pk_div, pk_rem, yI_and, yI_or, yI_xor, yI_nd, yI_nd2, yI_31, yI_shl, nI_leI, nI_ltI, nI_eq, nI_clamp, xinb_t, yP_z, yP_if, Bool.not_false]
theorem s_ownWays {n : Nat} {R : Nat → Nat} (hG : yGr n R) {m : xmm} (h : yNO n R m) {S : Nat} (hS : S < 2 ^ n) : fX2_ownWays 10 12 (nI S) m = some (nI (yw (yad R) S), m) := by
  have hn := hG.1
  have h8 := y2p8 hn
  have sub : ysb S (2 ^ n - 1) := fun a ha => yall_b.mpr (ytb_of hS ha)
  have p1 := s_parts (yNO_11 hG h) hG.2.2.2 (S := S) (by omega)
  have p2 := s_parts (yNO_13 hG h) (yop_gr hG).2.2.2 (S := S) (by omega)
  rw [ypt_co hG sub] at p2
  have b1 := ypt_8 (yad R) S
  have b2 := ypt_8 (yco (yad R)) S
  have b3 := ypp_le S
  have g1 : xob 10 3 = true := rfl
  have g2 : xob 12 3 = true := rfl
  have r1 : ∀ {α : Type} (f : Nat → Option α), xgr (xR0 10 2) f = f 11 := fun _ => rfl
  have r2 : ∀ {α : Type} (f : Nat → Option α), xgr (xR0 12 2) f = f 13 := fun _ => rfl
  have n1 : Nat.beq 10 1999 = false := rfl
  have n2 : Nat.beq 12 1999 = false := rfl
  apply fX2_ownWays_i
  unfold yw
  by_cases c1 : 1 < ypt (yad R) S
  · simp (disch := omega) only [yl3, yl4, yl5, yl6, yl7, yl8, yl9, yl10, yl13, yl16, yl20, yl21, yl22, yl23, yl24, yl32, yl40, yl48, yl57, yl59, yl63, yl64, yl97, yl99, yl122, yl255, yl256, yl400, yl1000, yl2000, yl2048, yc0_eq, yc0_eq2, yc0_le, yc0_ge, yc0_lt, yc0_gt, yc0_ad, yc0_da, yc0_sb, yc0_ml, yc0_lm, yc1_eq, yc1_eq2, yc1_le, yc1_ge, yc1_lt, yc1_gt, yc1_ad, yc1_da, yc1_sb, yc1_ml, yc1_lm, yc2_eq, yc2_eq2, yc2_le, yc2_ge, yc2_lt, yc2_gt, yc2_ad, yc2_da, yc2_sb, yc2_ml, yc2_lm, yc31_ge, ymodn, yI_1sl, yc2_dv, yn1_eq, yn1_lt, xgd_t, xlt_e, Option.bind_some, nI_add, pk_mul, pk_sub, pk_div, pk_rem, yI_and, yI_or, yI_xor, yI_nd, yI_nd2, yI_31, yI_shl, nI_leI, nI_ltI, nI_eq, nI_clamp, xinb_t, yP_z, yP_if, n1, g1, r1, Bool.not_false, p1, if_pos]
    rw [yif_t (Or.inl c1)]; rfl
  · by_cases c2 : ypp S < 2
    · simp (disch := omega) only [yl3, yl4, yl5, yl6, yl7, yl8, yl9, yl10, yl13, yl16, yl20, yl21, yl22, yl23, yl24, yl32, yl40, yl48, yl57, yl59, yl63, yl64, yl97, yl99, yl122, yl255, yl256, yl400, yl1000, yl2000, yl2048, yc0_eq, yc0_eq2, yc0_le, yc0_ge, yc0_lt, yc0_gt, yc0_ad, yc0_da, yc0_sb, yc0_ml, yc0_lm, yc1_eq, yc1_eq2, yc1_le, yc1_ge, yc1_lt, yc1_gt, yc1_ad, yc1_da, yc1_sb, yc1_ml, yc1_lm, yc2_eq, yc2_eq2, yc2_le, yc2_ge, yc2_lt, yc2_gt, yc2_ad, yc2_da, yc2_sb, yc2_ml, yc2_lm, yc31_ge, ymodn, yI_1sl, yc2_dv, yn1_eq, yn1_lt, xgd_t, xlt_e, Option.bind_some, nI_add, pk_mul, pk_sub, pk_div, pk_rem, yI_and, yI_or, yI_xor, yI_nd, yI_nd2, yI_31, yI_shl, nI_leI, nI_ltI, nI_eq, nI_clamp, xinb_t, yP_z, yP_if, n1, g1, r1, Bool.not_false, p1, if_neg, s_bitCount (show S < 256 by omega)]
      rw [yif_t (Or.inr c2)]; rfl
    · rw [yif_f (p := 1 < ypt (yad R) S ∨ ypp S < 2) (by omega)]
      by_cases c3 : ypt (yco (yad R)) S = 1
      · simp (disch := omega) only [yl3, yl4, yl5, yl6, yl7, yl8, yl9, yl10, yl13, yl16, yl20, yl21, yl22, yl23, yl24, yl32, yl40, yl48, yl57, yl59, yl63, yl64, yl97, yl99, yl122, yl255, yl256, yl400, yl1000, yl2000, yl2048, yc0_eq, yc0_eq2, yc0_le, yc0_ge, yc0_lt, yc0_gt, yc0_ad, yc0_da, yc0_sb, yc0_ml, yc0_lm, yc1_eq, yc1_eq2, yc1_le, yc1_ge, yc1_lt, yc1_gt, yc1_ad, yc1_da, yc1_sb, yc1_ml, yc1_lm, yc2_eq, yc2_eq2, yc2_le, yc2_ge, yc2_lt, yc2_gt, yc2_ad, yc2_da, yc2_sb, yc2_ml, yc2_lm, yc31_ge, ymodn, yI_1sl, yc2_dv, yn1_eq, yn1_lt, xgd_t, xlt_e, Option.bind_some, nI_add, pk_mul, pk_sub, pk_div, pk_rem, yI_and, yI_or, yI_xor, yI_nd, yI_nd2, yI_31, yI_shl, nI_leI, nI_ltI, nI_eq, nI_clamp, xinb_t, yP_z, yP_if, n1, g1, r1, n2, g2, r2, Bool.not_false, p1, if_neg, s_bitCount (show S < 256 by omega), if_pos, p2]
        rw [yif_t c3]; rfl
      · simp (disch := omega) only [yl3, yl4, yl5, yl6, yl7, yl8, yl9, yl10, yl13, yl16, yl20, yl21, yl22, yl23, yl24, yl32, yl40, yl48, yl57, yl59, yl63, yl64, yl97, yl99, yl122, yl255, yl256, yl400, yl1000, yl2000, yl2048, yc0_eq, yc0_eq2, yc0_le, yc0_ge, yc0_lt, yc0_gt, yc0_ad, yc0_da, yc0_sb, yc0_ml, yc0_lm, yc1_eq, yc1_eq2, yc1_le, yc1_ge, yc1_lt, yc1_gt, yc1_ad, yc1_da, yc1_sb, yc1_ml, yc1_lm, yc2_eq, yc2_eq2, yc2_le, yc2_ge, yc2_lt, yc2_gt, yc2_ad, yc2_da, yc2_sb, yc2_ml, yc2_lm, yc31_ge, ymodn, yI_1sl, yc2_dv, yn1_eq, yn1_lt, xgd_t, xlt_e, Option.bind_some, nI_add, pk_mul, pk_sub, pk_div, pk_rem, yI_and, yI_or, yI_xor, yI_nd, yI_nd2, yI_31, yI_shl, nI_leI, nI_ltI, nI_eq, nI_clamp, xinb_t, yP_z, yP_if, n1, g1, r1, n2, g2, r2, Bool.not_false, p1, if_neg, s_bitCount (show S < 256 by omega), if_pos, p2, if_neg, s_fact b2]
        rw [yif_f c3]
/-- the table of sets seen alike -/
def yal (n : Nat) (R : Nat → Nat) (m : xmm) : Prop := ∀ S, S < 2 ^ n → m.1 131 S = yP (ymo (yad R) (2 ^ n - 1) S)
theorem s_ovl_l {n : Nat} {R : Nat → Nat} (hG : yGr n R) {m : xmm} (h : yal n R m) {S : Nat} (hS : S < 2 ^ n) : ∀ (d k : Nat), k + d = 2 ^ n → bX2_isOverlapped_130_2 (nI S) (nI (2 ^ n - 1)) (nI k) m = some (yP (∃ W, k ≤ W ∧ W < 2 ^ n ∧ ymo (yad R) (2 ^ n - 1) W ∧ (∃ a, yb S a ∧ yb W a) ∧ ¬ ysb S W ∧ ¬ ysb W S), m) := by
  have hn := hG.1
  have h8 := y2p8 hn
  have h1 := y2p1 n
  intro d
  induction d with
  | zero =>
    intro k hk
    have e : k = 2 ^ n := by omega
    subst e
    rw [yP_f (by rintro ⟨W, w1, w2, _⟩; omega)]
    apply bX2_isOverlapped_130_2_i
    simp (disch := omega) only [yl3, yl4, yl5, yl6, yl7, yl8, yl9, yl10, yl13, yl16, yl20, yl21, yl22, yl23, yl24, yl32, yl40, yl48, yl57, yl59, yl63, yl64, yl97, yl99, yl122, yl255, yl256, yl400, yl1000, yl2000, yl2048, yc0_eq, yc0_eq2, yc0_le, yc0_ge, yc0_lt, yc0_gt, yc0_ad, yc0_da, yc0_sb, yc0_ml, yc0_lm, yc1_eq, yc1_eq2, yc1_le, yc1_ge, yc1_lt, yc1_gt, yc1_ad, yc1_da, yc1_sb, yc1_ml, yc1_lm, yc2_eq, yc2_eq2, yc2_le, yc2_ge, yc2_lt, yc2_gt, yc2_ad, yc2_da, yc2_sb, yc2_ml, yc2_lm, yc31_ge, ymodn, yI_1sl, yc2_dv, yn1_eq, yn1_lt, xgd_t, xlt_e, Option.bind_some, nI_add, pk_mul, pk_sub, pk_div, pk_rem, yI_and, yI_or, yI_xor, yI_nd, yI_nd2, yI_31, yI_shl, nI_leI, nI_ltI, nI_eq, nI_clamp, xinb_t, yP_z, yP_if, if_pos]
  | succ d ih =>
    intro k hk
    have e := ih (k + 1) (by omega)
    have hk' := h k (by omega)
    have b1 := yand_lt S k hS
    have b2 := ynd_le S k n hS
    have b3 := ynd_le k S n (by omega)
    have c1 : S &&& k = 0 ↔ ¬ ∃ a, yb S a ∧ yb k a := by
      rw [yand0]
      exact ⟨fun g ⟨a, a1, a2⟩ => g a a1 a2, fun g q h1 h2 => g ⟨q, h1, h2⟩⟩
    have c2 : ynd S k = 0 ↔ ysb S k := ynd0
    have c3 : ynd k S = 0 ↔ ysb k S := ynd0
    have skip : ¬ (ymo (yad R) (2 ^ n - 1) k ∧ (∃ a, yb S a ∧ yb k a) ∧ ¬ ysb S k ∧ ¬ ysb k S) → bX2_isOverlapped_130_2 (nI S) (nI (2 ^ n - 1)) (nI (k + 1)) m = some (yP (∃ W, k ≤ W ∧ W < 2 ^ n ∧ ymo (yad R) (2 ^ n - 1) W ∧ (∃ a, yb S a ∧ yb W a) ∧ ¬ ysb S W ∧ ¬ ysb W S), m) := by
      intro hno
      rw [e]
      refine yPm ?_ m
      constructor
      · rintro ⟨W, w1, w2⟩
        exact ⟨W, by omega, w2⟩
      · rintro ⟨W, w1, w2, w3⟩
        by_cases eW : W = k
        · subst eW; exact absurd w3 hno
        · exact ⟨W, by omega, w2, w3⟩
    apply bX2_isOverlapped_130_2_i
    by_cases g1 : ymo (yad R) (2 ^ n - 1) k
    · by_cases g2 : ∃ a, yb S a ∧ yb k a
      · by_cases g3 : ysb S k
        · simp (disch := omega) only [yl3, yl4, yl5, yl6, yl7, yl8, yl9, yl10, yl13, yl16, yl20, yl21, yl22, yl23, yl24, yl32, yl40, yl48, yl57, yl59, yl63, yl64, yl97, yl99, yl122, yl255, yl256, yl400, yl1000, yl2000, yl2048, yc0_eq, yc0_eq2, yc0_le, yc0_ge, yc0_lt, yc0_gt, yc0_ad, yc0_da, yc0_sb, yc0_ml, yc0_lm, yc1_eq, yc1_eq2, yc1_le, yc1_ge, yc1_lt, yc1_gt, yc1_ad, yc1_da, yc1_sb, yc1_ml, yc1_lm, yc2_eq, yc2_eq2, yc2_le, yc2_ge, yc2_lt, yc2_gt, yc2_ad, yc2_da, yc2_sb, yc2_ml, yc2_lm, yc31_ge, ymodn, yI_1sl, yc2_dv, yn1_eq, yn1_lt, xgd_t, xlt_e, Option.bind_some, nI_add, pk_mul, pk_sub, pk_div, pk_rem, yI_and, yI_or, yI_xor, yI_nd, yI_nd2, yI_31, yI_shl, nI_leI, nI_ltI, nI_eq, nI_clamp, xinb_t, yP_z, yP_if, if_neg, hk', yif_t g1, if_neg (fun e => (c1.mp e) g2), if_pos (c2.mpr g3)]
          exact skip fun g => g.2.2.1 g3
        · by_cases g4 : ysb k S
          · simp (disch := omega) only [yl3, yl4, yl5, yl6, yl7, yl8, yl9, yl10, yl13, yl16, yl20, yl21, yl22, yl23, yl24, yl32, yl40, yl48, yl57, yl59, yl63, yl64, yl97, yl99, yl122, yl255, yl256, yl400, yl1000, yl2000, yl2048, yc0_eq, yc0_eq2, yc0_le, yc0_ge, yc0_lt, yc0_gt, yc0_ad, yc0_da, yc0_sb, yc0_ml, yc0_lm, yc1_eq, yc1_eq2, yc1_le, yc1_ge, yc1_lt, yc1_gt, yc1_ad, yc1_da, yc1_sb, yc1_ml, yc1_lm, yc2_eq, yc2_eq2, yc2_le, yc2_ge, yc2_lt, yc2_gt, yc2_ad, yc2_da, yc2_sb, yc2_ml, yc2_lm, yc31_ge, ymodn, yI_1sl, yc2_dv, yn1_eq, yn1_lt, xgd_t, xlt_e, Option.bind_some, nI_add, pk_mul, pk_sub, pk_div, pk_rem, yI_and, yI_or, yI_xor, yI_nd, yI_nd2, yI_31, yI_shl, nI_leI, nI_ltI, nI_eq, nI_clamp, xinb_t, yP_z, yP_if, if_neg, hk', yif_t g1, if_neg (fun e => (c1.mp e) g2), if_neg (fun e => g3 (c2.mp e)), if_pos (c3.mpr g4)]
            exact skip fun g => g.2.2.2 g4
          · simp (disch := omega) only [yl3, yl4, yl5, yl6, yl7, yl8, yl9, yl10, yl13, yl16, yl20, yl21, yl22, yl23, yl24, yl32, yl40, yl48, yl57, yl59, yl63, yl64, yl97, yl99, yl122, yl255, yl256, yl400, yl1000, yl2000, yl2048, yc0_eq, yc0_eq2, yc0_le, yc0_ge, yc0_lt, yc0_gt, yc0_ad, yc0_da, yc0_sb, yc0_ml, yc0_lm, yc1_eq, yc1_eq2, yc1_le, yc1_ge, yc1_lt, yc1_gt, yc1_ad, yc1_da, yc1_sb, yc1_ml, yc1_lm, yc2_eq, yc2_eq2, yc2_le, yc2_ge, yc2_lt, yc2_gt, yc2_ad, yc2_da, yc2_sb, yc2_ml, yc2_lm, yc31_ge, ymodn, yI_1sl, yc2_dv, yn1_eq, yn1_lt, xgd_t, xlt_e, Option.bind_some, nI_add, pk_mul, pk_sub, pk_div, pk_rem, yI_and, yI_or, yI_xor, yI_nd, yI_nd2, yI_31, yI_shl, nI_leI, nI_ltI, nI_eq, nI_clamp, xinb_t, yP_z, yP_if, if_neg, hk', yif_t g1, if_neg (fun e => (c1.mp e) g2), if_neg (fun e => g3 (c2.mp e)), if_neg (fun e => g4 (c3.mp e))]
            rw [yP_t ⟨k, Nat.le_refl k, by omega, g1, g2, g3, g4⟩]
      · simp (disch := omega) only [yl3, yl4, yl5, yl6, yl7, yl8, yl9, yl10, yl13, yl16, yl20, yl21, yl22, yl23, yl24, yl32, yl40, yl48, yl57, yl59, yl63, yl64, yl97, yl99, yl122, yl255, yl256, yl400, yl1000, yl2000, yl2048, yc0_eq, yc0_eq2, yc0_le, yc0_ge, yc0_lt, yc0_gt, yc0_ad, yc0_da, yc0_sb, yc0_ml, yc0_lm, yc1_eq, yc1_eq2, yc1_le, yc1_ge, yc1_lt, yc1_gt, yc1_ad, yc1_da, yc1_sb, yc1_ml, yc1_lm, yc2_eq, yc2_eq2, yc2_le, yc2_ge, yc2_lt, yc2_gt, yc2_ad, yc2_da, yc2_sb, yc2_ml, yc2_lm, yc31_ge, ymodn, yI_1sl, yc2_dv, yn1_eq, yn1_lt, xgd_t, xlt_e, Option.bind_some, nI_add, pk_mul, pk_sub, pk_div, pk_rem, yI_and, yI_or, yI_xor, yI_nd, yI_nd2, yI_31, yI_shl, nI_leI, nI_ltI, nI_eq, nI_clamp, xinb_t, yP_z, yP_if, if_neg, hk', yif_t g1, if_pos (c1.mpr g2)]
        exact skip fun g => g2 g.2.1
    · simp (disch := omega) only [yl3, yl4, yl5, yl6, yl7, yl8, yl9, yl10, yl13, yl16, yl20, yl21, yl22, yl23, yl24, yl32, yl40, yl48, yl57, yl59, yl63, yl64, yl97, yl99, yl122, yl255, yl256, yl400, yl1000, yl2000, yl2048, yc0_eq, yc0_eq2, yc0_le, yc0_ge, yc0_lt, yc0_gt, yc0_ad, yc0_da, yc0_sb, yc0_ml, yc0_lm, yc1_eq, yc1_eq2, yc1_le, yc1_ge, yc1_lt, yc1_gt, yc1_ad, yc1_da, yc1_sb, yc1_ml, yc1_lm, yc2_eq, yc2_eq2, yc2_le, yc2_ge, yc2_lt, yc2_gt, yc2_ad, yc2_da, yc2_sb, yc2_ml, yc2_lm, yc31_ge, ymodn, yI_1sl, yc2_dv, yn1_eq, yn1_lt, xgd_t, xlt_e, Option.bind_some, nI_add, pk_mul, pk_sub, pk_div, pk_rem, yI_and, yI_or, yI_xor, yI_nd, yI_nd2, yI_31, yI_shl, nI_leI, nI_ltI, nI_eq, nI_clamp, xinb_t, yP_z, yP_if, if_neg, hk', yif_f g1]
      exact skip fun g => g1 g.1
theorem s_ovl {n : Nat} {R : Nat → Nat} (hG : yGr n R) {m : xmm} (h : yal n R m) {S : Nat} (hS : S < 2 ^ n) (hm : ymo (yad R) (2 ^ n - 1) S) : fX2_isOverlapped_130 (nI S) (nI (2 ^ n - 1)) m = some (yP (¬ yst (yad R) (2 ^ n - 1) S), m) := by
  have h1 := y2p1 n
  apply fX2_isOverlapped_130_i
  have e := s_ovl_l hG h hS (2 ^ n - 1) 1 (by omega)
  rw [show (1 : Int32) = nI 1 from rfl, e]
  refine yPm ?_ m
  constructor
  · rintro ⟨W, _, _, w3, w4, w5, w6⟩ hst
    rcases hst.2 W w3 w4 with g | g
    · exact w5 g
    · exact w6 g
  · intro hst
    refine Classical.byContradiction fun hno => hst ⟨hm, fun W w3 w4 => ?_⟩
    by_cases g1 : ysb S W
    · exact Or.inl g1
    · by_cases g2 : ysb W S
      · exact Or.inr g2
      · have lt : W < 2 ^ n := by
          have := ysb_le w3.1
          omega
        obtain ⟨a, a1, a2⟩ := w4
        refine absurd ⟨W, ?_, lt, w3, ⟨a, a1, a2⟩, g1, g2⟩ hno
        rcases Nat.eq_zero_or_pos W with e0 | e0
        · rw [e0] at a2; exact absurd a2 yb_0
        · exact e0
theorem s_cw2_51 {n : Nat} {R : Nat → Nat} (hG : yGr n R) {m : xmm} (h : yNO n R m) (ha : yal n R m) : ∀ (d k : Nat), k + d = 2 ^ n → 0 < k → bX2_ways_130_10_12_51 (nI (2 ^ n - 1)) (nI (ypr (fun T => yif (yst (yad R) (2 ^ n - 1) T) (yw (yad R) T) 1) k)) (nI k) m = some (nI (ypr (fun T => yif (yst (yad R) (2 ^ n - 1) T) (yw (yad R) T) 1) (2 ^ n)), m) := by
  have hn := hG.1
  have h8 := y2p8 hn
  have h1 := y2p1 n
  intro d
  induction d with
  | zero =>
    intro k hk h0
    have e : k = 2 ^ n := by omega
    subst e
    apply bX2_ways_130_10_12_51_i
    simp (disch := omega) only [yl3, yl4, yl5, yl6, yl7, yl8, yl9, yl10, yl13, yl16, yl20, yl21, yl22, yl23, yl24, yl32, yl40, yl48, yl57, yl59, yl63, yl64, yl97, yl99, yl122, yl255, yl256, yl400, yl1000, yl2000, yl2048, yc0_eq, yc0_eq2, yc0_le, yc0_ge, yc0_lt, yc0_gt, yc0_ad, yc0_da, yc0_sb, yc0_ml, yc0_lm, yc1_eq, yc1_eq2, yc1_le, yc1_ge, yc1_lt, yc1_gt, yc1_ad, yc1_da, yc1_sb, yc1_ml, yc1_lm, yc2_eq, yc2_eq2, yc2_le, yc2_ge, yc2_lt, yc2_gt, yc2_ad, yc2_da, yc2_sb, yc2_ml, yc2_lm, yc31_ge, ymodn, yI_1sl, yc2_dv, yn1_eq, yn1_lt, xgd_t, xlt_e, Option.bind_some, nI_add, pk_mul, pk_sub, pk_div, pk_rem, yI_and, yI_or, yI_xor, yI_nd, yI_nd2, yI_31, yI_shl, nI_leI, nI_ltI, nI_eq, nI_clamp, xinb_t, yP_z, yP_if, if_pos]
  | succ d ih =>
    intro k hk h0
    have e := ih (k + 1) (by omega) (by omega)
    rw [ypr_s] at e
    have hk' := ha k (by omega)
    apply bX2_ways_130_10_12_51_i
    by_cases g1 : ymo (yad R) (2 ^ n - 1) k
    · by_cases g2 : yst (yad R) (2 ^ n - 1) k
      · rw [yif_t g2] at e
        simp (disch := omega) only [yl3, yl4, yl5, yl6, yl7, yl8, yl9, yl10, yl13, yl16, yl20, yl21, yl22, yl23, yl24, yl32, yl40, yl48, yl57, yl59, yl63, yl64, yl97, yl99, yl122, yl255, yl256, yl400, yl1000, yl2000, yl2048, yc0_eq, yc0_eq2, yc0_le, yc0_ge, yc0_lt, yc0_gt, yc0_ad, yc0_da, yc0_sb, yc0_ml, yc0_lm, yc1_eq, yc1_eq2, yc1_le, yc1_ge, yc1_lt, yc1_gt, yc1_ad, yc1_da, yc1_sb, yc1_ml, yc1_lm, yc2_eq, yc2_eq2, yc2_le, yc2_ge, yc2_lt, yc2_gt, yc2_ad, yc2_da, yc2_sb, yc2_ml, yc2_lm, yc31_ge, ymodn, yI_1sl, yc2_dv, yn1_eq, yn1_lt, xgd_t, xlt_e, Option.bind_some, nI_add, pk_mul, pk_sub, pk_div, pk_rem, yI_and, yI_or, yI_xor, yI_nd, yI_nd2, yI_31, yI_shl, nI_leI, nI_ltI, nI_eq, nI_clamp, xinb_t, yP_z, yP_if, if_neg, hk', yif_t g1, s_ovl hG ha (by omega : k < 2 ^ n) g1, yif_f (fun g : ¬ yst (yad R) (2 ^ n - 1) k => g g2), s_ownWays hG h (by omega : k < 2 ^ n)]
        exact e
      · rw [yif_f g2, Nat.mul_one] at e
        simp (disch := omega) only [yl3, yl4, yl5, yl6, yl7, yl8, yl9, yl10, yl13, yl16, yl20, yl21, yl22, yl23, yl24, yl32, yl40, yl48, yl57, yl59, yl63, yl64, yl97, yl99, yl122, yl255, yl256, yl400, yl1000, yl2000, yl2048, yc0_eq, yc0_eq2, yc0_le, yc0_ge, yc0_lt, yc0_gt, yc0_ad, yc0_da, yc0_sb, yc0_ml, yc0_lm, yc1_eq, yc1_eq2, yc1_le, yc1_ge, yc1_lt, yc1_gt, yc1_ad, yc1_da, yc1_sb, yc1_ml, yc1_lm, yc2_eq, yc2_eq2, yc2_le, yc2_ge, yc2_lt, yc2_gt, yc2_ad, yc2_da, yc2_sb, yc2_ml, yc2_lm, yc31_ge, ymodn, yI_1sl, yc2_dv, yn1_eq, yn1_lt, xgd_t, xlt_e, Option.bind_some, nI_add, pk_mul, pk_sub, pk_div, pk_rem, yI_and, yI_or, yI_xor, yI_nd, yI_nd2, yI_31, yI_shl, nI_leI, nI_ltI, nI_eq, nI_clamp, xinb_t, yP_z, yP_if, if_neg, hk', yif_t g1, s_ovl hG ha (by omega : k < 2 ^ n) g1, yif_t g2]
        exact e
    · rw [yif_f (fun g => g1 g.1), Nat.mul_one] at e
      simp (disch := omega) only [yl3, yl4, yl5, yl6, yl7, yl8, yl9, yl10, yl13, yl16, yl20, yl21, yl22, yl23, yl24, yl32, yl40, yl48, yl57, yl59, yl63, yl64, yl97, yl99, yl122, yl255, yl256, yl400, yl1000, yl2000, yl2048, yc0_eq, yc0_eq2, yc0_le, yc0_ge, yc0_lt, yc0_gt, yc0_ad, yc0_da, yc0_sb, yc0_ml, yc0_lm, yc1_eq, yc1_eq2, yc1_le, yc1_ge, yc1_lt, yc1_gt, yc1_ad, yc1_da, yc1_sb, yc1_ml, yc1_lm, yc2_eq, yc2_eq2, yc2_le, yc2_ge, yc2_lt, yc2_gt, yc2_ad, yc2_da, yc2_sb, yc2_ml, yc2_lm, yc31_ge, ymodn, yI_1sl, yc2_dv, yn1_eq, yn1_lt, xgd_t, xlt_e, Option.bind_some, nI_add, pk_mul, pk_sub, pk_div, pk_rem, yI_and, yI_or, yI_xor, yI_nd, yI_nd2, yI_31, yI_shl, nI_leI, nI_ltI, nI_eq, nI_clamp, xinb_t, yP_z, yP_if, if_neg, hk', yif_f g1]
      exact e
theorem s_cw2_8 {n : Nat} {R : Nat → Nat} (hG : yGr n R) : ∀ (d k : Nat), k + d = 2 ^ n → ∀ (m : xmm), yNO n R m → (∀ S, S < k → m.1 131 S = yP (ymo (yad R) (2 ^ n - 1) S)) → ∃ m', (∀ {z : Int32 × xmm}, bX2_ways_130_10_12_51 (nI (2 ^ n - 1)) 1 1 m' = some z → bX2_ways_130_10_12_8 (nI (2 ^ n - 1)) (nI k) m = some z) ∧ yal n R m' ∧ yfr [131] m m' := by
  have hn := hG.1
  have h8 := y2p8 hn
  have h1 := y2p1 n
  intro d
  induction d with
  | zero =>
    intro k hk m h hc
    have e : k = 2 ^ n := by omega
    subst e
    refine ⟨m, fun {z} hz => ?_, hc, yfr_r⟩
    apply bX2_ways_130_10_12_8_i
    simp (disch := omega) only [yl3, yl4, yl5, yl6, yl7, yl8, yl9, yl10, yl13, yl16, yl20, yl21, yl22, yl23, yl24, yl32, yl40, yl48, yl57, yl59, yl63, yl64, yl97, yl99, yl122, yl255, yl256, yl400, yl1000, yl2000, yl2048, yc0_eq, yc0_eq2, yc0_le, yc0_ge, yc0_lt, yc0_gt, yc0_ad, yc0_da, yc0_sb, yc0_ml, yc0_lm, yc1_eq, yc1_eq2, yc1_le, yc1_ge, yc1_lt, yc1_gt, yc1_ad, yc1_da, yc1_sb, yc1_ml, yc1_lm, yc2_eq, yc2_eq2, yc2_le, yc2_ge, yc2_lt, yc2_gt, yc2_ad, yc2_da, yc2_sb, yc2_ml, yc2_lm, yc31_ge, ymodn, yI_1sl, yc2_dv, yn1_eq, yn1_lt, xgd_t, xlt_e, Option.bind_some, nI_add, pk_mul, pk_sub, pk_div, pk_rem, yI_and, yI_or, yI_xor, yI_nd, yI_nd2, yI_31, yI_shl, nI_leI, nI_ltI, nI_eq, nI_clamp, xinb_t, yP_z, yP_if, if_pos]
    exact hz
  | succ d ih =>
    intro k hk m h hc
    have fr : yfr [131] m (xwi m 131 k (yP (ymo (yad R) (2 ^ n - 1) k))) := yfr_w yfr_r (by decide)
    obtain ⟨m', e1, e2, e3⟩ := ih (k + 1) (by omega) _ (yNO_r h fr (by decide) (by decide) (by decide)) (fun S hS => by
      by_cases e : S = k
      · subst e; rw [xwi_e]
      · rw [xwi_i e]; exact hc S (by omega))
    refine ⟨m', fun {z} hz => ?_, e2, yfr_t fr e3⟩
    apply bX2_ways_130_10_12_8_i
    simp (disch := omega) only [yl3, yl4, yl5, yl6, yl7, yl8, yl9, yl10, yl13, yl16, yl20, yl21, yl22, yl23, yl24, yl32, yl40, yl48, yl57, yl59, yl63, yl64, yl97, yl99, yl122, yl255, yl256, yl400, yl1000, yl2000, yl2048, yc0_eq, yc0_eq2, yc0_le, yc0_ge, yc0_lt, yc0_gt, yc0_ad, yc0_da, yc0_sb, yc0_ml, yc0_lm, yc1_eq, yc1_eq2, yc1_le, yc1_ge, yc1_lt, yc1_gt, yc1_ad, yc1_da, yc1_sb, yc1_ml, yc1_lm, yc2_eq, yc2_eq2, yc2_le, yc2_ge, yc2_lt, yc2_gt, yc2_ad, yc2_da, yc2_sb, yc2_ml, yc2_lm, yc31_ge, ymodn, yI_1sl, yc2_dv, yn1_eq, yn1_lt, xgd_t, xlt_e, Option.bind_some, nI_add, pk_mul, pk_sub, pk_div, pk_rem, yI_and, yI_or, yI_xor, yI_nd, yI_nd2, yI_31, yI_shl, nI_leI, nI_ltI, nI_eq, nI_clamp, xinb_t, yP_z, yP_if, if_neg, s_isAlike (yNO_11 hG h) hG (by omega : k < 2 ^ n)]
    exact e1 hz
/-- the class's ways -/
theorem s_cways {n : Nat} {R : Nat → Nat} (hG : yGr n R) {m : xmm} (h : yNO n R m) : ∃ m', fX2_ways_130_10_12 m = some (nI (yPr (yad R) (2 ^ n - 1)), m') ∧ yfr [131] m m' := by
  have hn := hG.1
  have h8 := y2p8 hn
  have h1 := y2p1 n
  obtain ⟨m1, a1, a2, a3⟩ := s_cw2_8 hG (2 ^ n) 0 (Nat.zero_add _) m h (fun S hS => absurd hS (Nat.not_lt_zero S))
  refine ⟨m1, ?_, a3⟩
  have e := s_cw2_51 hG (yNO_r h a3 (by decide) (by decide) (by decide)) a2 (2 ^ n - 1) 1 (by omega) (by omega)
  have n0 : ¬ yst (yad R) (2 ^ n - 1) 0 := fun g => by
    obtain ⟨a, ha⟩ := g.1.2.1
    exact yb_0 ha
  have e0 : ypr (fun T => yif (yst (yad R) (2 ^ n - 1) T) (yw (yad R) T) 1) 1 = 1 := by
    rw [ypr_s, yif_f n0]
    rfl
  have e1 : ypr (fun T => yif (yst (yad R) (2 ^ n - 1) T) (yw (yad R) T) 1) (2 ^ n) = yPr (yad R) (2 ^ n - 1) := by
    unfold yPr
    have key : ∀ d, ypr (fun T => yif (yst (yad R) (2 ^ n - 1) T) (yw (yad R) T) 1) (2 ^ n + d) = ypr (fun T => yif (yst (yad R) (2 ^ n - 1) T) (yw (yad R) T) 1) (2 ^ n) := by
      intro d
      induction d with
      | zero => rfl
      | succ d ih =>
        show ypr _ (2 ^ n + d + 1) = _
        rw [ypr_s, ih, yif_f, Nat.mul_one]
        intro g
        have := ysb_le g.1.1
        omega
    have := key (256 - 2 ^ n)
    rw [show 2 ^ n + (256 - 2 ^ n) = 256 by omega] at this
    exact this.symm
  rw [e0, e1] at e
  have b0 := a1 (z := (nI (yPr (yad R) (2 ^ n - 1)), m1)) e
  apply fX2_ways_130_10_12_i
  rw [s_everyPost hn h.1, Option.bind_some]
  exact b0
