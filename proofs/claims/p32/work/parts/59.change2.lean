/-! OTHER and EXCHANGE -/
theorem s_evp {v r n : Nat} (h : ynet v r) (hn : n ≤ 8) {m : xmm} (hN : m.1 v 0 = nI n) : fX3_everyPost v m = some (nI (2 ^ n - 1), m) := by
  apply fX3_everyPost_i
  rw [h.1, h.2.1, hN, yI_1shl (by omega), yc1_sb (y2p1 n)]
  rfl
theorem s_turnOver_l {v r n : Nat} (h : ynet v r) (hvr : v ≠ r) {R : Nat → Nat} (hG : yGr n R) : ∀ (d k : Nat) (m : xmm), k + d = n → m.1 v 0 = nI n → (∀ p, p < 8 → m.1 r p = nI (if p < k then yop n R p else R p)) → ∃ m', bX3_turnOver_2 v (nI k) m = some m' ∧ yrw r (yop n R) m' ∧ yfr [r] m m' := by
  have hn := hG.1
  have ev := fun (m : xmm) => s_evp h hn (m := m)
  obtain ⟨a1, a2, a3, a4, a5⟩ := h
  intro d
  induction d with
  | zero =>
    intro k m hk hN hR
    have e : k = n := by omega
    subst e
    refine ⟨m, ?_, fun p hp => ?_, yfr_r⟩
    · apply bX3_turnOver_2_i
      simp (disch := omega) only [yl3, yl4, yl5, yl6, yl7, yl8, yl9, yl10, yl13, yl16, yl20, yl21, yl22, yl23, yl24, yl32, yl40, yl48, yl57, yl59, yl63, yl64, yl97, yl99, yl122, yl255, yl256, yl400, yl1000, yl2000, yl2048, yc0_eq, yc0_eq2, yc0_le, yc0_ge, yc0_lt, yc0_gt, yc0_ad, yc0_da, yc0_sb, yc0_ml, yc0_lm, yc1_eq, yc1_eq2, yc1_le, yc1_ge, yc1_lt, yc1_gt, yc1_ad, yc1_da, yc1_sb, yc1_ml, yc1_lm, yc2_eq, yc2_eq2, yc2_le, yc2_ge, yc2_lt, yc2_gt, yc2_ad, yc2_da, yc2_sb, yc2_ml, yc2_lm, yc31_ge, ymodn, yI_1sl, yc2_dv, yn1_eq, yn1_lt, xgd_t, xlt_e, Option.bind_some, nI_add, pk_mul, pk_sub, pk_div, pk_rem, yI_and, yI_or, yI_xor, yI_nd, yI_nd2, yI_31, yI_shl, nI_leI, nI_ltI, nI_eq, nI_clamp, xinb_t, yP_z, yP_if, a1, a2, Bool.not_false, hN, if_pos]
    · rw [hR p hp]
      by_cases hpk : p < k
      · rw [if_pos hpk]
      · rw [if_neg hpk, hG.2.2.1 p (by omega)]
        congr 1
        exact (yif_f (by omega)).symm
  | succ d ih =>
    intro k m hk hN hR
    have hkn : k < n := by omega
    have rk := hR k (by omega)
    rw [if_neg (by omega)] at rk
    have ek : yop n R k = ynd (ynd (2 ^ n - 1) (R k)) (2 ^ k) := yif_t hkn
    have fr : yfr [r] m (xwi m r k (nI (yop n R k))) := yfr_w yfr_r (List.mem_singleton.mpr rfl)
    obtain ⟨m', e1, e2, e3⟩ := ih (k + 1) (xwi m r k (nI (yop n R k))) (by omega) (by rw [xwi_k hvr]; exact hN) (fun p hp => by
      by_cases e : p = k
      · subst e; rw [xwi_e, if_pos (by omega)]
      · rw [xwi_i e, hR p hp]
        by_cases hpc : p < k
        · rw [if_pos hpc, if_pos (by omega)]
        · rw [if_neg hpc, if_neg (by omega)])
    refine ⟨m', ?_, e2, yfr_t fr e3⟩
    have i1 : xia 1 r (nI k) = true := xia_t (n := 8) a4 (by omega) (by decide)
    apply bX3_turnOver_2_i
    rw [ek] at e1
    simp (disch := omega) only [yl3, yl4, yl5, yl6, yl7, yl8, yl9, yl10, yl13, yl16, yl20, yl21, yl22, yl23, yl24, yl32, yl40, yl48, yl57, yl59, yl63, yl64, yl97, yl99, yl122, yl255, yl256, yl400, yl1000, yl2000, yl2048, yc0_eq, yc0_eq2, yc0_le, yc0_ge, yc0_lt, yc0_gt, yc0_ad, yc0_da, yc0_sb, yc0_ml, yc0_lm, yc1_eq, yc1_eq2, yc1_le, yc1_ge, yc1_lt, yc1_gt, yc1_ad, yc1_da, yc1_sb, yc1_ml, yc1_lm, yc2_eq, yc2_eq2, yc2_le, yc2_ge, yc2_lt, yc2_gt, yc2_ad, yc2_da, yc2_sb, yc2_ml, yc2_lm, yc31_ge, ymodn, yI_1sl, yc2_dv, yn1_eq, yn1_lt, xgd_t, xlt_e, Option.bind_some, nI_add, pk_mul, pk_sub, pk_div, pk_rem, yI_and, yI_or, yI_xor, yI_nd, yI_nd2, yI_31, yI_shl, nI_leI, nI_ltI, nI_eq, nI_clamp, xinb_t, yP_z, yP_if, a1, a2, a3, xgr, Bool.not_false, hN, if_neg, ev m hN, i1, rk, yI_1shl]
    exact e1
theorem s_turnOver {v r n : Nat} (h : ynet v r) (hvr : v ≠ r) {R : Nat → Nat} (hG : yGr n R) {m : xmm} (hN : m.1 v 0 = nI n) (hR : yrw r R m) : ∃ m', fX3_turnOver v m = some m' ∧ yrw r (yop n R) m' ∧ yfr [r] m m' := by
  obtain ⟨m', e1, e2⟩ := s_turnOver_l h hvr hG n 0 m (Nat.zero_add n) hN (fun p hp => by rw [if_neg (Nat.not_lt_zero p)]; exact hR p hp)
  refine ⟨m', ?_, e2⟩
  apply fX3_turnOver_i
  exact e1
/-- how many lines -/
noncomputable def yln (R : Nat → Nat) : Nat := ysm (fun p => ypp (R p)) 8 / 2
theorem ysm_le8 (R : Nat → Nat) : ∀ k, ysm (fun p => ypp (R p)) k ≤ 8 * k := by
  intro k
  induction k with
  | zero => exact Nat.le_refl 0
  | succ k ih =>
    rw [ysm_s]
    have := ypp_le (R k)
    omega
theorem s_countLines {v r n : Nat} (h : ynet v r) {R : Nat → Nat} (hG : yGr n R) {m : xmm} (hR : yrw r R m) : fX3_countLines v m = some (nI (yln R), m) := by
  obtain ⟨a1, a2, a3, a4, a5⟩ := h
  have l : ∀ (d k : Nat), k + d = 8 → bX3_countLines_4 v (nI (ysm (fun p => ypp (R p)) k)) (nI k) m = some (nI (yln R), m) := by
    intro d
    induction d with
    | zero =>
      intro k hk
      have e : k = 8 := by omega
      subst e
      have b := ysm_le8 R 8
      unfold yln
      apply bX3_countLines_4_i
      simp (disch := omega) only [yl3, yl4, yl5, yl6, yl7, yl8, yl9, yl10, yl13, yl16, yl20, yl21, yl22, yl23, yl24, yl32, yl40, yl48, yl57, yl59, yl63, yl64, yl97, yl99, yl122, yl255, yl256, yl400, yl1000, yl2000, yl2048, yc0_eq, yc0_eq2, yc0_le, yc0_ge, yc0_lt, yc0_gt, yc0_ad, yc0_da, yc0_sb, yc0_ml, yc0_lm, yc1_eq, yc1_eq2, yc1_le, yc1_ge, yc1_lt, yc1_gt, yc1_ad, yc1_da, yc1_sb, yc1_ml, yc1_lm, yc2_eq, yc2_eq2, yc2_le, yc2_ge, yc2_lt, yc2_gt, yc2_ad, yc2_da, yc2_sb, yc2_ml, yc2_lm, yc31_ge, ymodn, yI_1sl, yc2_dv, yn1_eq, yn1_lt, xgd_t, xlt_e, Option.bind_some, nI_add, pk_mul, pk_sub, pk_div, pk_rem, yI_and, yI_or, yI_xor, yI_nd, yI_nd2, yI_31, yI_shl, nI_leI, nI_ltI, nI_eq, nI_clamp, xinb_t, yP_z, yP_if, if_pos]
    | succ d ih =>
      intro k hk
      have e := ih (k + 1) (by omega)
      rw [ysm_s] at e
      have i1 : xia 1 r (nI k) = true := xia_t (n := 8) a4 (by omega) (by decide)
      have r8 := yGr_8 hG k
      apply bX3_countLines_4_i
      simp (disch := omega) only [yl3, yl4, yl5, yl6, yl7, yl8, yl9, yl10, yl13, yl16, yl20, yl21, yl22, yl23, yl24, yl32, yl40, yl48, yl57, yl59, yl63, yl64, yl97, yl99, yl122, yl255, yl256, yl400, yl1000, yl2000, yl2048, yc0_eq, yc0_eq2, yc0_le, yc0_ge, yc0_lt, yc0_gt, yc0_ad, yc0_da, yc0_sb, yc0_ml, yc0_lm, yc1_eq, yc1_eq2, yc1_le, yc1_ge, yc1_lt, yc1_gt, yc1_ad, yc1_da, yc1_sb, yc1_ml, yc1_lm, yc2_eq, yc2_eq2, yc2_le, yc2_ge, yc2_lt, yc2_gt, yc2_ad, yc2_da, yc2_sb, yc2_ml, yc2_lm, yc31_ge, ymodn, yI_1sl, yc2_dv, yn1_eq, yn1_lt, xgd_t, xlt_e, Option.bind_some, nI_add, pk_mul, pk_sub, pk_div, pk_rem, yI_and, yI_or, yI_xor, yI_nd, yI_nd2, yI_31, yI_shl, nI_leI, nI_ltI, nI_eq, nI_clamp, xinb_t, yP_z, yP_if, a1, a2, a3, xgr, Bool.not_false, if_neg, i1, hR k (by omega), s_bitCount r8]
      exact e
  apply fX3_countLines_i
  exact l 8 0 rfl
theorem s_cOther {n : Nat} {N : yNW} {h : Nat} {H : Nat → yNW} {hd : Nat → Prop} {K : Nat → yNW} {m : xmm} (hc : yCI n N h H hd K m) : ∃ m', fX11_other_0 m = some (nI (yln (yop n N.1)), m') ∧ yCI n (yop n N.1, N.2) (yhn h) (ypu N H) hd K m' ∧ yCk m m' := by
  obtain ⟨m1, a1, a2, a3, a4⟩ := s_before2 hc
  obtain ⟨m2, b1, b2, b3⟩ := s_turnOver ynet10 (by decide) hc.1.1 a2.2.1.1 a2.2.1.2.2
  refine ⟨m2, ?_, yCI_net a2 a3 (yfr_m b3 (by decide)) ⟨by rw [yfr_1 b3 10 0 (by decide)]; exact a2.2.1.1, by rw [yfr_1 b3 10 1 (by decide)]; exact a2.2.1.2.1, b2⟩ ⟨yop_gr hc.1.1, hc.1.2⟩, yCk_t a4 (yCk_of b3 (by decide))⟩
  apply fX11_other_0_i
  rw [a1, Option.bind_some, b1, Option.bind_some, s_countLines ynet10 (yop_gr hc.1.1) b2]
  rfl
/-! EXCHANGE -/
def ysg2 (a b p : Nat) : Nat := if p = a then b else if p = b then a else p
theorem ysg2_a (a b : Nat) : ysg2 a b a = b := if_pos rfl
theorem ysg2_b {a b : Nat} (h : a ≠ b) : ysg2 a b b = a := by
  unfold ysg2
  rw [if_neg (fun e => h e.symm), if_pos rfl]
theorem ysg2_n {a b p : Nat} (h1 : p ≠ a) (h2 : p ≠ b) : ysg2 a b p = p := by
  unfold ysg2
  rw [if_neg h1, if_neg h2]
noncomputable def yex (R : Nat → Nat) (n a b : Nat) : Nat → Nat := fun p => ybs (fun q => yad R (ysg2 a b p) (ysg2 a b q)) n
theorem ysg2_lt {a b p n : Nat} (ha : a < n) (hb : b < n) (h : ysg2 a b p < n) : p < n := by
  unfold ysg2 at h
  by_cases e1 : p = a
  · omega
  · by_cases e2 : p = b
    · omega
    · rw [if_neg e1, if_neg e2] at h; exact h
theorem yex_b {R : Nat → Nat} {n a b p q : Nat} (hG : yGr n R) (ha : a < n) (hb : b < n) : yad (yex R n a b) p q ↔ yad R (ysg2 a b p) (ysg2 a b q) := by
  show yb (ybs _ n) q ↔ _
  rw [yb_bs]
  exact ⟨fun t => t.2, fun t => ⟨ysg2_lt ha hb (yGr_n hG t).2, t⟩⟩
theorem yex_gr {R : Nat → Nat} {n a b : Nat} (hG : yGr n R) (ha : a < n) (hb : b < n) : yGr n (yex R n a b) := by
  refine ⟨hG.1, fun p => ybs_lt _ n, fun p hp => ?_, fun x y h => ?_, fun x h => ?_⟩
  · refine Classical.byContradiction fun hne => ?_
    obtain ⟨q, hq⟩ := yex_ne hne
    have := (yex_b hG ha hb).mp hq
    have := ysg2_lt ha hb (yGr_n hG this).1
    omega
  · rw [yex_b hG ha hb] at h ⊢
    exact hG.2.2.2.1 _ _ h
  · exact hG.2.2.2.2 _ ((yex_b hG ha hb).mp h)
def yxA (a b c p q : Nat) : Prop := ((p = a ∨ p = b) ∧ q ≠ a ∧ q ≠ b ∧ q < c) ∨ ((q = a ∨ q = b) ∧ p ≠ a ∧ p ≠ b ∧ p < c)
def yxF (R : Nat → Nat) (a b c p q : Nat) : Prop := (yxA a b c p q ∧ yad R (ysg2 a b p) (ysg2 a b q)) ∨ (¬ yxA a b c p q ∧ yad R p q)
theorem yxF_t {R : Nat → Nat} {a b c p q : Nat} (h : yxA a b c p q) : yxF R a b c p q ↔ yad R (ysg2 a b p) (ysg2 a b q) := ⟨fun t => t.elim (fun t => t.2) fun t => absurd h t.1, fun t => Or.inl ⟨h, t⟩⟩
theorem yxF_f {R : Nat → Nat} {a b c p q : Nat} (h : ¬ yxA a b c p q) : yxF R a b c p q ↔ yad R p q := ⟨fun t => t.elim (fun t => absurd t.1 h) fun t => t.2, fun t => Or.inr ⟨h, t⟩⟩
theorem yxF_c {R : Nat → Nat} {a b c c' p q : Nat} (h : yxA a b c p q ↔ yxA a b c' p q) : yxF R a b c p q ↔ yxF R a b c' p q := by
  unfold yxF
  rw [h]
theorem yxA_s {a b c p q : Nat} (h : ¬ (((p = a ∨ p = b) ∧ q = c) ∨ ((q = a ∨ q = b) ∧ p = c))) : yxA a b c p q ↔ yxA a b (c + 1) p q := by
  unfold yxA
  omega
theorem yxF_e {R : Nat → Nat} {n a b p q : Nat} (hG : yGr n R) (ha : a < n) (hb : b < n) (hab : a ≠ b) : yxF R a b n p q ↔ yad (yex R n a b) p q := by
  rw [yex_b hG ha hb]
  by_cases hA : yxA a b n p q
  · exact yxF_t hA
  · rw [yxF_f hA]
    by_cases e1 : p = a ∨ p = b
    · by_cases e2 : q = a ∨ q = b
      · rcases e1 with e1 | e1 <;> rcases e2 with e2 | e2 <;> subst e1 <;> subst e2
        · exact ⟨fun t => absurd t (hG.2.2.2.2 _), fun t => absurd t (hG.2.2.2.2 _)⟩
        · rw [ysg2_a, ysg2_b hab]; exact ⟨hG.2.2.2.1 _ _, hG.2.2.2.1 _ _⟩
        · rw [ysg2_a, ysg2_b hab]; exact ⟨hG.2.2.2.1 _ _, hG.2.2.2.1 _ _⟩
        · exact ⟨fun t => absurd t (hG.2.2.2.2 _), fun t => absurd t (hG.2.2.2.2 _)⟩
      · have hq : n ≤ q := by
          unfold yxA at hA
          omega
        have e3 : ysg2 a b q = q := ysg2_n (by omega) (by omega)
        rw [e3]
        exact ⟨fun t => by have := yGr_n hG t; omega, fun t => by have := yGr_n hG t; omega⟩
    · have e3 : ysg2 a b p = p := ysg2_n (by omega) (by omega)
      rw [e3]
      by_cases e2 : q = a ∨ q = b
      · have hp : n ≤ p := by
          unfold yxA at hA
          omega
        exact ⟨fun t => by have := yGr_n hG t; omega, fun t => by have := yGr_n hG t; omega⟩
      · have e4 : ysg2 a b q = q := ysg2_n (by omega) (by omega)
        rw [e4]
theorem s_swap {n : Nat} {R : Nat → Nat} (hG0 : yGr n R) {a b : Nat} (ha : a < n) (hb : b < n) (hab : a ≠ b) : ∀ (d c : Nat), c + d = n → ∀ (Rc : Nat → Nat) (m : xmm), yGr n Rc → (∀ p q, yad Rc p q ↔ yxF R a b c p q) → m.1 10 0 = nI n → yrw 11 Rc m → ∃ m', bX3_swap_12 10 (nI a) (nI b) (nI c) m = some m' ∧ yrw 11 (yex R n a b) m' ∧ yfr [11] m m' := by
  have hn := hG0.1
  have n10 : Nat.beq 10 1999 = false := rfl
  have o10 : xob 10 3 = true := rfl
  intro d
  induction d with
  | zero =>
    intro c hc Rc m hG hR hN hm
    have e : c = n := by omega
    subst e
    refine ⟨m, ?_, fun p hp => ?_, yfr_r⟩
    · apply bX3_swap_12_i
      simp (disch := omega) only [yl3, yl4, yl5, yl6, yl7, yl8, yl9, yl10, yl13, yl16, yl20, yl21, yl22, yl23, yl24, yl32, yl40, yl48, yl57, yl59, yl63, yl64, yl97, yl99, yl122, yl255, yl256, yl400, yl1000, yl2000, yl2048, yc0_eq, yc0_eq2, yc0_le, yc0_ge, yc0_lt, yc0_gt, yc0_ad, yc0_da, yc0_sb, yc0_ml, yc0_lm, yc1_eq, yc1_eq2, yc1_le, yc1_ge, yc1_lt, yc1_gt, yc1_ad, yc1_da, yc1_sb, yc1_ml, yc1_lm, yc2_eq, yc2_eq2, yc2_le, yc2_ge, yc2_lt, yc2_gt, yc2_ad, yc2_da, yc2_sb, yc2_ml, yc2_lm, yc31_ge, ymodn, yI_1sl, yc2_dv, yn1_eq, yn1_lt, xgd_t, xlt_e, Option.bind_some, nI_add, pk_mul, pk_sub, pk_div, pk_rem, yI_and, yI_or, yI_xor, yI_nd, yI_nd2, yI_31, yI_shl, nI_leI, nI_ltI, nI_eq, nI_clamp, xinb_t, yP_z, yP_if, n10, o10, Bool.not_false, hN, if_pos]
    · rw [hm p hp]
      congr 1
      exact yrow_eq fun q => (hR p q).trans (yxF_e hG0 ha hb hab)
  | succ d ih =>
    intro c hc Rc m hG hR hN hm
    have hcn : c < n := by omega
    by_cases eca : c = a
    · obtain ⟨m', e1, e2, e3⟩ := ih (c + 1) (by omega) Rc m hG (fun p q => (hR p q).trans (yxF_c (by unfold yxA; omega))) hN hm
      refine ⟨m', ?_, e2, e3⟩
      apply bX3_swap_12_i
      simp (disch := omega) only [yl3, yl4, yl5, yl6, yl7, yl8, yl9, yl10, yl13, yl16, yl20, yl21, yl22, yl23, yl24, yl32, yl40, yl48, yl57, yl59, yl63, yl64, yl97, yl99, yl122, yl255, yl256, yl400, yl1000, yl2000, yl2048, yc0_eq, yc0_eq2, yc0_le, yc0_ge, yc0_lt, yc0_gt, yc0_ad, yc0_da, yc0_sb, yc0_ml, yc0_lm, yc1_eq, yc1_eq2, yc1_le, yc1_ge, yc1_lt, yc1_gt, yc1_ad, yc1_da, yc1_sb, yc1_ml, yc1_lm, yc2_eq, yc2_eq2, yc2_le, yc2_ge, yc2_lt, yc2_gt, yc2_ad, yc2_da, yc2_sb, yc2_ml, yc2_lm, yc31_ge, ymodn, yI_1sl, yc2_dv, yn1_eq, yn1_lt, xgd_t, xlt_e, Option.bind_some, nI_add, pk_mul, pk_sub, pk_div, pk_rem, yI_and, yI_or, yI_xor, yI_nd, yI_nd2, yI_31, yI_shl, nI_leI, nI_ltI, nI_eq, nI_clamp, xinb_t, yP_z, yP_if, n10, o10, Bool.not_false, hN, if_neg, if_pos eca]
      exact e1
    · by_cases ecb : c = b
      · obtain ⟨m', e1, e2, e3⟩ := ih (c + 1) (by omega) Rc m hG (fun p q => (hR p q).trans (yxF_c (by unfold yxA; omega))) hN hm
        refine ⟨m', ?_, e2, e3⟩
        apply bX3_swap_12_i
        simp (disch := omega) only [yl3, yl4, yl5, yl6, yl7, yl8, yl9, yl10, yl13, yl16, yl20, yl21, yl22, yl23, yl24, yl32, yl40, yl48, yl57, yl59, yl63, yl64, yl97, yl99, yl122, yl255, yl256, yl400, yl1000, yl2000, yl2048, yc0_eq, yc0_eq2, yc0_le, yc0_ge, yc0_lt, yc0_gt, yc0_ad, yc0_da, yc0_sb, yc0_ml, yc0_lm, yc1_eq, yc1_eq2, yc1_le, yc1_ge, yc1_lt, yc1_gt, yc1_ad, yc1_da, yc1_sb, yc1_ml, yc1_lm, yc2_eq, yc2_eq2, yc2_le, yc2_ge, yc2_lt, yc2_gt, yc2_ad, yc2_da, yc2_sb, yc2_ml, yc2_lm, yc31_ge, ymodn, yI_1sl, yc2_dv, yn1_eq, yn1_lt, xgd_t, xlt_e, Option.bind_some, nI_add, pk_mul, pk_sub, pk_div, pk_rem, yI_and, yI_or, yI_xor, yI_nd, yI_nd2, yI_31, yI_shl, nI_leI, nI_ltI, nI_eq, nI_clamp, xinb_t, yP_z, yP_if, n10, o10, Bool.not_false, hN, if_neg, if_pos ecb]
        exact e1
      · have hla := s_hasLine ynet10 hG (nI a) (nI c) hN hm
        rw [yP_c (yln_c hn ha hcn)] at hla
        have hlb := s_hasLine ynet10 hG (nI b) (nI c) hN hm
        rw [yP_c (yln_c hn hb hcn)] at hlb
        have ac : a ≠ c := fun e => eca e.symm
        have bc : b ≠ c := fun e => ecb e.symm
        have Aa : ¬ yxA a b c a c := by unfold yxA; omega
        have Ab : ¬ yxA a b c b c := by unfold yxA; omega
        have va : yad Rc a c ↔ yad R a c := (hR a c).trans (yxF_f Aa)
        have vb : yad Rc b c ↔ yad R b c := (hR b c).trans (yxF_f Ab)
        have Aa' : yxA a b (c + 1) a c := by unfold yxA; omega
        have Ab' : yxA a b (c + 1) b c := by unfold yxA; omega
        have Aa2 : yxA a b (c + 1) c a := by unfold yxA; omega
        have Ab2 : yxA a b (c + 1) c b := by unfold yxA; omega
        have sc : ysg2 a b c = c := ysg2_n eca ecb
        have wa : yxF R a b (c + 1) a c ↔ yad R b c := by rw [yxF_t Aa', ysg2_a, sc]
        have wb : yxF R a b (c + 1) b c ↔ yad R a c := by rw [yxF_t Ab', ysg2_b hab, sc]
        have wa2 : yxF R a b (c + 1) c a ↔ yad R b c := by
          rw [yxF_t Aa2, ysg2_a, sc]
          exact ⟨hG0.2.2.2.1 _ _, hG0.2.2.2.1 _ _⟩
        have wb2 : yxF R a b (c + 1) c b ↔ yad R a c := by
          rw [yxF_t Ab2, ysg2_b hab, sc]
          exact ⟨hG0.2.2.2.1 _ _, hG0.2.2.2.1 _ _⟩
        have va2 : yad Rc c a ↔ yad R a c := ⟨fun t => va.mp (hG.2.2.2.1 _ _ t), fun t => hG.2.2.2.1 _ _ (va.mpr t)⟩
        have vb2 : yad Rc c b ↔ yad R b c := ⟨fun t => vb.mp (hG.2.2.2.1 _ _ t), fun t => hG.2.2.2.1 _ _ (vb.mpr t)⟩
        by_cases hs : yad Rc a c ↔ yad Rc b c
        · obtain ⟨m', e1, e2, e3⟩ := ih (c + 1) (by omega) Rc m hG (fun p q => by
            have hs' : yad R a c ↔ yad R b c := va.symm.trans (hs.trans vb)
            by_cases k1 : p = a ∧ q = c
            · rw [k1.1, k1.2, wa, va]; exact hs'
            · by_cases k2 : p = b ∧ q = c
              · rw [k2.1, k2.2, wb, vb]; exact hs'.symm
              · by_cases k3 : q = a ∧ p = c
                · rw [k3.1, k3.2, wa2, va2]; exact hs'
                · by_cases k4 : q = b ∧ p = c
                  · rw [k4.1, k4.2, wb2, vb2]; exact hs'.symm
                  · exact (hR p q).trans (yxF_c (yxA_s (by omega)))) hN hm
          refine ⟨m', ?_, e2, e3⟩
          have same : yP (yad Rc a c) = yP (yad Rc b c) := yP_eq.mpr hs
          apply bX3_swap_12_i
          simp (disch := omega) only [yl3, yl4, yl5, yl6, yl7, yl8, yl9, yl10, yl13, yl16, yl20, yl21, yl22, yl23, yl24, yl32, yl40, yl48, yl57, yl59, yl63, yl64, yl97, yl99, yl122, yl255, yl256, yl400, yl1000, yl2000, yl2048, yc0_eq, yc0_eq2, yc0_le, yc0_ge, yc0_lt, yc0_gt, yc0_ad, yc0_da, yc0_sb, yc0_ml, yc0_lm, yc1_eq, yc1_eq2, yc1_le, yc1_ge, yc1_lt, yc1_gt, yc1_ad, yc1_da, yc1_sb, yc1_ml, yc1_lm, yc2_eq, yc2_eq2, yc2_le, yc2_ge, yc2_lt, yc2_gt, yc2_ad, yc2_da, yc2_sb, yc2_ml, yc2_lm, yc31_ge, ymodn, yI_1sl, yc2_dv, yn1_eq, yn1_lt, xgd_t, xlt_e, Option.bind_some, nI_add, pk_mul, pk_sub, pk_div, pk_rem, yI_and, yI_or, yI_xor, yI_nd, yI_nd2, yI_31, yI_shl, nI_leI, nI_ltI, nI_eq, nI_clamp, xinb_t, yP_z, yP_if, n10, o10, Bool.not_false, hN, if_neg, hla, hlb, if_pos same]
          exact e1
        · obtain ⟨m1, b1, b2, b3⟩ := s_flip hG ha hcn ac hN hm
          have hG1 := yfp_gr hG ha hcn ac
          obtain ⟨m2, c1, c2, c3⟩ := s_flip hG1 hb hcn bc (by rw [yfr_1 b3 10 0 (by decide)]; exact hN) b2
          have fr : yfr [11] m m2 := yfr_t b3 c3
          obtain ⟨m', e1, e2, e3⟩ := ih (c + 1) (by omega) _ m2 (yfp_gr hG1 hb hcn bc) (fun p q => by
            have hs' : ¬ (yad R a c ↔ yad R b c) := fun t => hs (va.trans (t.trans vb.symm))
            rw [yfp_b bc, yfp_b ac]
            by_cases k1 : p = a ∧ q = c
            · rw [k1.1, k1.2, wa, va]
              have t1 : ((a = a ∧ c = c) ∨ (a = c ∧ c = a)) ↔ True := ⟨fun _ => trivial, fun _ => Or.inl ⟨rfl, rfl⟩⟩
              have t2 : ((a = b ∧ c = c) ∨ (a = c ∧ c = b)) ↔ False := ⟨fun t => by omega, False.elim⟩
              rw [t1, t2]
              by_cases x : yad R a c <;> by_cases y : yad R b c <;> simp only [x, y] at hs' ⊢ <;> simp at hs' ⊢
            · by_cases k2 : p = b ∧ q = c
              · rw [k2.1, k2.2, wb, vb]
                have t1 : ((b = a ∧ c = c) ∨ (b = c ∧ c = a)) ↔ False := ⟨fun t => by omega, False.elim⟩
                have t2 : ((b = b ∧ c = c) ∨ (b = c ∧ c = b)) ↔ True := ⟨fun _ => trivial, fun _ => Or.inl ⟨rfl, rfl⟩⟩
                rw [t1, t2]
                by_cases x : yad R a c <;> by_cases y : yad R b c <;> simp only [x, y] at hs' ⊢ <;> simp at hs' ⊢
              · by_cases k3 : q = a ∧ p = c
                · rw [k3.1, k3.2, wa2, va2]
                  have t1 : ((c = a ∧ a = c) ∨ (c = c ∧ a = a)) ↔ True := ⟨fun _ => trivial, fun _ => Or.inr ⟨rfl, rfl⟩⟩
                  have t2 : ((c = b ∧ a = c) ∨ (c = c ∧ a = b)) ↔ False := ⟨fun t => by omega, False.elim⟩
                  rw [t1, t2]
                  by_cases x : yad R a c <;> by_cases y : yad R b c <;> simp only [x, y] at hs' ⊢ <;> simp at hs' ⊢
                · by_cases k4 : q = b ∧ p = c
                  · rw [k4.1, k4.2, wb2, vb2]
                    have t1 : ((c = a ∧ b = c) ∨ (c = c ∧ b = a)) ↔ False := ⟨fun t => by omega, False.elim⟩
                    have t2 : ((c = b ∧ b = c) ∨ (c = c ∧ b = b)) ↔ True := ⟨fun _ => trivial, fun _ => Or.inr ⟨rfl, rfl⟩⟩
                    rw [t1, t2]
                    by_cases x : yad R a c <;> by_cases y : yad R b c <;> simp only [x, y] at hs' ⊢ <;> simp at hs' ⊢
                  · have t1 : ((p = a ∧ q = c) ∨ (p = c ∧ q = a)) ↔ False := ⟨fun t => by omega, False.elim⟩
                    have t2 : ((p = b ∧ q = c) ∨ (p = c ∧ q = b)) ↔ False := ⟨fun t => by omega, False.elim⟩
                    rw [t1, t2]
                    have t3 := (hR p q).trans (yxF_c (yxA_s (show ¬ (((p = a ∨ p = b) ∧ q = c) ∨ ((q = a ∨ q = b) ∧ p = c)) by omega)))
                    rw [← t3]
                    by_cases x : yad Rc p q <;> simp [x]) (by rw [yfr_1 fr 10 0 (by decide)]; exact hN) c2
          refine ⟨m', ?_, e2, yfr_t fr e3⟩
          have diff : ¬ yP (yad Rc a c) = yP (yad Rc b c) := fun t => hs (yP_eq.mp t)
          apply bX3_swap_12_i
          simp (disch := omega) only [yl3, yl4, yl5, yl6, yl7, yl8, yl9, yl10, yl13, yl16, yl20, yl21, yl22, yl23, yl24, yl32, yl40, yl48, yl57, yl59, yl63, yl64, yl97, yl99, yl122, yl255, yl256, yl400, yl1000, yl2000, yl2048, yc0_eq, yc0_eq2, yc0_le, yc0_ge, yc0_lt, yc0_gt, yc0_ad, yc0_da, yc0_sb, yc0_ml, yc0_lm, yc1_eq, yc1_eq2, yc1_le, yc1_ge, yc1_lt, yc1_gt, yc1_ad, yc1_da, yc1_sb, yc1_ml, yc1_lm, yc2_eq, yc2_eq2, yc2_le, yc2_ge, yc2_lt, yc2_gt, yc2_ad, yc2_da, yc2_sb, yc2_ml, yc2_lm, yc31_ge, ymodn, yI_1sl, yc2_dv, yn1_eq, yn1_lt, xgd_t, xlt_e, Option.bind_some, nI_add, pk_mul, pk_sub, pk_div, pk_rem, yI_and, yI_or, yI_xor, yI_nd, yI_nd2, yI_31, yI_shl, nI_leI, nI_ltI, nI_eq, nI_clamp, xinb_t, yP_z, yP_if, n10, o10, Bool.not_false, hN, if_neg, hla, hlb, if_neg diff, b1, c1]
          exact e1
theorem s_cExchange {n : Nat} {N : yNW} {h : Nat} {H : Nat → yNW} {hd : Nat → Prop} {K : Nat → yNW} {m : xmm} (hc : yCI n N h H hd K m) (x y : Int32) : ∃ m', fX11_exchange_0 x y m = some (yP (yPr2 n x y), m') ∧ (∀ a b, a < n → b < n → a ≠ b → x = nI a → y = nI b → yCI n (yex N.1 n a b, N.2) (yhn h) (ypu N H) hd K m') ∧ (¬ yPr2 n x y → m' = m) ∧ yCk m m' := by
  have hn := hc.1.1.1
  have hp := s_hasPair ynet10 hn x y hc.2.1.1
  have n1 : ¬ (1 : Int32) = 0 := by decide
  by_cases hx : yPr2 n x y
  · obtain ⟨a, b, ha, hb, hab, ex, ey⟩ := hx
    obtain ⟨m1, a1, a2, a3, a4⟩ := s_before2 hc
    obtain ⟨m2, b1, b2, b3⟩ := s_swap hc.1.1 ha hb hab n 0 (Nat.zero_add n) N.1 m1 hc.1.1 (fun p q => (yxF_f (by unfold yxA; omega)).symm) a2.2.1.1 a2.2.1.2.2
    have f2 : yfr [10, 11] m1 m2 := yfr_m b3 (by decide)
    refine ⟨m2, ?_, fun a' b' ha' hb' hab' ex' ey' => ?_, fun t => absurd ⟨a, b, ha, hb, hab, ex, ey⟩ t, yCk_t a4 (yCk_of b3 (by decide))⟩
    · have hp1 := s_hasPair ynet10 hn x y a2.2.1.1
      rw [yP_t ⟨a, b, ha, hb, hab, ex, ey⟩] at hp hp1 ⊢
      have sw : fX3_swap 10 (nI a) (nI b) m1 = some m2 := by
        apply fX3_swap_i
        rw [← ex, ← ey, hp1]
        have n10 : Nat.beq 10 1999 = false := rfl
        have o10 : xob 10 3 = true := rfl
        rw [ex, ey]
        simp only [n10, o10, Bool.not_false, xgd_t, Option.bind_some, if_neg n1]
        exact b1
      apply fX11_exchange_0_i
      rw [hp, Option.bind_some, if_neg n1, a1, Option.bind_some, ex, ey, sw]
      rfl
    · have ea : a' = a := by rw [ex] at ex'; exact ((nI_eq (by omega) (by omega)).mp ex').symm
      have eb : b' = b := by rw [ey] at ey'; exact ((nI_eq (by omega) (by omega)).mp ey').symm
      subst ea; subst eb
      exact yCI_net a2 a3 f2 ⟨by rw [yfr_1 b3 10 0 (by decide)]; exact a2.2.1.1, by rw [yfr_1 b3 10 1 (by decide)]; exact a2.2.1.2.1, b2⟩ ⟨yex_gr hc.1.1 ha hb, hc.1.2⟩
  · refine ⟨m, ?_, fun a b ha hb hab ex ey => absurd ⟨a, b, ha, hb, hab, ex, ey⟩ hx, fun _ => rfl, yCk_r m⟩
    rw [yP_f hx] at hp ⊢
    apply fX11_exchange_0_i
    rw [hp, Option.bind_some, if_pos rfl]
theorem yswb {S a b q : Nat} (hab : a ≠ b) : yb S (ysg2 a b q) ↔ yb (if (S.testBit a = true ↔ S.testBit b = true) then S else S ^^^ (2 ^ a ||| 2 ^ b)) q := by
  by_cases h : S.testBit a = true ↔ S.testBit b = true
  · rw [if_pos h]
    by_cases e1 : q = a
    · subst e1; rw [ysg2_a]; exact h.symm
    · by_cases e2 : q = b
      · subst e2; rw [ysg2_b hab]; exact h
      · rw [ysg2_n e1 e2]
  · rw [if_neg h, yxr, yb_or, yb_pw, yb_pw]
    by_cases e1 : q = a
    · subst e1
      rw [ysg2_a]
      have t : (q = q ∨ q = b) ↔ True := ⟨fun _ => trivial, fun _ => Or.inl rfl⟩
      rw [t]
      show S.testBit b = true ↔ ¬ (S.testBit q = true ↔ True)
      by_cases x : S.testBit q = true <;> by_cases y : S.testBit b = true <;> simp only [x, y] at h ⊢ <;> simp at h ⊢
    · by_cases e2 : q = b
      · subst e2
        rw [ysg2_b hab]
        have t : (q = a ∨ q = q) ↔ True := ⟨fun _ => trivial, fun _ => Or.inr rfl⟩
        rw [t]
        show S.testBit a = true ↔ ¬ (S.testBit q = true ↔ True)
        by_cases x : S.testBit q = true <;> by_cases y : S.testBit a = true <;> simp only [x, y] at h ⊢ <;> simp at h ⊢
      · rw [ysg2_n e1 e2]
        have t : (q = a ∨ q = b) ↔ False := ⟨fun t => t.elim e1 e2, False.elim⟩
        rw [t]
        exact ⟨fun x t => t.mp x, fun t => Classical.byContradiction fun x => t ⟨fun y => absurd y x, False.elim⟩⟩
