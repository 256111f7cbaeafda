/-! SIGNS -/
def ysN (f : Nat → Int32) : Nat → Int32
  | 0 => 0
  | k + 1 => ysN f k - f k
theorem ysN_s (f : Nat → Int32) (k : Nat) : ysN f (k + 1) = ysN f k - f k := rfl
theorem ysN_c {f g : Nat → Int32} : ∀ {n : Nat}, (∀ k, k < n → f k = g k) → ysN f n = ysN g n
  | 0, _ => rfl
  | n + 1, h => by rw [ysN_s, ysN_s, ysN_c (fun k hk => h k (Nat.lt_succ_of_lt hk)), h n (Nat.lt_succ_self n)]
def ysP (f : Nat → Int32) : Nat → Int32
  | 0 => 0
  | k + 1 => ysP f k + f k
theorem ysP_s (f : Nat → Int32) (k : Nat) : ysP f (k + 1) = ysP f k + f k := rfl
theorem ysP_N (f : Nat → Int32) : ∀ n, -(ysP f n) = ysN f n
  | 0 => Int32.neg_zero
  | n + 1 => by rw [ysP_s, Int32.neg_add, ysP_N f n, ysN_s]
noncomputable def ysgf (n : Nat) (T : yG) (a : Nat) : Nat → Nat → Int32
  | 0, p => yif (p = a) 1 0
  | k + 1, p => yif (p = a) 1 (yif (T a p) (ysN (fun c => yif (T c p ∧ (c = a ∨ T a c)) (ysgf n T a k c) 0) n) 0)
theorem ysgf_s (n : Nat) (T : yG) (a k p : Nat) : ysgf n T a (k + 1) p = yif (p = a) 1 (yif (T a p) (ysN (fun c => yif (T c p ∧ (c = a ∨ T a c)) (ysgf n T a k c) 0) n) 0) := rfl
theorem ysgf_st {n : Nat} {T : yG} (hT : yPo n T) {a : Nat} : ∀ (d p j k : Nat), ydn n T p ≤ d → ydn n T p ≤ j → ydn n T p ≤ k → ysgf n T a j p = ysgf n T a k p := by
  intro d
  induction d with
  | zero =>
    intro p j k h1 _ _
    have hn : ∀ q, ¬ T q p := fun q e => by have := ydn_lt hT e; omega
    have z : ∀ j, ysgf n T a j p = yif (p = a) 1 0 := by
      intro j
      cases j with
      | zero => rfl
      | succ j => rw [ysgf_s, yif_f (hn a)]
    rw [z j, z k]
  | succ d ih =>
    intro p j k h1 h2 h3
    rcases Nat.eq_zero_or_pos (ydn n T p) with e | e
    · exact ih p j k (by omega) h2 h3
    · cases j with
      | zero => omega
      | succ j =>
        cases k with
        | zero => omega
        | succ k =>
          rw [ysgf_s, ysgf_s]
          congr 2
          apply ysN_c
          intro c _
          by_cases hc : T c p ∧ (c = a ∨ T a c)
          · have := ydn_lt hT hc.1
            rw [yif_t hc, yif_t hc, ih c j k (by omega) (by omega) (by omega)]
          · rw [yif_f hc, yif_f hc]
/-- SIGN of a, p -/
noncomputable def ysg (n : Nat) (T : yG) (a p : Nat) : Int32 := ysgf n T a n p
theorem ysg_eq {n : Nat} {T : yG} (hT : yPo n T) (a p : Nat) : ysg n T a p = yif (p = a) 1 (yif (T a p) (ysN (fun c => yif (T c p ∧ (c = a ∨ T a c)) (ysg n T a c) 0) n) 0) := by
  have b : ydn n T p ≤ n := yct_le _ n
  show ysgf n T a n p = _
  rw [ysgf_st hT n p n (n + 1) b b (by omega)]
  rfl
theorem s_isUnder {n : Nat} {T : yG} (hT : yPo n T) (hn : n ≤ 8) {m : xmm} (h : yR0 n T m) {a b : Nat} (ha : a < 8) (hb : b < 8) : fX5_isUnder_123 (nI a) (nI b) m = some (yP (T a b), m) := by
  have b1 := yro_lt T a
  apply fX5_isUnder_123_i
  simp (disch := omega) only [yl3, yl4, yl5, yl6, yl7, yl8, yl9, yl10, yl13, yl16, yl20, yl21, yl22, yl23, yl24, yl32, yl40, yl48, yl57, yl59, yl63, yl64, yl97, yl99, yl122, yl255, yl256, yl400, yl1000, yl2000, yl2048, yc0_eq, yc0_eq2, yc0_le, yc0_ge, yc0_lt, yc0_gt, yc0_ad, yc0_da, yc0_sb, yc0_ml, yc0_lm, yc1_eq, yc1_eq2, yc1_le, yc1_ge, yc1_lt, yc1_gt, yc1_ad, yc1_da, yc1_sb, yc1_ml, yc1_lm, yc2_eq, yc2_eq2, yc2_le, yc2_ge, yc2_lt, yc2_gt, yc2_ad, yc2_da, yc2_sb, yc2_ml, yc2_lm, yc31_ge, ymodn, yI_1sl, yc2_dv, yn1_eq, yn1_lt, xgd_t, xlt_e, Option.bind_some, nI_add, pk_mul, pk_sub, pk_div, pk_rem, yI_and, yI_or, yI_xor, yI_nd, yI_nd2, yI_31, yI_shl, nI_leI, nI_ltI, nI_eq, nI_clamp, xinb_t, yP_z, yP_if, h.2.1 a ha, s_contains]
  rw [yP_c (yro_b hT hn)]
theorem s_sos_l {n : Nat} {T : yG} (hn : n ≤ 8) {m : xmm} (h : m.1 123 6 = nI n) {S : Nat} (hS : S < 256) : ∀ (d k : Nat), k + d = n → bX5_sumOfSigns_123_4 (nI S) (ysP (fun c => yif (yb S c) (m.1 128 c) 0) k) (nI k) m = some (ysP (fun c => yif (yb S c) (m.1 128 c) 0) n, m) := by
  intro d
  induction d with
  | zero =>
    intro k hk
    have e : k = n := by omega
    subst e
    apply bX5_sumOfSigns_123_4_i
    simp (disch := omega) only [yl3, yl4, yl5, yl6, yl7, yl8, yl9, yl10, yl13, yl16, yl20, yl21, yl22, yl23, yl24, yl32, yl40, yl48, yl57, yl59, yl63, yl64, yl97, yl99, yl122, yl255, yl256, yl400, yl1000, yl2000, yl2048, yc0_eq, yc0_eq2, yc0_le, yc0_ge, yc0_lt, yc0_gt, yc0_ad, yc0_da, yc0_sb, yc0_ml, yc0_lm, yc1_eq, yc1_eq2, yc1_le, yc1_ge, yc1_lt, yc1_gt, yc1_ad, yc1_da, yc1_sb, yc1_ml, yc1_lm, yc2_eq, yc2_eq2, yc2_le, yc2_ge, yc2_lt, yc2_gt, yc2_ad, yc2_da, yc2_sb, yc2_ml, yc2_lm, yc31_ge, ymodn, yI_1sl, yc2_dv, yn1_eq, yn1_lt, xgd_t, xlt_e, Option.bind_some, nI_add, pk_mul, pk_sub, pk_div, pk_rem, yI_and, yI_or, yI_xor, yI_nd, yI_nd2, yI_31, yI_shl, nI_leI, nI_ltI, nI_eq, nI_clamp, xinb_t, yP_z, yP_if, h, if_pos]
  | succ d ih =>
    intro k hk
    have e := ih (k + 1) (by omega)
    rw [ysP_s] at e
    apply bX5_sumOfSigns_123_4_i
    by_cases hb : yb S k
    · rw [yif_t hb] at e
      simp (disch := omega) only [yl3, yl4, yl5, yl6, yl7, yl8, yl9, yl10, yl13, yl16, yl20, yl21, yl22, yl23, yl24, yl32, yl40, yl48, yl57, yl59, yl63, yl64, yl97, yl99, yl122, yl255, yl256, yl400, yl1000, yl2000, yl2048, yc0_eq, yc0_eq2, yc0_le, yc0_ge, yc0_lt, yc0_gt, yc0_ad, yc0_da, yc0_sb, yc0_ml, yc0_lm, yc1_eq, yc1_eq2, yc1_le, yc1_ge, yc1_lt, yc1_gt, yc1_ad, yc1_da, yc1_sb, yc1_ml, yc1_lm, yc2_eq, yc2_eq2, yc2_le, yc2_ge, yc2_lt, yc2_gt, yc2_ad, yc2_da, yc2_sb, yc2_ml, yc2_lm, yc31_ge, ymodn, yI_1sl, yc2_dv, yn1_eq, yn1_lt, xgd_t, xlt_e, Option.bind_some, nI_add, pk_mul, pk_sub, pk_div, pk_rem, yI_and, yI_or, yI_xor, yI_nd, yI_nd2, yI_31, yI_shl, nI_leI, nI_ltI, nI_eq, nI_clamp, xinb_t, yP_z, yP_if, h, if_neg, s_contains, yif_t hb]
      exact e
    · rw [yif_f hb, Int32.add_zero] at e
      simp (disch := omega) only [yl3, yl4, yl5, yl6, yl7, yl8, yl9, yl10, yl13, yl16, yl20, yl21, yl22, yl23, yl24, yl32, yl40, yl48, yl57, yl59, yl63, yl64, yl97, yl99, yl122, yl255, yl256, yl400, yl1000, yl2000, yl2048, yc0_eq, yc0_eq2, yc0_le, yc0_ge, yc0_lt, yc0_gt, yc0_ad, yc0_da, yc0_sb, yc0_ml, yc0_lm, yc1_eq, yc1_eq2, yc1_le, yc1_ge, yc1_lt, yc1_gt, yc1_ad, yc1_da, yc1_sb, yc1_ml, yc1_lm, yc2_eq, yc2_eq2, yc2_le, yc2_ge, yc2_lt, yc2_gt, yc2_ad, yc2_da, yc2_sb, yc2_ml, yc2_lm, yc31_ge, ymodn, yI_1sl, yc2_dv, yn1_eq, yn1_lt, xgd_t, xlt_e, Option.bind_some, nI_add, pk_mul, pk_sub, pk_div, pk_rem, yI_and, yI_or, yI_xor, yI_nd, yI_nd2, yI_31, yI_shl, nI_leI, nI_ltI, nI_eq, nI_clamp, xinb_t, yP_z, yP_if, h, if_neg, s_contains, yif_f hb]
      exact e
theorem s_so_46 {n : Nat} {T : yG} (hT : yPo n T) (hn : n ≤ 8) {a b : Nat} (ha : a < n) (hb : b < n) (hab : a = b ∨ T a b) : ∀ (d k : Nat), k + d = n → ∀ (m : xmm), yRK n T m → (∀ c, c < n → (yb (yq n T 0 k).1 c ∨ c = a ∨ ¬ T a c) → m.1 128 c = ysg n T a c) → ∃ m', bX5_signOf_123_46 (nI a) (nI b) (nI k) m = some (ysg n T a b, m') ∧ yfr [128] m m' := by
  have h0 := yW_pos hT (ydw_0 T)
  intro d
  induction d with
  | zero =>
    intro k hk m h h1
    have e : k = n := by omega
    subst e
    refine ⟨m, ?_, yfr_r⟩
    have e1 := h1 b hb (Or.inl (ysz_n (yq_ok (n := k) (T := T) (i := 0) (by omega) k (Nat.le_refl k)).2.1 b hb))
    apply bX5_signOf_123_46_i
    simp (disch := omega) only [yl3, yl4, yl5, yl6, yl7, yl8, yl9, yl10, yl13, yl16, yl20, yl21, yl22, yl23, yl24, yl32, yl40, yl48, yl57, yl59, yl63, yl64, yl97, yl99, yl122, yl255, yl256, yl400, yl1000, yl2000, yl2048, yc0_eq, yc0_eq2, yc0_le, yc0_ge, yc0_lt, yc0_gt, yc0_ad, yc0_da, yc0_sb, yc0_ml, yc0_lm, yc1_eq, yc1_eq2, yc1_le, yc1_ge, yc1_lt, yc1_gt, yc1_ad, yc1_da, yc1_sb, yc1_ml, yc1_lm, yc2_eq, yc2_eq2, yc2_le, yc2_ge, yc2_lt, yc2_gt, yc2_ad, yc2_da, yc2_sb, yc2_ml, yc2_lm, yc31_ge, ymodn, yI_1sl, yc2_dv, yn1_eq, yn1_lt, xgd_t, xlt_e, Option.bind_some, nI_add, pk_mul, pk_sub, pk_div, pk_rem, yI_and, yI_or, yI_xor, yI_nd, yI_nd2, yI_31, yI_shl, nI_leI, nI_ltI, nI_eq, nI_clamp, xinb_t, yP_z, yP_if, h.1.1, if_pos, e1]
  | succ d ih =>
    intro k hk m h h1
    have hkn : k < n := by omega
    have sa := s_straightAt hT hn h (i := 0) (by omega) hkn
    rw [yif_t (by omega)] at sa
    have sa' : fX5_straightAt_123 (0 : Int32) (nI k) m = some (nI (ypk n T 0 k), m) := sa
    obtain ⟨p1, p2, p3, p4⟩ := ypk_ok (n := n) (T := T) (i := 0) (by omega) hkn
    have su := s_isUnder hT hn h.1 (a := a) (b := ypk n T 0 k) (by omega) (by omega)
    have hS : ∀ c, yb (yq n T 0 (k + 1)).1 c ↔ yb (yq n T 0 k).1 c ∨ c = ypk n T 0 k := by
      intro c
      rw [yq_s]
      show yb ((yq n T 0 k).1 ||| 2 ^ (ypk n T 0 k)) c ↔ _
      rw [yb_or, yb_pw]
    by_cases hu : T a (ypk n T 0 k)
    · have hne : ypk n T 0 k ≠ a := fun e => by rw [e] at hu; exact hT.2.1 a hu
      have hbl := yci_lt T (ypk n T 0 k)
      have hb8 : ypk n T 0 k < 8 := by omega
      have ss : fX5_sumOfSigns_123 (nI (yci T (ypk n T 0 k))) m = some (ysP (fun c => yif (yb (yci T (ypk n T 0 k)) c) (m.1 128 c) 0) n, m) := by
        apply fX5_sumOfSigns_123_i
        exact s_sos_l (T := T) hn h.1.1 hbl n 0 (by omega)
      have ev : -(ysP (fun c => yif (yb (yci T (ypk n T 0 k)) c) (m.1 128 c) 0) n) = ysg n T a (ypk n T 0 k) := by
        rw [ysP_N, ysg_eq hT, yif_f hne, yif_t hu]
        apply ysN_c
        intro c hc
        by_cases hcp : T c (ypk n T 0 k)
        · have ec : yb (yci T (ypk n T 0 k)) c := (yci_b hT hn).mpr hcp
          rw [yif_t ec, h1 c hc (Or.inl (p2.2 c hcp))]
          by_cases hca : c = a ∨ T a c
          · rw [yif_t ⟨hcp, hca⟩]
          · rw [yif_f (fun e => hca e.2), ysg_eq hT, yif_f (fun e => hca (Or.inl e)), yif_f (fun e => hca (Or.inr e))]
        · have ec : ¬ yb (yci T (ypk n T 0 k)) c := fun e => hcp ((yci_b hT hn).mp e)
          rw [yif_f ec, yif_f (fun e => hcp e.1)]
      obtain ⟨m', e1, e2⟩ := ih (k + 1) (by omega) (xwi m 128 (ypk n T 0 k) (ysg n T a (ypk n T 0 k))) ⟨yR0_f h.1 (yfr_w (L := [128]) yfr_r (by decide)) (by decide) (by decide) (by decide), fun p hp => by rw [xwi_k (by decide)]; exact h.2.1 p hp, fun S hS => by rw [xwi_k (by decide)]; exact h.2.2 S hS⟩ (fun c hc hh => by
        by_cases e : c = ypk n T 0 k
        · subst e; rw [xwi_e]
        · rw [xwi_i e]
          refine h1 c hc ?_
          rcases hh with hh | hh
          · rcases (hS c).mp hh with h' | h'
            · exact Or.inl h'
            · exact absurd h' e
          · exact Or.inr hh)
      refine ⟨m', ?_, yfr_t (yfr_w yfr_r (by decide)) e2⟩
      apply bX5_signOf_123_46_i
      simp (disch := omega) only [yl3, yl4, yl5, yl6, yl7, yl8, yl9, yl10, yl13, yl16, yl20, yl21, yl22, yl23, yl24, yl32, yl40, yl48, yl57, yl59, yl63, yl64, yl97, yl99, yl122, yl255, yl256, yl400, yl1000, yl2000, yl2048, yc0_eq, yc0_eq2, yc0_le, yc0_ge, yc0_lt, yc0_gt, yc0_ad, yc0_da, yc0_sb, yc0_ml, yc0_lm, yc1_eq, yc1_eq2, yc1_le, yc1_ge, yc1_lt, yc1_gt, yc1_ad, yc1_da, yc1_sb, yc1_ml, yc1_lm, yc2_eq, yc2_eq2, yc2_le, yc2_ge, yc2_lt, yc2_gt, yc2_ad, yc2_da, yc2_sb, yc2_ml, yc2_lm, yc31_ge, ymodn, yI_1sl, yc2_dv, yn1_eq, yn1_lt, xgd_t, xlt_e, Option.bind_some, nI_add, pk_mul, pk_sub, pk_div, pk_rem, yI_and, yI_or, yI_xor, yI_nd, yI_nd2, yI_31, yI_shl, nI_leI, nI_ltI, nI_eq, nI_clamp, xinb_t, yP_z, yP_if, h.1.1, if_neg, sa', if_false, su, yif_t hu, h.1.2.2 _ hb8, ss, ev]
      exact e1
    · obtain ⟨m', e1, e2⟩ := ih (k + 1) (by omega) m h (fun c hc hh => by
        refine h1 c hc ?_
        rcases hh with hh | hh
        · rcases (hS c).mp hh with h' | h'
          · exact Or.inl h'
          · subst h'; exact Or.inr (Or.inr hu)
        · exact Or.inr hh)
      refine ⟨m', ?_, e2⟩
      apply bX5_signOf_123_46_i
      simp (disch := omega) only [yl3, yl4, yl5, yl6, yl7, yl8, yl9, yl10, yl13, yl16, yl20, yl21, yl22, yl23, yl24, yl32, yl40, yl48, yl57, yl59, yl63, yl64, yl97, yl99, yl122, yl255, yl256, yl400, yl1000, yl2000, yl2048, yc0_eq, yc0_eq2, yc0_le, yc0_ge, yc0_lt, yc0_gt, yc0_ad, yc0_da, yc0_sb, yc0_ml, yc0_lm, yc1_eq, yc1_eq2, yc1_le, yc1_ge, yc1_lt, yc1_gt, yc1_ad, yc1_da, yc1_sb, yc1_ml, yc1_lm, yc2_eq, yc2_eq2, yc2_le, yc2_ge, yc2_lt, yc2_gt, yc2_ad, yc2_da, yc2_sb, yc2_ml, yc2_lm, yc31_ge, ymodn, yI_1sl, yc2_dv, yn1_eq, yn1_lt, xgd_t, xlt_e, Option.bind_some, nI_add, pk_mul, pk_sub, pk_div, pk_rem, yI_and, yI_or, yI_xor, yI_nd, yI_nd2, yI_31, yI_shl, nI_leI, nI_ltI, nI_eq, nI_clamp, xinb_t, yP_z, yP_if, h.1.1, if_neg, sa', if_false, su, yif_f hu]
      exact e1
theorem s_so_18 {a b : Int32} : ∀ (d k : Nat) (m : xmm), k + d = 8 → (∀ z, z < k → m.1 128 z = 0) → ∃ m0, (∀ {z : Int32 × xmm}, bX5_signOf_123_18 a b (nI 8) m0 = some z → bX5_signOf_123_18 a b (nI k) m = some z) ∧ (∀ z, z < 8 → m0.1 128 z = 0) ∧ yfr [128] m m0 := by
  intro d
  induction d with
  | zero =>
    intro k m hk h
    have e : k = 8 := by omega
    subst e
    exact ⟨m, id, h, yfr_r⟩
  | succ d ih =>
    intro k m hk h
    obtain ⟨m0, e1, e2, e3⟩ := ih (k + 1) (xwi m 128 k 0) (by omega) (by
      intro z hz
      by_cases e : z = k
      · subst e; exact xwi_e _ _ _ _
      · rw [xwi_i e]; exact h z (by omega))
    refine ⟨m0, fun {z} hz => ?_, e2, yfr_t (yfr_w yfr_r (by decide)) e3⟩
    apply bX5_signOf_123_18_i
    simp (disch := omega) only [yl3, yl4, yl5, yl6, yl7, yl8, yl9, yl10, yl13, yl16, yl20, yl21, yl22, yl23, yl24, yl32, yl40, yl48, yl57, yl59, yl63, yl64, yl97, yl99, yl122, yl255, yl256, yl400, yl1000, yl2000, yl2048, yc0_eq, yc0_eq2, yc0_le, yc0_ge, yc0_lt, yc0_gt, yc0_ad, yc0_da, yc0_sb, yc0_ml, yc0_lm, yc1_eq, yc1_eq2, yc1_le, yc1_ge, yc1_lt, yc1_gt, yc1_ad, yc1_da, yc1_sb, yc1_ml, yc1_lm, yc2_eq, yc2_eq2, yc2_le, yc2_ge, yc2_lt, yc2_gt, yc2_ad, yc2_da, yc2_sb, yc2_ml, yc2_lm, yc31_ge, ymodn, yI_1sl, yc2_dv, yn1_eq, yn1_lt, xgd_t, xlt_e, Option.bind_some, nI_add, pk_mul, pk_sub, pk_div, pk_rem, yI_and, yI_or, yI_xor, yI_nd, yI_nd2, yI_31, yI_shl, nI_leI, nI_ltI, nI_eq, nI_clamp, xinb_t, yP_z, yP_if, if_neg]
    exact e1 hz
/-- the class's sign -/
theorem s_signOf {n : Nat} {T : yG} (hT : yPo n T) (hn : n ≤ 8) {a b : Nat} (ha : a < n) (hb : b < n) {m : xmm} (h : yRK n T m) : ∃ m', fX5_signOf_123 (nI a) (nI b) m = some (ysg n T a b, m') ∧ yfr [128] m m' := by
  by_cases hab : a = b ∨ T a b
  · obtain ⟨m0, a1, a2, a3⟩ := s_so_18 (a := nI a) (b := nI b) 8 0 m rfl (fun z hz => absurd hz (Nat.not_lt_zero z))
    have hr : yfr [128] m (xwi m0 128 a 1) := yfr_w a3 (by decide)
    obtain ⟨m', e1, e2⟩ := s_so_46 hT hn ha hb hab n 0 (by omega) (xwi m0 128 a 1) ⟨yR0_f h.1 hr (by decide) (by decide) (by decide), fun p hp => by rw [yfr_1 hr 126 p (by decide)]; exact h.2.1 p hp, fun S hS => by rw [yfr_1 hr 127 S (by decide)]; exact h.2.2 S hS⟩ (fun c hc hh => by
      by_cases e : c = a
      · subst e; rw [xwi_e, ysg_eq hT, yif_t rfl]
      · rw [xwi_i e, a2 c (by omega), ysg_eq hT, yif_f e]
        rcases hh with hh | hh | hh
        · exact absurd hh yb_0
        · exact absurd hh e
        · rw [yif_f hh])
    have mid : bX5_signOf_123_18 (nI a) (nI b) (0 : Int32) m = some (ysg n T a b, m') := by
      apply a1
      apply bX5_signOf_123_18_i
      simp (disch := omega) only [yl3, yl4, yl5, yl6, yl7, yl8, yl9, yl10, yl13, yl16, yl20, yl21, yl22, yl23, yl24, yl32, yl40, yl48, yl57, yl59, yl63, yl64, yl97, yl99, yl122, yl255, yl256, yl400, yl1000, yl2000, yl2048, yc0_eq, yc0_eq2, yc0_le, yc0_ge, yc0_lt, yc0_gt, yc0_ad, yc0_da, yc0_sb, yc0_ml, yc0_lm, yc1_eq, yc1_eq2, yc1_le, yc1_ge, yc1_lt, yc1_gt, yc1_ad, yc1_da, yc1_sb, yc1_ml, yc1_lm, yc2_eq, yc2_eq2, yc2_le, yc2_ge, yc2_lt, yc2_gt, yc2_ad, yc2_da, yc2_sb, yc2_ml, yc2_lm, yc31_ge, ymodn, yI_1sl, yc2_dv, yn1_eq, yn1_lt, xgd_t, xlt_e, Option.bind_some, nI_add, pk_mul, pk_sub, pk_div, pk_rem, yI_and, yI_or, yI_xor, yI_nd, yI_nd2, yI_31, yI_shl, nI_leI, nI_ltI, nI_eq, nI_clamp, xinb_t, yP_z, yP_if, if_pos]
      exact e1
    refine ⟨m', ?_, yfr_t hr e2⟩
    apply fX5_signOf_123_i
    by_cases e : a = b
    · rw [if_pos (by rw [e]), mid]
    · have hu : T a b := hab.elim (fun h => absurd h e) id
      have su := s_isUnder hT hn h.1 (a := a) (b := b) (by omega) (by omega)
      simp (disch := omega) only [yl3, yl4, yl5, yl6, yl7, yl8, yl9, yl10, yl13, yl16, yl20, yl21, yl22, yl23, yl24, yl32, yl40, yl48, yl57, yl59, yl63, yl64, yl97, yl99, yl122, yl255, yl256, yl400, yl1000, yl2000, yl2048, yc0_eq, yc0_eq2, yc0_le, yc0_ge, yc0_lt, yc0_gt, yc0_ad, yc0_da, yc0_sb, yc0_ml, yc0_lm, yc1_eq, yc1_eq2, yc1_le, yc1_ge, yc1_lt, yc1_gt, yc1_ad, yc1_da, yc1_sb, yc1_ml, yc1_lm, yc2_eq, yc2_eq2, yc2_le, yc2_ge, yc2_lt, yc2_gt, yc2_ad, yc2_da, yc2_sb, yc2_ml, yc2_lm, yc31_ge, ymodn, yI_1sl, yc2_dv, yn1_eq, yn1_lt, xgd_t, xlt_e, Option.bind_some, nI_add, pk_mul, pk_sub, pk_div, pk_rem, yI_and, yI_or, yI_xor, yI_nd, yI_nd2, yI_31, yI_shl, nI_leI, nI_ltI, nI_eq, nI_clamp, xinb_t, yP_z, yP_if, if_neg, su, yif_t hu, mid]
  · refine ⟨m, ?_, yfr_r⟩
    have e : ¬ a = b := fun e => hab (Or.inl e)
    have hu : ¬ T a b := fun e => hab (Or.inr e)
    have su := s_isUnder hT hn h.1 (a := a) (b := b) (by omega) (by omega)
    rw [ysg_eq hT, yif_f (fun h => e h.symm), yif_f hu]
    apply fX5_signOf_123_i
    simp (disch := omega) only [yl3, yl4, yl5, yl6, yl7, yl8, yl9, yl10, yl13, yl16, yl20, yl21, yl22, yl23, yl24, yl32, yl40, yl48, yl57, yl59, yl63, yl64, yl97, yl99, yl122, yl255, yl256, yl400, yl1000, yl2000, yl2048, yc0_eq, yc0_eq2, yc0_le, yc0_ge, yc0_lt, yc0_gt, yc0_ad, yc0_da, yc0_sb, yc0_ml, yc0_lm, yc1_eq, yc1_eq2, yc1_le, yc1_ge, yc1_lt, yc1_gt, yc1_ad, yc1_da, yc1_sb, yc1_ml, yc1_lm, yc2_eq, yc2_eq2, yc2_le, yc2_ge, yc2_lt, yc2_gt, yc2_ad, yc2_da, yc2_sb, yc2_ml, yc2_lm, yc31_ge, ymodn, yI_1sl, yc2_dv, yn1_eq, yn1_lt, xgd_t, xlt_e, Option.bind_some, nI_add, pk_mul, pk_sub, pk_div, pk_rem, yI_and, yI_or, yI_xor, yI_nd, yI_nd2, yI_31, yI_shl, nI_leI, nI_ltI, nI_eq, nI_clamp, xinb_t, yP_z, yP_if, if_neg, su, yif_f hu]
/-! the model's sign -/
