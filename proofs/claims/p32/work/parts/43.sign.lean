/-! the model's post by a number; places; signs; sets that are down -/
/-! places in the first straight order -/
theorem yex_min {n : Nat} {T : yG} (hT : yPo n T) {P : Nat → Prop} (h : ∃ p, P p) : ∃ p, P p ∧ ∀ q, T q p → ¬ P q := by
  obtain ⟨d, ⟨p, h1, h2⟩, h3⟩ := yleast (P := fun d => ∃ p, P p ∧ ydn n T p = d) (by obtain ⟨p, hp⟩ := h; exact ⟨_, p, hp, rfl⟩)
  refine ⟨p, h1, fun q hq hP => ?_⟩
  have := ydn_lt hT hq
  exact h3 (ydn n T q) (by omega) ⟨q, hP, rfl⟩
theorem ysm_1 {f : Nat → Nat} {p : Nat} : ∀ {n : Nat}, p < n → f p ≤ ysm f n
  | 0, h => absurd h (Nat.not_lt_zero p)
  | n + 1, h => by
    rw [ysm_s]
    by_cases e : p = n
    · subst e; omega
    · have := ysm_1 (f := f) (p := p) (n := n) (by omega); omega
theorem yWe_pos {n : Nat} {T : yG} (hT : yPo n T) : ∀ (k S : Nat), ysz n S + k = n → ydw T S → 1 ≤ yWe n T k S := by
  intro k
  induction k with
  | zero => intro S _ _; exact Nat.le_refl _
  | succ k ih =>
    intro S h hd
    have hex : ∃ p, p < n ∧ ¬ yb S p := by
      refine Classical.byContradiction fun hn => ?_
      have : ysz n S = n := by
        have e : ysz n S = yct (fun a => yb S a) n := rfl
        rw [e, yct_c (Q := fun _ => True) (fun a ha => ⟨fun _ => trivial, fun _ => Classical.byContradiction fun h2 => hn ⟨a, ha, h2⟩⟩)]
        have key : ∀ k, yct (fun _ => True) k = k := by
          intro k
          induction k with
          | zero => rfl
          | succ k ih => rw [yct_s, ih, yif_t trivial]
        exact key n
      omega
    obtain ⟨p, ⟨h1, h2⟩, h3⟩ := yex_min hT hex
    have hx : ynx T S p := ⟨h2, fun q hq => Classical.byContradiction fun hb => h3 q hq ⟨(hT.1 _ _ hq).1, hb⟩⟩
    have := ysm_1 (f := fun p => yif (ynx T S p) (yWe n T k (S ||| 2 ^ p)) 0) h1
    rw [yif_t hx] at this
    have i := ih (S ||| 2 ^ p) (by rw [ysz_add h1 h2]; omega) (ydw_nx hd hx)
    exact Nat.le_trans i this
theorem yW_pos {n : Nat} {T : yG} (hT : yPo n T) {S : Nat} (hd : ydw T S) : 1 ≤ yW n T S := yWe_pos hT _ _ (by have := ysz_le n S; omega) hd
theorem ydw_0 (T : yG) : ydw T 0 := fun _ _ _ e => absurd e yb_0
theorem yq_dw {n : Nat} {T : yG} {i : Nat} (hi : i < yW n T 0) : ∀ k, k ≤ n → ydw T (yq n T i k).1
  | 0, _ => ydw_0 T
  | k + 1, h => by
    rw [yq_s]
    exact ydw_nx (yq_dw hi k (by omega)) (ypk_ok hi (by omega)).2.1
theorem yq_0 {n : Nat} {T : yG} : ∀ k, (yq n T 0 k).2 = 0
  | 0 => rfl
  | k + 1 => by
    rw [yq_s]
    show (yq n T 0 k).2 - _ = 0
    rw [yq_0 k]
    omega
theorem yq_b {n : Nat} {T : yG} {i : Nat} : ∀ k a, yb (yq n T i k).1 a ↔ ∃ j, j < k ∧ ypk n T i j = a
  | 0, a => ⟨fun e => absurd e yb_0, fun ⟨j, hj, _⟩ => absurd hj (Nat.not_lt_zero j)⟩
  | k + 1, a => by
    rw [yq_s]
    show yb ((yq n T i k).1 ||| 2 ^ (ypk n T i k)) a ↔ _
    rw [yb_or, yq_b k a, yb_pw]
    constructor
    · rintro (⟨j, j1, j2⟩ | e)
      · exact ⟨j, by omega, j2⟩
      · exact ⟨k, by omega, e.symm⟩
    · rintro ⟨j, j1, j2⟩
      by_cases e : j = k
      · subst e; exact Or.inr j2.symm
      · exact Or.inl ⟨j, by omega, j2⟩
theorem ypk_nx {n : Nat} {T : yG} (hT : yPo n T) {k : Nat} (hk : k < n) : ∀ p, p < ypk n T 0 k → ¬ ynx T (yq n T 0 k).1 p := by
  intro p hp hx
  have h0 := yW_pos hT (ydw_0 T)
  obtain ⟨p1, p2, p3, p4⟩ := ypk_ok (n := n) (T := T) (i := 0) (by omega) hk
  have h1 := yps_mono n T (yq n T 0 k).1 (a := p + 1) (b := ypk n T 0 k) (by omega)
  rw [yps_s, yif_t hx] at h1
  have h2 := yW_pos hT (ydw_nx (yq_dw (i := 0) (by omega) k (by omega)) hx)
  rw [yq_0] at p3
  omega
theorem ypl_ex {n : Nat} {T : yG} (hT : yPo n T) {p : Nat} (hp : p < n) : ∃ k, k < n ∧ ypk n T 0 k = p := by
  have h0 := yW_pos hT (ydw_0 T)
  have h1 := yq_ok (n := n) (T := T) (i := 0) (by omega) n (Nat.le_refl n)
  exact (yq_b n p).mp (ysz_n h1.2.1 p hp)
theorem ypk_in {n : Nat} {T : yG} (hT : yPo n T) {j k : Nat} (hj : j < n) (hk : k < n) (e : ypk n T 0 j = ypk n T 0 k) : j = k := by
  have h0 := yW_pos hT (ydw_0 T)
  have key : ∀ {j k : Nat}, j < k → k < n → ypk n T 0 j ≠ ypk n T 0 k := by
    intro j k h1 h2 e
    exact (ypk_ok (i := 0) (by omega) h2).2.1.1 ((yq_b k _).mpr ⟨j, h1, e⟩)
  rcases Nat.lt_trichotomy j k with h | h | h
  · exact absurd e (key h hk)
  · exact h
  · exact absurd e.symm (key h hj)
noncomputable def ypl (n : Nat) (T : yG) (p : Nat) : Nat := @dite Nat (∃ k, k < n ∧ ypk n T 0 k = p) (Classical.propDecidable _) (fun h => Classical.choose h) (fun _ => 0)
theorem ypl_s {n : Nat} {T : yG} (hT : yPo n T) {p : Nat} (hp : p < n) : ypl n T p < n ∧ ypk n T 0 (ypl n T p) = p := by
  have h := ypl_ex hT hp
  have e : ypl n T p = Classical.choose h := by unfold ypl; exact dif_pos h
  rw [e]
  exact Classical.choose_spec h
theorem s_fp_l {n : Nat} {T : yG} (hT : yPo n T) (hn : n ≤ 8) {m : xmm} (h : yRK n T m) {p : Nat} (hp : p < n) : ∀ (d k : Nat), k + d = ypl n T p → bX5_firstPlaceOf_123_2 (nI p) (nI k) m = some (nI (ypl n T p), m) := by
  obtain ⟨l1, l2⟩ := ypl_s hT hp
  have h0 := yW_pos hT (ydw_0 T)
  intro d
  induction d with
  | zero =>
    intro k hk
    have e : k = ypl n T p := by omega
    subst e
    have sa := s_straightAt hT hn h (i := 0) (by omega) l1
    rw [yif_t (by omega), l2] at sa
    have sa' : fX5_straightAt_123 (0 : Int32) (nI (ypl n T p)) m = some (nI p, m) := sa
    apply bX5_firstPlaceOf_123_2_i
    simp (disch := omega) only [yl3, yl4, yl5, yl6, yl7, yl8, yl9, yl10, yl13, yl16, yl20, yl21, yl22, yl23, yl24, yl32, yl40, yl48, yl57, yl59, yl63, yl64, yl97, yl99, yl122, yl255, yl256, yl400, yl1000, yl2000, yl2048, yc0_eq, yc0_eq2, yc0_le, yc0_ge, yc0_lt, yc0_gt, yc0_ad, yc0_da, yc0_sb, yc0_ml, yc0_lm, yc1_eq, yc1_eq2, yc1_le, yc1_ge, yc1_lt, yc1_gt, yc1_ad, yc1_da, yc1_sb, yc1_ml, yc1_lm, yc2_eq, yc2_eq2, yc2_le, yc2_ge, yc2_lt, yc2_gt, yc2_ad, yc2_da, yc2_sb, yc2_ml, yc2_lm, yc31_ge, ymodn, yI_1sl, yc2_dv, yn1_eq, yn1_lt, xgd_t, xlt_e, Option.bind_some, nI_add, pk_mul, pk_sub, pk_div, pk_rem, yI_and, yI_or, yI_xor, yI_nd, yI_nd2, yI_31, yI_shl, nI_leI, nI_ltI, nI_eq, nI_clamp, xinb_t, yP_z, yP_if, h.1.1, if_neg, sa', if_true]
  | succ d ih =>
    intro k hk
    have hkn : k < n := by omega
    have sa := s_straightAt hT hn h (i := 0) (by omega) hkn
    rw [yif_t (by omega)] at sa
    have sa' : fX5_straightAt_123 (0 : Int32) (nI k) m = some (nI (ypk n T 0 k), m) := sa
    have b := (ypk_ok (n := n) (T := T) (i := 0) (by omega) hkn).1
    have hne : ¬ ypk n T 0 k = p := by
      intro e
      have := ypk_in hT hkn l1 (e.trans l2.symm)
      omega
    apply bX5_firstPlaceOf_123_2_i
    simp (disch := omega) only [yl3, yl4, yl5, yl6, yl7, yl8, yl9, yl10, yl13, yl16, yl20, yl21, yl22, yl23, yl24, yl32, yl40, yl48, yl57, yl59, yl63, yl64, yl97, yl99, yl122, yl255, yl256, yl400, yl1000, yl2000, yl2048, yc0_eq, yc0_eq2, yc0_le, yc0_ge, yc0_lt, yc0_gt, yc0_ad, yc0_da, yc0_sb, yc0_ml, yc0_lm, yc1_eq, yc1_eq2, yc1_le, yc1_ge, yc1_lt, yc1_gt, yc1_ad, yc1_da, yc1_sb, yc1_ml, yc1_lm, yc2_eq, yc2_eq2, yc2_le, yc2_ge, yc2_lt, yc2_gt, yc2_ad, yc2_da, yc2_sb, yc2_ml, yc2_lm, yc31_ge, ymodn, yI_1sl, yc2_dv, yn1_eq, yn1_lt, xgd_t, xlt_e, Option.bind_some, nI_add, pk_mul, pk_sub, pk_div, pk_rem, yI_and, yI_or, yI_xor, yI_nd, yI_nd2, yI_31, yI_shl, nI_leI, nI_ltI, nI_eq, nI_clamp, xinb_t, yP_z, yP_if, h.1.1, if_neg, sa']
    exact ih (k + 1) (by omega)
theorem s_firstPlaceOf {n : Nat} {T : yG} (hT : yPo n T) (hn : n ≤ 8) {m : xmm} (h : yRK n T m) {p : Nat} (hp : p < n) : fX5_firstPlaceOf_123 (nI p) m = some (nI (ypl n T p), m) := by
  apply fX5_firstPlaceOf_123_i
  exact s_fp_l hT hn h hp _ 0 (Nat.zero_add _)
/-! sets that are down -/
theorem ydw_n {n : Nat} {T : yG} (hT : yPo n T) {S : Nat} : ydw T S ↔ ∀ p, p < n → yb S p → ∀ q, T q p → yb S q := ⟨fun h p _ hp q hq => h q p hq hp, fun h q p hq hp => h p (hT.1 _ _ hq).2 hp q hq⟩
theorem s_isDown_l {n : Nat} {T : yG} (hT : yPo n T) (hn : n ≤ 8) {m : xmm} (h : yR0 n T m) {S : Nat} (hS : S < 256) : ∀ (d k : Nat), k + d = n → bX5_isDown_123_2 (nI S) (nI k) m = some (yP (∀ p, k ≤ p → p < n → yb S p → ∀ q, T q p → yb S q), m) := by
  have e0 : ∀ p, ynd (yci T p) S = 0 ↔ ∀ q, T q p → yb S q := fun p => by
    rw [ynd0]
    exact ⟨fun h q h1 => h q ((yci_b hT hn).mpr h1), fun h q h1 => h q ((yci_b hT hn).mp h1)⟩
  intro d
  induction d with
  | zero =>
    intro k hk
    have e : k = n := by omega
    subst e
    apply bX5_isDown_123_2_i
    rw [yP_t yal_e]
    simp (disch := omega) only [yl3, yl4, yl5, yl6, yl7, yl8, yl9, yl10, yl13, yl16, yl20, yl21, yl22, yl23, yl24, yl32, yl40, yl48, yl57, yl59, yl63, yl64, yl97, yl99, yl122, yl255, yl256, yl400, yl1000, yl2000, yl2048, yc0_eq, yc0_eq2, yc0_le, yc0_ge, yc0_lt, yc0_gt, yc0_ad, yc0_da, yc0_sb, yc0_ml, yc0_lm, yc1_eq, yc1_eq2, yc1_le, yc1_ge, yc1_lt, yc1_gt, yc1_ad, yc1_da, yc1_sb, yc1_ml, yc1_lm, yc2_eq, yc2_eq2, yc2_le, yc2_ge, yc2_lt, yc2_gt, yc2_ad, yc2_da, yc2_sb, yc2_ml, yc2_lm, yc31_ge, ymodn, yI_1sl, yc2_dv, yn1_eq, yn1_lt, xgd_t, xlt_e, Option.bind_some, nI_add, pk_mul, pk_sub, pk_div, pk_rem, yI_and, yI_or, yI_xor, yI_nd, yI_nd2, yI_31, yI_shl, nI_leI, nI_ltI, nI_eq, nI_clamp, xinb_t, yP_z, yP_if, h.1, if_pos]
  | succ d ih =>
    intro k hk
    have b3 := ynd_le (yci T k) S 8 (yci_lt T k)
    apply bX5_isDown_123_2_i
    rw [yP_c (yal_s (P := fun p => yb S p → ∀ q, T q p → yb S q) (by omega : k < n))]
    have e := ih (k + 1) (by omega)
    by_cases hb : yb S k
    · by_cases hc : ∀ q, T q k → yb S q
      · simp (disch := omega) only [yl3, yl4, yl5, yl6, yl7, yl8, yl9, yl10, yl13, yl16, yl20, yl21, yl22, yl23, yl24, yl32, yl40, yl48, yl57, yl59, yl63, yl64, yl97, yl99, yl122, yl255, yl256, yl400, yl1000, yl2000, yl2048, yc0_eq, yc0_eq2, yc0_le, yc0_ge, yc0_lt, yc0_gt, yc0_ad, yc0_da, yc0_sb, yc0_ml, yc0_lm, yc1_eq, yc1_eq2, yc1_le, yc1_ge, yc1_lt, yc1_gt, yc1_ad, yc1_da, yc1_sb, yc1_ml, yc1_lm, yc2_eq, yc2_eq2, yc2_le, yc2_ge, yc2_lt, yc2_gt, yc2_ad, yc2_da, yc2_sb, yc2_ml, yc2_lm, yc31_ge, ymodn, yI_1sl, yc2_dv, yn1_eq, yn1_lt, xgd_t, xlt_e, Option.bind_some, nI_add, pk_mul, pk_sub, pk_div, pk_rem, yI_and, yI_or, yI_xor, yI_nd, yI_nd2, yI_31, yI_shl, nI_leI, nI_ltI, nI_eq, nI_clamp, xinb_t, yP_z, yP_if, h.1, if_neg, s_contains, yif_t hb, h.2.2 k (by omega), if_pos ((e0 k).mpr hc)]
        rw [e]
        congr 2
        exact yP_c ⟨fun h => ⟨fun _ => hc, h⟩, fun h => h.2⟩
      · simp (disch := omega) only [yl3, yl4, yl5, yl6, yl7, yl8, yl9, yl10, yl13, yl16, yl20, yl21, yl22, yl23, yl24, yl32, yl40, yl48, yl57, yl59, yl63, yl64, yl97, yl99, yl122, yl255, yl256, yl400, yl1000, yl2000, yl2048, yc0_eq, yc0_eq2, yc0_le, yc0_ge, yc0_lt, yc0_gt, yc0_ad, yc0_da, yc0_sb, yc0_ml, yc0_lm, yc1_eq, yc1_eq2, yc1_le, yc1_ge, yc1_lt, yc1_gt, yc1_ad, yc1_da, yc1_sb, yc1_ml, yc1_lm, yc2_eq, yc2_eq2, yc2_le, yc2_ge, yc2_lt, yc2_gt, yc2_ad, yc2_da, yc2_sb, yc2_ml, yc2_lm, yc31_ge, ymodn, yI_1sl, yc2_dv, yn1_eq, yn1_lt, xgd_t, xlt_e, Option.bind_some, nI_add, pk_mul, pk_sub, pk_div, pk_rem, yI_and, yI_or, yI_xor, yI_nd, yI_nd2, yI_31, yI_shl, nI_leI, nI_ltI, nI_eq, nI_clamp, xinb_t, yP_z, yP_if, h.1, if_neg, s_contains, yif_t hb, h.2.2 k (by omega), if_neg (fun e => hc ((e0 k).mp e))]
        rw [yP_f (fun e => hc (e.1 hb))]
    · simp (disch := omega) only [yl3, yl4, yl5, yl6, yl7, yl8, yl9, yl10, yl13, yl16, yl20, yl21, yl22, yl23, yl24, yl32, yl40, yl48, yl57, yl59, yl63, yl64, yl97, yl99, yl122, yl255, yl256, yl400, yl1000, yl2000, yl2048, yc0_eq, yc0_eq2, yc0_le, yc0_ge, yc0_lt, yc0_gt, yc0_ad, yc0_da, yc0_sb, yc0_ml, yc0_lm, yc1_eq, yc1_eq2, yc1_le, yc1_ge, yc1_lt, yc1_gt, yc1_ad, yc1_da, yc1_sb, yc1_ml, yc1_lm, yc2_eq, yc2_eq2, yc2_le, yc2_ge, yc2_lt, yc2_gt, yc2_ad, yc2_da, yc2_sb, yc2_ml, yc2_lm, yc31_ge, ymodn, yI_1sl, yc2_dv, yn1_eq, yn1_lt, xgd_t, xlt_e, Option.bind_some, nI_add, pk_mul, pk_sub, pk_div, pk_rem, yI_and, yI_or, yI_xor, yI_nd, yI_nd2, yI_31, yI_shl, nI_leI, nI_ltI, nI_eq, nI_clamp, xinb_t, yP_z, yP_if, h.1, if_neg, s_contains, yif_f hb]
      rw [e]
      congr 2
      exact yP_c ⟨fun h => ⟨fun e => absurd e hb, h⟩, fun h => h.2⟩
theorem s_isDown {n : Nat} {T : yG} (hT : yPo n T) (hn : n ≤ 8) {m : xmm} (h : yR0 n T m) {S : Nat} (hS : S < 256) : fX5_isDown_123 (nI S) m = some (yP (ydw T S), m) := by
  apply fX5_isDown_123_i
  rw [yP_c (ydw_n hT), ← yP_c yal_0]
  exact s_isDown_l hT hn h hS n 0 (by omega)
theorem s_countDown_l {n : Nat} {T : yG} (hT : yPo n T) (hn : n ≤ 8) {m : xmm} (h : yR0 n T m) : ∀ (d S : Nat), S + d = 2 ^ n → bX5_countDown_123_4 (nI (yct (fun S => ydw T S) S)) (nI S) m = some (nI (yct (fun S => ydw T S) (2 ^ n)), m) := by
  have h8 := y2p8 hn
  intro d
  induction d with
  | zero =>
    intro S hS
    have e : S = 2 ^ n := by omega
    subst e
    apply bX5_countDown_123_4_i
    simp (disch := omega) only [yl3, yl4, yl5, yl6, yl7, yl8, yl9, yl10, yl13, yl16, yl20, yl21, yl22, yl23, yl24, yl32, yl40, yl48, yl57, yl59, yl63, yl64, yl97, yl99, yl122, yl255, yl256, yl400, yl1000, yl2000, yl2048, yc0_eq, yc0_eq2, yc0_le, yc0_ge, yc0_lt, yc0_gt, yc0_ad, yc0_da, yc0_sb, yc0_ml, yc0_lm, yc1_eq, yc1_eq2, yc1_le, yc1_ge, yc1_lt, yc1_gt, yc1_ad, yc1_da, yc1_sb, yc1_ml, yc1_lm, yc2_eq, yc2_eq2, yc2_le, yc2_ge, yc2_lt, yc2_gt, yc2_ad, yc2_da, yc2_sb, yc2_ml, yc2_lm, yc31_ge, ymodn, yI_1sl, yc2_dv, yn1_eq, yn1_lt, xgd_t, xlt_e, Option.bind_some, nI_add, pk_mul, pk_sub, pk_div, pk_rem, yI_and, yI_or, yI_xor, yI_nd, yI_nd2, yI_31, yI_shl, nI_leI, nI_ltI, nI_eq, nI_clamp, xinb_t, yP_z, yP_if, h.1, if_pos]
  | succ d ih =>
    intro S hS
    have e := ih (S + 1) (by omega)
    rw [yct_s] at e
    apply bX5_countDown_123_4_i
    by_cases hd : ydw T S
    · rw [yif_t hd] at e
      simp (disch := omega) only [yl3, yl4, yl5, yl6, yl7, yl8, yl9, yl10, yl13, yl16, yl20, yl21, yl22, yl23, yl24, yl32, yl40, yl48, yl57, yl59, yl63, yl64, yl97, yl99, yl122, yl255, yl256, yl400, yl1000, yl2000, yl2048, yc0_eq, yc0_eq2, yc0_le, yc0_ge, yc0_lt, yc0_gt, yc0_ad, yc0_da, yc0_sb, yc0_ml, yc0_lm, yc1_eq, yc1_eq2, yc1_le, yc1_ge, yc1_lt, yc1_gt, yc1_ad, yc1_da, yc1_sb, yc1_ml, yc1_lm, yc2_eq, yc2_eq2, yc2_le, yc2_ge, yc2_lt, yc2_gt, yc2_ad, yc2_da, yc2_sb, yc2_ml, yc2_lm, yc31_ge, ymodn, yI_1sl, yc2_dv, yn1_eq, yn1_lt, xgd_t, xlt_e, Option.bind_some, nI_add, pk_mul, pk_sub, pk_div, pk_rem, yI_and, yI_or, yI_xor, yI_nd, yI_nd2, yI_31, yI_shl, nI_leI, nI_ltI, nI_eq, nI_clamp, xinb_t, yP_z, yP_if, h.1, if_neg, s_isDown hT hn h (S := S) (by omega), yif_t hd]
      exact e
    · rw [yif_f hd] at e
      simp (disch := omega) only [yl3, yl4, yl5, yl6, yl7, yl8, yl9, yl10, yl13, yl16, yl20, yl21, yl22, yl23, yl24, yl32, yl40, yl48, yl57, yl59, yl63, yl64, yl97, yl99, yl122, yl255, yl256, yl400, yl1000, yl2000, yl2048, yc0_eq, yc0_eq2, yc0_le, yc0_ge, yc0_lt, yc0_gt, yc0_ad, yc0_da, yc0_sb, yc0_ml, yc0_lm, yc1_eq, yc1_eq2, yc1_le, yc1_ge, yc1_lt, yc1_gt, yc1_ad, yc1_da, yc1_sb, yc1_ml, yc1_lm, yc2_eq, yc2_eq2, yc2_le, yc2_ge, yc2_lt, yc2_gt, yc2_ad, yc2_da, yc2_sb, yc2_ml, yc2_lm, yc31_ge, ymodn, yI_1sl, yc2_dv, yn1_eq, yn1_lt, xgd_t, xlt_e, Option.bind_some, nI_add, pk_mul, pk_sub, pk_div, pk_rem, yI_and, yI_or, yI_xor, yI_nd, yI_nd2, yI_31, yI_shl, nI_leI, nI_ltI, nI_eq, nI_clamp, xinb_t, yP_z, yP_if, h.1, if_neg, s_isDown hT hn h (S := S) (by omega), yif_f hd]
      exact e
theorem s_countDown {n : Nat} {T : yG} (hT : yPo n T) (hn : n ≤ 8) {m : xmm} (h : yR0 n T m) : fX5_countDown_123 m = some (nI (yct (fun S => ydw T S) (2 ^ n)), m) := by
  apply fX5_countDown_123_i
  exact s_countDown_l hT hn h _ 0 (Nat.zero_add _)
