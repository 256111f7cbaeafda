/-! the model's sets, how far, parts -/
def yMN (n : Nat) (R : Nat → Nat) (m : xmm) : Prop := m.1 144 17 = nI n ∧ yrw 152 R m
theorem y255 : ∀ q, q < 8 → yb 255 q := by decide
theorem yPm {P Q : Prop} (h : P ↔ Q) (m : xmm) : some (yP P, m) = some (yP Q, m) := by rw [yP_c h]
theorem yMN_r {n : Nat} {R : Nat → Nat} {L : List Nat} {m m' : xmm} (h : yMN n R m) (hf : yfr L m m') (h1 : 144 ∉ L) (h2 : 152 ∉ L) : yMN n R m' := ⟨by rw [yfr_1 hf 144 17 h1]; exact h.1, fun p hp => by rw [yfr_1 hf 152 p h2]; exact h.2 p hp⟩
theorem yMN_f {n : Nat} {R : Nat → Nat} {L J : List Nat} {m m' : xmm} (h : yMN n R m) (hf : yfm L J m m') (h1 : 17 ∉ J) (h2 : 152 ∉ 144 :: L) : yMN n R m' := ⟨by rw [hf.2 17 h1]; exact h.1, fun p hp => by rw [yfm_1 hf 152 p h2]; exact h.2 p hp⟩
def ychn (R : Nat → Nat) (S : Nat) : Prop := ∀ p q, p ≠ q → yb S p → yb S q → yad R p q
theorem ychn_rows {n : Nat} {R : Nat → Nat} (hG : yGr n R) {S : Nat} (hS : S < 2 ^ n) : ychn R S ↔ ∀ p, p < n → yb S p → ynd S (R p) = 2 ^ p := by
  constructor
  · intro h p hp hb
    apply ytb_ext
    intro i
    have e := yb_nd (A := S) (B := R p) (a := i)
    have e2 := yb_pw (m := p) (a := i)
    constructor
    · intro h1
      refine e2.mpr (Classical.byContradiction fun hne => ?_)
      exact (e.mp h1).2 (h p i (fun e => hne e.symm) hb (e.mp h1).1)
    · intro h1
      have := e2.mp h1
      subst this
      exact e.mpr ⟨hb, fun h2 => hG.2.2.2.2 i h2⟩
  · intro h p q hpq hp hq
    refine Classical.byContradiction fun hn => ?_
    have e := h p (ytb_of hS hp) hp
    have : yb (ynd S (R p)) q := yb_nd.mpr ⟨hq, hn⟩
    rw [e, yb_pw] at this
    exact hpq this.symm
/-! as many rounds as posts are enough -/
theorem ypp_n {n X : Nat} (hn : n ≤ 8) (hX : X < 2 ^ n) : ypp X ≤ n := by
  have : ypp X = yct (fun a => yb X a) n := yct_ext hn fun k h1 _ h3 => by have := ytb_of hX h3; omega
  rw [this]
  exact yct_le _ n
theorem yit_n {n : Nat} {R : Nat → Nat} (hG : yGr n R) {S a : Nat} (hS : S < 256) (ha : a < n) : ∀ k, yit R S a k < 2 ^ n
  | 0 => Nat.pow_lt_pow_right (by decide : 1 < 2) ha
  | k + 1 => by
    have hn := hG.1
    apply ytb_lt
    intro b hb
    rcases (yit_b hS (by omega : a < 8) k b).mp hb with e | ⟨_, p, _, e⟩
    · exact ytb_of (yit_n hG hS ha k) e
    · exact (yGr_n hG e).2
theorem yit_cl {n : Nat} {R : Nat → Nat} (hG : yGr n R) {S a : Nat} (hS : S < 256) (ha : a < n) : ycd R S (yit R S a n) := by
  have hn := hG.1
  rcases yit_c (R := R) hS (by omega : a < 8) n with h | h
  · exact h
  · have := ypp_n hn (yit_n hG hS ha n)
    omega
theorem yit_st {R : Nat → Nat} {S a k : Nat} (hS : S < 256) (ha : a < 8) (hc : ycd R S (yit R S a k)) : ∀ d, yit R S a (k + d) = yit R S a k
  | 0 => rfl
  | d + 1 => by
    have e := yit_st hS ha hc d
    apply ytb_ext
    intro b
    have := yit_b (R := R) hS ha (k + d) b
    rw [e] at this
    exact ⟨fun h => (this.mp h).elim id fun ⟨h1, p, h2, h3⟩ => hc p b h2 h3 h1, fun h => this.mpr (Or.inl h)⟩
theorem yit_cnn {n : Nat} {R : Nat → Nat} (hG : yGr n R) {S a b : Nat} (hS : S < 256) (ha : a < n) : yb (yit R S a n) b ↔ ycn (yad R) S a b := by
  have hn := hG.1
  rw [← yit_cn hS (by omega : a < 8)]
  have e := yit_st hS (by omega) (yit_cl hG hS ha) (8 - n)
  rw [show n + (8 - n) = 8 by omega] at e
  rw [e]
/-! round -/
/-! such sets -/
def ysuch (n : Nat) (R : Nat → Nat) (w S : Nat) : Prop := if w = 0 then ychn R S else if w = 1 then yap R S else if w = 2 then ymo (yad R) (2 ^ n - 1) S else yrd R S
/-! how far -/
noncomputable def ylk (R : Nat → Nat) (a q : Nat) : Nat := @dite Nat (∃ k, yb (yit R 255 a k) q) (Classical.propDecidable _) (fun h => Classical.choose (yleast h)) (fun _ => 0)
theorem ylk_s {R : Nat → Nat} {a q : Nat} (h : ∃ k, yb (yit R 255 a k) q) : yb (yit R 255 a (ylk R a q)) q ∧ ∀ j, j < ylk R a q → ¬ yb (yit R 255 a j) q := by
  have e : ylk R a q = Classical.choose (yleast h) := by unfold ylk; exact dif_pos h
  rw [e]
  exact Classical.choose_spec (yleast h)
theorem yit_mono {R : Nat → Nat} {S a : Nat} (hS : S < 256) (ha : a < 8) {j k q : Nat} (hjk : j ≤ k) (h : yb (yit R S a j) q) : yb (yit R S a k) q := by
  obtain ⟨d, rfl⟩ := Nat.exists_eq_add_of_le hjk
  exact yit_sub hS ha j q d h
theorem ylk_le {R : Nat → Nat} {a k q : Nat} (h : yb (yit R 255 a k) q) : ylk R a q ≤ k := by
  rcases Nat.lt_or_ge k (ylk R a q) with e | e
  · exact absurd h ((ylk_s ⟨k, h⟩).2 k e)
  · exact e
theorem yit_7 {R : Nat → Nat} {a k q : Nat} (ha : a < 8) (hq : q < 8) (h : yb (yit R 255 a k) q) : yb (yit R 255 a 7) q := by
  rcases Nat.lt_or_ge 7 k with e | e
  · rcases yit_c (R := R) (S := 255) (by decide) ha 7 with hc | hc
    · have e2 := yit_st (by decide) ha hc (k - 7)
      rw [show 7 + (k - 7) = k by omega] at e2
      rw [e2] at h
      exact h
    · have h8 : ypp (yit R 255 a 7) ≤ 8 := yct_le _ 8
      exact ysz_n (n := 8) (show ysz 8 (yit R 255 a 7) = 8 from by show ypp (yit R 255 a 7) = 8; omega) q hq
  · exact yit_mono (by decide) ha e h
/-- fewest lines from a to q -/
noncomputable def yfd (R : Nat → Nat) (a q : Nat) : Int32 := yif (∃ k, yb (yit R 255 a k) q) (nI (ylk R a q)) (-2)
theorem s_far_l {R : Nat → Nat} {m : xmm} (h : yrx 11 R m) {a b : Nat} (ha : a < 8) (hb : b < 8) : ∀ (d k : Nat), k + d = 8 → (∀ j, j < k → ¬ yb (yit R 255 a j) b) → bX11_far_0_31 (nI b) (nI (yit R 255 a k)) (nI k) m = some (yfd R a b, m) := by
  intro d
  induction d with
  | zero =>
    intro k hk hj
    have e : k = 8 := by omega
    subst e
    apply bX11_far_0_31_i
    simp (disch := omega) only [yl3, yl4, yl5, yl6, yl7, yl8, yl9, yl10, yl13, yl16, yl20, yl21, yl22, yl23, yl24, yl32, yl40, yl48, yl57, yl59, yl63, yl64, yl97, yl99, yl122, yl255, yl256, yl400, yl1000, yl2000, yl2048, yc0_eq, yc0_eq2, yc0_le, yc0_ge, yc0_lt, yc0_gt, yc0_ad, yc0_da, yc0_sb, yc0_ml, yc0_lm, yc1_eq, yc1_eq2, yc1_le, yc1_ge, yc1_lt, yc1_gt, yc1_ad, yc1_da, yc1_sb, yc1_ml, yc1_lm, yc2_eq, yc2_eq2, yc2_le, yc2_ge, yc2_lt, yc2_gt, yc2_ad, yc2_da, yc2_sb, yc2_ml, yc2_lm, yc31_ge, ymodn, yI_1sl, yc2_dv, yn1_eq, yn1_lt, xgd_t, xlt_e, Option.bind_some, nI_add, pk_mul, pk_sub, pk_div, pk_rem, yI_and, yI_or, yI_xor, yI_nd, yI_nd2, yI_31, yI_shl, nI_leI, nI_ltI, nI_eq, nI_clamp, xinb_t, yP_z, yP_if, if_pos]
    unfold yfd
    rw [yif_f]
    rintro ⟨k, h1⟩
    exact hj 7 (by decide) (yit_7 ha hb h1)
  | succ d ih =>
    intro k hk hj
    have bk := yit_lt (R := R) (S := 255) (a := a) (by decide) ha k
    have bt := ytc_lt h (yit R 255 a k)
    apply bX11_far_0_31_i
    by_cases hbk : yb (yit R 255 a k) b
    · simp (disch := omega) only [yl3, yl4, yl5, yl6, yl7, yl8, yl9, yl10, yl13, yl16, yl20, yl21, yl22, yl23, yl24, yl32, yl40, yl48, yl57, yl59, yl63, yl64, yl97, yl99, yl122, yl255, yl256, yl400, yl1000, yl2000, yl2048, yc0_eq, yc0_eq2, yc0_le, yc0_ge, yc0_lt, yc0_gt, yc0_ad, yc0_da, yc0_sb, yc0_ml, yc0_lm, yc1_eq, yc1_eq2, yc1_le, yc1_ge, yc1_lt, yc1_gt, yc1_ad, yc1_da, yc1_sb, yc1_ml, yc1_lm, yc2_eq, yc2_eq2, yc2_le, yc2_ge, yc2_lt, yc2_gt, yc2_ad, yc2_da, yc2_sb, yc2_ml, yc2_lm, yc31_ge, ymodn, yI_1sl, yc2_dv, yn1_eq, yn1_lt, xgd_t, xlt_e, Option.bind_some, nI_add, pk_mul, pk_sub, pk_div, pk_rem, yI_and, yI_or, yI_xor, yI_nd, yI_nd2, yI_31, yI_shl, nI_leI, nI_ltI, nI_eq, nI_clamp, xinb_t, yP_z, yP_if, if_neg, s_contains, yif_t hbk]
      unfold yfd
      have e1 := ylk_le hbk
      have e2 : ylk R a b = k := by
        rcases Nat.lt_or_ge (ylk R a b) k with e | e
        · exact absurd (ylk_s ⟨k, hbk⟩).1 (hj _ e)
        · omega
      rw [yif_t ⟨k, hbk⟩, e2]
    · have e := ih (k + 1) (by omega) (fun j hjk => by
        by_cases e : j = k
        · subst e; exact hbk
        · exact hj j (by omega))
      have e1 : ytc R (yit R 255 a k) &&& 255 = ytc R (yit R 255 a k) := Nat.and_two_pow_sub_one_of_lt_two_pow (n := 8) bt
      rw [yit_s, e1] at e
      simp (disch := omega) only [yl3, yl4, yl5, yl6, yl7, yl8, yl9, yl10, yl13, yl16, yl20, yl21, yl22, yl23, yl24, yl32, yl40, yl48, yl57, yl59, yl63, yl64, yl97, yl99, yl122, yl255, yl256, yl400, yl1000, yl2000, yl2048, yc0_eq, yc0_eq2, yc0_le, yc0_ge, yc0_lt, yc0_gt, yc0_ad, yc0_da, yc0_sb, yc0_ml, yc0_lm, yc1_eq, yc1_eq2, yc1_le, yc1_ge, yc1_lt, yc1_gt, yc1_ad, yc1_da, yc1_sb, yc1_ml, yc1_lm, yc2_eq, yc2_eq2, yc2_le, yc2_ge, yc2_lt, yc2_gt, yc2_ad, yc2_da, yc2_sb, yc2_ml, yc2_lm, yc31_ge, ymodn, yI_1sl, yc2_dv, yn1_eq, yn1_lt, xgd_t, xlt_e, Option.bind_some, nI_add, pk_mul, pk_sub, pk_div, pk_rem, yI_and, yI_or, yI_xor, yI_nd, yI_nd2, yI_31, yI_shl, nI_leI, nI_ltI, nI_eq, nI_clamp, xinb_t, yP_z, yP_if, if_neg, s_contains, yif_f hbk, s_touched h bk]
      exact e
/-- what far rows tell in round r: found by the lines that went so far -/
noncomputable def yft (R : Nat → Nat) (a r p k q : Nat) : Prop := yb (yit R 255 a r) q ∨ ∃ w, w < 8 ∧ yb (yit R 255 a r) w ∧ ylk R a w = r ∧ yad R w q ∧ (w < p ∨ (w = p ∧ q < k))
theorem yft_in {R : Nat → Nat} {a r p k q : Nat} (ha : a < 8) (hq : q < 8) (h : yft R a r p k q) : yb (yit R 255 a (r + 1)) q := by
  rcases h with e | ⟨w, w1, w2, w3, w4, _⟩
  · exact yit_mono (by decide) ha (Nat.le_succ r) e
  · exact (yit_b (by decide) ha r q).mpr (Or.inr ⟨y255 q hq, w, w2, w4⟩)
theorem yft_lk {R : Nat → Nat} {a r q : Nat} (h : yb (yit R 255 a (r + 1)) q) (hn : ¬ yb (yit R 255 a r) q) (ha : a < 8) : ylk R a q = r + 1 := by
  have e1 := ylk_le h
  rcases Nat.lt_or_ge (ylk R a q) (r + 1) with e | e
  · exact absurd (yit_mono (by decide) ha (by omega) (ylk_s ⟨_, h⟩).1) hn
  · omega
theorem ylk_64 {n : Nat} {R : Nat → Nat} (hG : yGr n R) {a q : Nat} (ha : a < n) (h : ∃ k, yb (yit R 255 a k) q) : ylk R a q ≤ n := by
  obtain ⟨k, hk⟩ := h
  have hn := hG.1
  have c := (yit_cnn hG (S := 255) (b := q) (by decide) ha).mpr (yit_m (by decide) (by omega) k q hk)
  exact ylk_le c
/-! parts -/
theorem yfd_neg {n : Nat} {R : Nat → Nat} (hG : yGr n R) {a q : Nat} (ha : a < n) : (0 : Int32) ≤ yfd R a q ↔ ycn (yad R) 255 a q := by
  have hn := hG.1
  have hex : (∃ k, yb (yit R 255 a k) q) ↔ ycn (yad R) 255 a q := ⟨fun ⟨k, hk⟩ => yit_m (by decide) (by omega) k q hk, fun h => ⟨n, (yit_cnn hG (by decide) ha).mpr h⟩⟩
  unfold yfd
  by_cases h : ∃ k, yb (yit R 255 a k) q
  · have := ylk_64 hG ha h
    rw [yif_t h]
    exact ⟨fun _ => hex.mp h, fun _ => nI_pos' (by omega)⟩
  · rw [yif_f h]
    exact ⟨fun e => absurd e (by decide), fun e => absurd (hex.mpr e) h⟩
theorem ycn_all {n : Nat} {R : Nat → Nat} (hG : yGr n R) {a b : Nat} : ycn (yad R) 255 a b ↔ ycn (yad R) (2 ^ n - 1) a b := by
  have hn := hG.1
  constructor
  · intro h X h1 h2
    exact h X h1 fun u v hu huv _ => h2 u v hu huv (yall_b.mpr (yGr_n hG huv).2)
  · intro h X h1 h2
    exact h X h1 fun u v hu huv hv => h2 u v hu huv (by
      have h3 := yall_b.mp hv
      have : ∀ q, q < 8 → yb 255 q := by decide
      exact this v (by omega))
