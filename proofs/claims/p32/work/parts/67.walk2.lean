/-! WALKS, both sides -/
theorem ynr_t {R : Nat → Nat} {cs cf co ci o x k : Nat} {m : xmm} (hS : ySp cs cf co ci (yad R) o m) (hx : x < 64) (hcx : ycl (yad R) (yan o) (yan x)) (hd : 0 < ydt (yad R) (yan o) (yan x)) (hk : k < 64) : (m.1 cs k = m.1 cs x - (1 : Int32) ∧ yfc (yad R) (yan x) (yan k)) ↔ ynr R o x k := by
  obtain ⟨f, s, h1, h2, h3, h4, h5, h6, h7⟩ := hS
  have b1 := h7 x hx hcx
  rw [h6 x hx, h6 k hk, yif_t hcx, yc1_sb hd]
  unfold ynr
  by_cases hck : ycl (yad R) (yan o) (yan k)
  · have b2 := h7 k hk hck
    rw [yif_t hck, nI_eq (by omega) (by omega)]
    constructor
    · rintro ⟨t1, t2⟩; exact ⟨hk, hck, by omega, t2⟩
    · rintro ⟨_, _, t1, t2⟩; exact ⟨by omega, t2⟩
  · rw [yif_f hck]
    constructor
    · rintro ⟨t, _⟩
      have := yI_zle (k := ydt (yad R) (yan o) (yan x) - 1) (by omega)
      rw [← t] at this
      exact absurd this (by decide)
    · rintro ⟨_, t, _⟩; exact absurd t hck
theorem s_next_97 {R : Nat → Nat} (hG : yGd R) {o x : Nat} (ho : yad R (yan o).1 (yan o).2) (hx : x < 64) (hcx : ycl (yad R) (yan o) (yan x)) (hd : 0 < ydt (yad R) (yan o) (yan x)) {m : xmm} (hR : yrw 101 R m) (hS : ySp 99 100 98 2 (yad R) o m) : fX1_nextOfWalk_97 (nI x) m = some (nI (yn1 R o x), m) := by
  have ex := ynr_ex hG ho hcx hd
  have ys := yn1_s ex
  have y64 := ys.1.1
  have l : ∀ (d k : Nat), k + d = yn1 R o x → bX1_nextOfWalk_97_2 (nI x) (nI k) m = some (nI (yn1 R o x), m) := by
    intro d
    induction d with
    | zero =>
      intro k hk
      have e : k = yn1 R o x := by omega
      have hn := ys.1
      rw [← e] at hn ⊢
      have k64 := hn.1
      have t := (ynr_t hS hx hcx hd k64).mpr hn
      have ar := s_isArrow (v := 101) rfl rfl hR hG.1 k64
      have ak : yb (R (k / 8)) (k % 8) := ycl_e hn.2.1 ho
      have cp := s_compels (v := 101) rfl rfl hG.1 hG.2.1 hR hx k64 (ycl_e hcx ho)
      apply bX1_nextOfWalk_97_2_i
      have t1 := t.1
      simp (disch := omega) only [yl3, yl4, yl5, yl6, yl7, yl8, yl9, yl10, yl13, yl16, yl20, yl21, yl22, yl23, yl24, yl32, yl40, yl48, yl57, yl59, yl63, yl64, yl97, yl99, yl122, yl255, yl256, yl400, yl1000, yl2000, yl2048, yc0_eq, yc0_eq2, yc0_le, yc0_ge, yc0_lt, yc0_gt, yc0_ad, yc0_da, yc0_sb, yc0_ml, yc0_lm, yc1_eq, yc1_eq2, yc1_le, yc1_ge, yc1_lt, yc1_gt, yc1_ad, yc1_da, yc1_sb, yc1_ml, yc1_lm, yc2_eq, yc2_eq2, yc2_le, yc2_ge, yc2_lt, yc2_gt, yc2_ad, yc2_da, yc2_sb, yc2_ml, yc2_lm, yc31_ge, ymodn, yI_1sl, yc2_dv, yn1_eq, yn1_lt, xgd_t, xlt_e, Option.bind_some, nI_add, pk_mul, pk_sub, pk_div, pk_rem, yI_and, yI_or, yI_xor, yI_nd, yI_nd2, yI_31, yI_shl, nI_leI, nI_ltI, nI_eq, nI_clamp, xinb_t, yP_z, yP_if, if_neg, ar, yif_t ak, if_pos t1, cp, yif_t t.2]
    | succ d ih =>
      intro k hk
      have e := ih (k + 1) (by omega)
      have k64 : k < 64 := by omega
      have no := ys.2 k (by omega)
      have t := ynr_t hS hx hcx hd k64
      have ar := s_isArrow (v := 101) rfl rfl hR hG.1 k64
      have cp := s_compels (v := 101) rfl rfl hG.1 hG.2.1 hR hx k64 (ycl_e hcx ho)
      apply bX1_nextOfWalk_97_2_i
      by_cases ak : yb (R (k / 8)) (k % 8)
      · by_cases t1 : m.1 99 k = m.1 99 x - (1 : Int32)
        · have nf : ¬ yfc (yad R) (yan x) (yan k) := fun t2 => no (t.mp ⟨t1, t2⟩)
          simp (disch := omega) only [yl3, yl4, yl5, yl6, yl7, yl8, yl9, yl10, yl13, yl16, yl20, yl21, yl22, yl23, yl24, yl32, yl40, yl48, yl57, yl59, yl63, yl64, yl97, yl99, yl122, yl255, yl256, yl400, yl1000, yl2000, yl2048, yc0_eq, yc0_eq2, yc0_le, yc0_ge, yc0_lt, yc0_gt, yc0_ad, yc0_da, yc0_sb, yc0_ml, yc0_lm, yc1_eq, yc1_eq2, yc1_le, yc1_ge, yc1_lt, yc1_gt, yc1_ad, yc1_da, yc1_sb, yc1_ml, yc1_lm, yc2_eq, yc2_eq2, yc2_le, yc2_ge, yc2_lt, yc2_gt, yc2_ad, yc2_da, yc2_sb, yc2_ml, yc2_lm, yc31_ge, ymodn, yI_1sl, yc2_dv, yn1_eq, yn1_lt, xgd_t, xlt_e, Option.bind_some, nI_add, pk_mul, pk_sub, pk_div, pk_rem, yI_and, yI_or, yI_xor, yI_nd, yI_nd2, yI_31, yI_shl, nI_leI, nI_ltI, nI_eq, nI_clamp, xinb_t, yP_z, yP_if, if_neg, ar, yif_t ak, if_pos t1, cp, yif_f nf]
          exact e
        · simp (disch := omega) only [yl3, yl4, yl5, yl6, yl7, yl8, yl9, yl10, yl13, yl16, yl20, yl21, yl22, yl23, yl24, yl32, yl40, yl48, yl57, yl59, yl63, yl64, yl97, yl99, yl122, yl255, yl256, yl400, yl1000, yl2000, yl2048, yc0_eq, yc0_eq2, yc0_le, yc0_ge, yc0_lt, yc0_gt, yc0_ad, yc0_da, yc0_sb, yc0_ml, yc0_lm, yc1_eq, yc1_eq2, yc1_le, yc1_ge, yc1_lt, yc1_gt, yc1_ad, yc1_da, yc1_sb, yc1_ml, yc1_lm, yc2_eq, yc2_eq2, yc2_le, yc2_ge, yc2_lt, yc2_gt, yc2_ad, yc2_da, yc2_sb, yc2_ml, yc2_lm, yc31_ge, ymodn, yI_1sl, yc2_dv, yn1_eq, yn1_lt, xgd_t, xlt_e, Option.bind_some, nI_add, pk_mul, pk_sub, pk_div, pk_rem, yI_and, yI_or, yI_xor, yI_nd, yI_nd2, yI_31, yI_shl, nI_leI, nI_ltI, nI_eq, nI_clamp, xinb_t, yP_z, yP_if, if_neg, ar, yif_t ak, if_neg t1]
          exact e
      · simp (disch := omega) only [yl3, yl4, yl5, yl6, yl7, yl8, yl9, yl10, yl13, yl16, yl20, yl21, yl22, yl23, yl24, yl32, yl40, yl48, yl57, yl59, yl63, yl64, yl97, yl99, yl122, yl255, yl256, yl400, yl1000, yl2000, yl2048, yc0_eq, yc0_eq2, yc0_le, yc0_ge, yc0_lt, yc0_gt, yc0_ad, yc0_da, yc0_sb, yc0_ml, yc0_lm, yc1_eq, yc1_eq2, yc1_le, yc1_ge, yc1_lt, yc1_gt, yc1_ad, yc1_da, yc1_sb, yc1_ml, yc1_lm, yc2_eq, yc2_eq2, yc2_le, yc2_ge, yc2_lt, yc2_gt, yc2_ad, yc2_da, yc2_sb, yc2_ml, yc2_lm, yc31_ge, ymodn, yI_1sl, yc2_dv, yn1_eq, yn1_lt, xgd_t, xlt_e, Option.bind_some, nI_add, pk_mul, pk_sub, pk_div, pk_rem, yI_and, yI_or, yI_xor, yI_nd, yI_nd2, yI_31, yI_shl, nI_leI, nI_ltI, nI_eq, nI_clamp, xinb_t, yP_z, yP_if, if_neg, ar, yif_f ak]
        exact e
  apply fX1_nextOfWalk_97_i
  exact l (yn1 R o x) 0 (Nat.zero_add _)
theorem s_walk_20 {R : Nat → Nat} (hG : yGd R) {o x : Nat} (ho : yad R (yan o).1 (yan o).2) (hx : x < 64) (hcx : ycl (yad R) (yan o) (yan x)) {m : xmm} (hR : yrw 101 R m) (hS : ySp 99 100 98 2 (yad R) o m) {i : Nat} (hi : i ≤ ydt (yad R) (yan o) (yan x)) : ∀ (d j : Nat), j + d = i → bX1_walkAt_97_20 (nI i) (nI (ywk R o x j)) (nI j) m = some (nI (ywk R o x i), m) := by
  have b64 : ydt (yad R) (yan o) (yan x) < 64 := by
    have hS' := hS
    obtain ⟨f, s, h1, h2, h3, h4, h5, h6, h7⟩ := hS'
    exact h7 x hx hcx
  intro d
  induction d with
  | zero =>
    intro j hj
    have e : j = i := by omega
    subst e
    apply bX1_walkAt_97_20_i
    simp (disch := omega) only [yl3, yl4, yl5, yl6, yl7, yl8, yl9, yl10, yl13, yl16, yl20, yl21, yl22, yl23, yl24, yl32, yl40, yl48, yl57, yl59, yl63, yl64, yl97, yl99, yl122, yl255, yl256, yl400, yl1000, yl2000, yl2048, yc0_eq, yc0_eq2, yc0_le, yc0_ge, yc0_lt, yc0_gt, yc0_ad, yc0_da, yc0_sb, yc0_ml, yc0_lm, yc1_eq, yc1_eq2, yc1_le, yc1_ge, yc1_lt, yc1_gt, yc1_ad, yc1_da, yc1_sb, yc1_ml, yc1_lm, yc2_eq, yc2_eq2, yc2_le, yc2_ge, yc2_lt, yc2_gt, yc2_ad, yc2_da, yc2_sb, yc2_ml, yc2_lm, yc31_ge, ymodn, yI_1sl, yc2_dv, yn1_eq, yn1_lt, xgd_t, xlt_e, Option.bind_some, nI_add, pk_mul, pk_sub, pk_div, pk_rem, yI_and, yI_or, yI_xor, yI_nd, yI_nd2, yI_31, yI_shl, nI_leI, nI_ltI, nI_eq, nI_clamp, xinb_t, yP_z, yP_if, if_pos]
  | succ d ih =>
    intro j hj
    have e := ih (j + 1) (by omega)
    obtain ⟨w1, w2, w3⟩ := ywk_ok hG ho hcx hx j (by omega)
    have nx := s_next_97 hG ho w1 w2 (by omega) hR hS
    apply bX1_walkAt_97_20_i
    simp (disch := omega) only [yl3, yl4, yl5, yl6, yl7, yl8, yl9, yl10, yl13, yl16, yl20, yl21, yl22, yl23, yl24, yl32, yl40, yl48, yl57, yl59, yl63, yl64, yl97, yl99, yl122, yl255, yl256, yl400, yl1000, yl2000, yl2048, yc0_eq, yc0_eq2, yc0_le, yc0_ge, yc0_lt, yc0_gt, yc0_ad, yc0_da, yc0_sb, yc0_ml, yc0_lm, yc1_eq, yc1_eq2, yc1_le, yc1_ge, yc1_lt, yc1_gt, yc1_ad, yc1_da, yc1_sb, yc1_ml, yc1_lm, yc2_eq, yc2_eq2, yc2_le, yc2_ge, yc2_lt, yc2_gt, yc2_ad, yc2_da, yc2_sb, yc2_ml, yc2_lm, yc31_ge, ymodn, yI_1sl, yc2_dv, yn1_eq, yn1_lt, xgd_t, xlt_e, Option.bind_some, nI_add, pk_mul, pk_sub, pk_div, pk_rem, yI_and, yI_or, yI_xor, yI_nd, yI_nd2, yI_31, yI_shl, nI_leI, nI_ltI, nI_eq, nI_clamp, xinb_t, yP_z, yP_if, if_neg, nx]
    exact e
/-- the i-th arrow of the walk of arrow x -/
noncomputable def ywa (R : Nat → Nat) (x : Nat) (w : Int32) : Int32 := yif (¬ w < 0 ∧ w.toNatClampNeg < ywl R x) (nI (ywk R (8 * (x % 8) + x / 8) x w.toNatClampNeg)) (-1)
theorem ywl_d {R : Nat → Nat} (hG : yGd R) {x : Nat} (h64 : x < 64) (ho : yodd (yad R) (yan x)) : ycl (yad R) (yan (8 * (x % 8) + x / 8)) (yan x) ∧ ywl R x = ydt (yad R) (yan (8 * (x % 8) + x / 8)) (yan x) + 1 := by
  have hrv := yan_rv h64
  have dd : ydt (yad R) (yrv (yan x)) (yan x) = ydt (yad R) (yan x) (yrv (yan x)) := by
    have := ydt_rv hG.2.1 ho
    rw [yrv_rv] at this
    exact this
  rw [hrv]
  refine ⟨ycl_sy hG.2.1 ho, ?_⟩
  unfold ywl
  rw [yif_t ho, dd]
theorem s_walkAt {R : Nat → Nat} (hG : yGd R) {x : Nat} (h64 : x < 64) (hx : yar R x) (w : Int32) {m : xmm} (hm : yCS R 97 101 102 m) : ∃ m', fX1_walkAt_97 (nI x) w m = some (ywa R x w, m') ∧ yfr [98, 99, 100] m m' := by
  unfold ywa
  by_cases hw : w < 0
  · refine ⟨m, ?_, yfr_r⟩
    rw [yif_f (fun t => t.1 hw)]
    apply fX1_walkAt_97_i
    rw [if_pos hw]
  · obtain ⟨i, hi, ew⟩ := nI_of hw
    obtain ⟨m1, a1, a2, a3⟩ := s_walkLen hG h64 hx hm
    have wl : ywl R x ≤ 65 := by
      unfold ywl
      by_cases ho : yodd (yad R) (yan x)
      · have := a2 ho
        obtain ⟨c1, c2⟩ := ywl_d hG h64 ho
        obtain ⟨f, s, h1, h2, h3, h4, h5, h6, h7⟩ := this
        have := h7 x h64 c1
        have e : ywl R x = yif (yodd (yad R) (yan x)) (ydt (yad R) (yan x) (yrv (yan x)) + 1) 0 := rfl
        rw [← e, c2]
        omega
      · rw [yif_f ho]; omega
    refine ⟨m1, ?_, a3⟩
    apply fX1_walkAt_97_i
    rw [if_neg hw, a1, Option.bind_some, ew, nI_clamp hi]
    by_cases hl : i < ywl R x
    · have ho : yodd (yad R) (yan x) := Classical.byContradiction fun t => by
        unfold ywl at hl
        rw [yif_f t] at hl
        omega
      obtain ⟨c1, c2⟩ := ywl_d hG h64 ho
      have hR1 : yrw 101 R m1 := yrw_r hm.1 a3 (by decide)
      have hrv := yan_rv h64
      have e2 : yad R (yan (8 * (x % 8) + x / 8)).1 (yan (8 * (x % 8) + x / 8)).2 := by
        rw [hrv]; exact hG.2.1.1 _ _ hx
      have lt : nI i < nI (ywl R x) := (nI_ltI hi (by omega)).mpr hl
      rw [if_pos lt, yif_t ⟨nI_pos hi, hl⟩]
      exact s_walk_20 hG e2 h64 c1 hR1 (a2 ho) (by omega) i 0 (Nat.zero_add i)
    · have lt : ¬ nI i < nI (ywl R x) := fun t => hl ((nI_ltI hi (by omega)).mp t)
      rw [if_neg lt, yif_f (fun t => hl t.2)]
noncomputable def yaWalk (n : Nat) (N : yNW) (x y w : Int32) : Int32 := yif (yLP n N.1 x y) (ywa N.1 (8 * x.toNatClampNeg + y.toNatClampNeg) w) (-1)
theorem yar_ab {R : Nat → Nat} {a b : Nat} (hb : b < 8) : yar R (8 * a + b) ↔ yad R a b := by
  show yad R ((8 * a + b) / 8) ((8 * a + b) % 8) ↔ _
  rw [show (8 * a + b) / 8 = a by omega, show (8 * a + b) % 8 = b by omega]
theorem s_cWalk {n : Nat} {N : yNW} {h : Nat} {H : Nat → yNW} {hd : Nat → Prop} {K : Nat → yNW} {m : xmm} (hc : yCI n N h H hd K m) (x y w : Int32) : yCA n N h H hd K (yaWalk n N x y w) (fX11_walk_0 x y w m) m := by
  have hG := hc.1.1
  have hn := hG.1
  have hl := s_cHL hc x y
  unfold yaWalk
  by_cases hx : yLP n N.1 x y
  · obtain ⟨m1, a1, a2, a3, a4⟩ := s_study hc
    have hx' := hx
    obtain ⟨a, b, ha, hb, ex, ey, e1⟩ := hx'
    obtain ⟨m2, b1, b2⟩ := s_walkAt (yGr_gd hG) (x := 8 * a + b) (by omega) ((yar_ab (by omega)).mpr e1) w a3.2.1
    refine ⟨m2, ?_, yCI_r a2 (yfr_m b2 (by decide)), yCk_t a4 (yCk_of b2 (by decide))⟩
    apply fX11_walk_0_i
    rw [hl, yP_t hx, Option.bind_some, if_neg yn10, yif_t hx, a1, Option.bind_some, ex, ey, s_arrowFrom, Option.bind_some, b1, nI_clamp (by omega), nI_clamp (by omega)]
    rfl
  · refine ⟨m, ?_, hc, yCk_r m⟩
    apply fX11_walk_0_i
    rw [hl, yP_f hx, Option.bind_some, if_pos rfl, yif_f hx]
