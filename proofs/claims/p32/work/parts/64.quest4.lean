/-! the QUESTIONS: fourth part -/
def yLP (n : Nat) (R : Nat → Nat) (x y : Int32) : Prop := ∃ a b, a < n ∧ b < n ∧ x = nI a ∧ y = nI b ∧ yad R a b
theorem s_cHL {n : Nat} {N : yNW} {h : Nat} {H : Nat → yNW} {hd : Nat → Prop} {K : Nat → yNW} {m : xmm} (hc : yCI n N h H hd K m) (x y : Int32) : fX3_hasLine 10 x y m = some (yP (yLP n N.1 x y), m) := s_hasLine ynet10 hc.1.1 x y hc.2.1.1 hc.2.1.2.2
theorem yan_ab {a b : Nat} (hb : b < 8) : yan (8 * a + b) = (a, b) := by
  unfold yan
  rw [show (8 * a + b) / 8 = a by omega, show (8 * a + b) % 8 = b by omega]
/-! forces -/
noncomputable def yaForce (n : Nat) (N : yNW) (x y z w : Int32) : Int32 := yif (yLP n N.1 x y ∧ yLP n N.1 z w) (yP (yfc (yad N.1) (x.toNatClampNeg, y.toNatClampNeg) (z.toNatClampNeg, w.toNatClampNeg))) (-1)
theorem s_cForce {n : Nat} {N : yNW} {h : Nat} {H : Nat → yNW} {hd : Nat → Prop} {K : Nat → yNW} {m : xmm} (hc : yCI n N h H hd K m) (x y z w : Int32) : yCA n N h H hd K (yaForce n N x y z w) (fX11_forces_0 x y z w m) m := by
  have hG := hc.1.1
  have hn := hG.1
  refine ⟨m, ?_, hc, yCk_r m⟩
  unfold yaForce
  apply fX11_forces_0_i
  rw [s_cHL hc, Option.bind_some]
  by_cases hx : yLP n N.1 x y
  · rw [yP_t hx, if_neg yn10, s_cHL hc, Option.bind_some]
    by_cases hy : yLP n N.1 z w
    · rw [yP_t hy, if_neg yn10, yif_t ⟨hx, hy⟩]
      obtain ⟨a, b, ha, hb, ex, ey, e1⟩ := hx
      obtain ⟨c, d, hc', hd', ez, ew, e2⟩ := hy
      have q := s_compels (v := 11) rfl rfl (fun p _ => yGr_8 hG p) hG.2.2.2 hc.2.1.2.2 (k := 8 * a + b) (l := 8 * c + d) (by omega) (by omega) (by
        rw [show (8 * a + b) / 8 = a by omega, show (8 * a + b) % 8 = b by omega]; exact e1)
      rw [ex, ey, ez, ew, s_arrowFrom, Option.bind_some, s_arrowFrom, Option.bind_some, q, Option.bind_some, s_bit, nI_clamp (by omega), nI_clamp (by omega), nI_clamp (by omega), nI_clamp (by omega), yan_ab (by omega), yan_ab (by omega)]
      rfl
    · rw [yP_f hy, if_pos rfl, yif_f (fun t => hy t.2)]
  · rw [yP_f hx, if_pos rfl, yif_f (fun t => hx t.1)]
theorem yLP_p {n : Nat} {R : Nat → Nat} {x y : Int32} (h : yLP n R x y) : yIsP n x ∧ yIsP n y := by
  obtain ⟨a, b, ha, hb, ex, ey, _⟩ := h
  exact ⟨⟨a, ha, ex⟩, ⟨b, hb, ey⟩⟩
theorem yLP_i {n : Nat} (hn : n ≤ 8) {R : Nat → Nat} {a b : Nat} (ha : a < n) (hb : b < n) : yLP n R (nI a) (nI b) ↔ yad R a b := yln_c hn ha hb
/-! post -/
noncomputable def yTo (n : Nat) (N : yNW) : yG := yT (yop n N.1) 0
/-- its place in the crossed orders -/
noncomputable def ycp (n : Nat) (N : yNW) (a w : Nat) : Nat := yct (fun q => (if w = 0 then yT N.1 N.2 q a else yT N.1 N.2 a q) ∨ yTo n N q a) n
noncomputable def yaPost (n : Nat) (N : yNW) (x w : Int32) : Int32 := yif (yIsP n x) (yif (yInK 6 w) (yif (yord (yad N.1)) (if w = 0 then nI (ylev n (yT N.1 N.2) x.toNatClampNeg) else if w = 1 then nI (yci (yT N.1 N.2) x.toNatClampNeg) else if w = 2 then nI (yro (yT N.1 N.2) x.toNatClampNeg) else if w = 3 then nI (ycv n (yT N.1 N.2) x.toNatClampNeg) else if w = 4 then nI (ypl n (yT N.1 N.2) x.toNatClampNeg) else yif (yord (yad (yop n N.1))) (if w = 5 then nI (ycp n N x.toNatClampNeg 0) else nI (ycp n N x.toNatClampNeg 1)) (-2)) (-2)) (-1)) (-1)
theorem s_has109 {n : Nat} {T : yG} (hT : yPo n T) (hn : n ≤ 8) {m : xmm} (hR : yrw 114 (yro T) m) {a b : Nat} (ha : a < 8) (hb : b < 8) : fX0_has_109 (nI (8 * a + b)) m = some (yP (T a b), m) := by
  have q := s_isArrow (v := 114) rfl rfl hR (fun p _ => yro8) (x := 8 * a + b) (by omega)
  rw [show (8 * a + b) / 8 = a by omega, show (8 * a + b) % 8 = b by omega, yP_c (yro_b hT hn)] at q
  apply fX0_has_109_i
  rw [q]
  simp only [Option.bind_some, yP_z, xgd_t]
theorem s_has116 {n : Nat} {T : yG} (hT : yPo n T) (hn : n ≤ 8) {m : xmm} (hR : yrw 121 (yro T) m) {a b : Nat} (ha : a < 8) (hb : b < 8) : fX0_has_116 (nI (8 * a + b)) m = some (yP (T a b), m) := by
  have q := s_isArrow (v := 121) rfl rfl hR (fun p _ => yro8) (x := 8 * a + b) (by omega)
  rw [show (8 * a + b) / 8 = a by omega, show (8 * a + b) % 8 = b by omega, yP_c (yro_b hT hn)] at q
  apply fX0_has_116_i
  rw [q]
  simp only [Option.bind_some, yP_z, xgd_t]
theorem s_ccp {n : Nat} {N : yNW} {m : xmm} (hG : yGr n N.1) (ho : yord (yad N.1)) (ho' : yord (yad (yop n N.1))) (hN : m.1 10 0 = nI n) (h1 : yrw 114 (yro (yT N.1 N.2)) m) (h2 : yrw 121 (yro (yTo n N)) m) {a w : Nat} (ha : a < n) (hw : w < 2) : ∀ (d q : Nat), q + d = n → bX11_crossedPlace_0_15 (nI a) (nI w) (nI (yct (fun q => (if w = 0 then yT N.1 N.2 q a else yT N.1 N.2 a q) ∨ yTo n N q a) q)) (nI q) m = some (nI (ycp n N a w), m) := by
  have hn := hG.1
  have hT := yT_po hG ho N.2
  have hT' : yPo n (yTo n N) := yT_po (yop_gr hG) ho' 0
  intro d
  induction d with
  | zero =>
    intro q hq
    have e : q = n := by omega
    subst e
    apply bX11_crossedPlace_0_15_i
    simp (disch := omega) only [yl3, yl4, yl5, yl6, yl7, yl8, yl9, yl10, yl13, yl16, yl20, yl21, yl22, yl23, yl24, yl32, yl40, yl48, yl57, yl59, yl63, yl64, yl97, yl99, yl122, yl255, yl256, yl400, yl1000, yl2000, yl2048, yc0_eq, yc0_eq2, yc0_le, yc0_ge, yc0_lt, yc0_gt, yc0_ad, yc0_da, yc0_sb, yc0_ml, yc0_lm, yc1_eq, yc1_eq2, yc1_le, yc1_ge, yc1_lt, yc1_gt, yc1_ad, yc1_da, yc1_sb, yc1_ml, yc1_lm, yc2_eq, yc2_eq2, yc2_le, yc2_ge, yc2_lt, yc2_gt, yc2_ad, yc2_da, yc2_sb, yc2_ml, yc2_lm, yc31_ge, ymodn, yI_1sl, yc2_dv, yn1_eq, yn1_lt, xgd_t, xlt_e, Option.bind_some, nI_add, pk_mul, pk_sub, pk_div, pk_rem, yI_and, yI_or, yI_xor, yI_nd, yI_nd2, yI_31, yI_shl, nI_leI, nI_ltI, nI_eq, nI_clamp, xinb_t, yP_z, yP_if, hN, if_pos]
    rfl
  | succ d ih =>
    intro q hq
    have e := ih (q + 1) (by omega)
    rw [yct_s] at e
    have pl := yct_le (fun q => (if w = 0 then yT N.1 N.2 q a else yT N.1 N.2 a q) ∨ yTo n N q a) q
    have l46 : ∀ (s : Nat), s < 64 → fX0_has_109 (nI s) m = some (yP (if w = 0 then yT N.1 N.2 q a else yT N.1 N.2 a q), m) → bX11_crossedPlace_0_46 (nI a) (nI w) (nI (yct (fun q => (if w = 0 then yT N.1 N.2 q a else yT N.1 N.2 a q) ∨ yTo n N q a) q)) (nI q) (nI s) m = some (nI (ycp n N a w), m) := by
      intro s hs hh
      have h6 := s_has116 hT' hn h2 (a := q) (b := a) (by omega) (by omega)
      apply bX11_crossedPlace_0_46_i
      rw [hh, Option.bind_some]
      by_cases t1 : (if w = 0 then yT N.1 N.2 q a else yT N.1 N.2 a q)
      · rw [yP_t t1, if_neg yn10, nI_1, nI_1]
        rw [yif_t (Or.inl t1)] at e
        exact e
      · rw [yP_f t1, if_pos rfl, s_arrowFrom, Option.bind_some, h6, Option.bind_some]
        by_cases t2 : yTo n N q a
        · rw [yP_t t2, if_neg yn10, nI_1, nI_1]
          rw [yif_t (Or.inr t2)] at e
          exact e
        · rw [yP_f t2, if_pos rfl, nI_1]
          rw [yif_f (fun t => t.elim t1 t2)] at e
          exact e
    have nq : ¬ nI n ≤ nI q := by rw [nI_leI (by omega) (by omega)]; omega
    apply bX11_crossedPlace_0_15_i
    rw [hN, if_neg nq]
    by_cases w0 : w = 0
    · subst w0
      rw [if_pos (show nI 0 = 0 from rfl), s_arrowFrom, Option.bind_some]
      refine l46 (8 * q + a) (by omega) ?_
      rw [s_has109 hT hn h1 (by omega) (by omega)]
      rfl
    · have w1 : w = 1 := by omega
      subst w1
      rw [if_neg (show ¬ nI 1 = 0 by decide), s_arrowFrom, Option.bind_some]
      refine l46 (8 * a + q) (by omega) ?_
      rw [s_has109 hT hn h1 (by omega) (by omega)]
      rfl
theorem s_cPost {n : Nat} {N : yNW} {h : Nat} {H : Nat → yNW} {hd : Nat → Prop} {K : Nat → yNW} {m : xmm} (hc : yCI n N h H hd K m) (x w : Int32) : yCA n N h H hd K (yaPost n N x w) (fX11_post_0 x w m) m := by
  have hG := hc.1.1
  have hn := hG.1
  have hD' := yGr_gd (yop_gr hG)
  unfold yaPost
  by_cases hx : yIsP n x
  · obtain ⟨a, ha, ex⟩ := hx
    have pp := s_PPc hn hc.2.1.1 ⟨a, ha, ex⟩
    rw [yif_t ⟨a, ha, ex⟩, yxi hn ha ex]
    rcases s_inKc (k := 6) (by omega) w with ⟨k1, k2⟩ | ⟨i, i1, i2, i3, i4, i5⟩ | ⟨k1, k2, k3, k4⟩
    · refine ⟨m, ?_, hc, yCk_r m⟩
      apply fX11_post_0_i
      rw [pp, Option.bind_some, if_neg yn10, if_pos k1, yif_f k2]
    · obtain ⟨m', a1, a2, a3, a4, a5⟩ := s_cArr hc
      have io' := s_isOrdered_103 hD' a3.2.2.1
      rw [yif_t ⟨i, i1, i2⟩]
      refine ⟨m', ?_, a4, a5⟩
      apply fX11_post_0_i
      rw [pp, Option.bind_some, if_neg yn10, if_neg i3, if_pos (show w ≤ (6 : Int32) from i4), a1, Option.bind_some, a2, Option.bind_some]
      by_cases ho : yord (yad N.1)
      · have hT := yT_po hG ho N.2
        have ai := (a3.2.2.2.1 ho).1
        have rk := (a3.2.2.2.1 ho).2
        have ia : xinb 8 (nI a) = true := xinb_t (by omega) (by decide)
        rw [yP_t ho, if_neg yn10, yif_t ho, ex]
        have crossed : ∀ v, v < 2 → fX11_crossedPlace_0 (nI a) (nI v) m' = some (yif (yord (yad (yop n N.1))) (nI (ycp n N a v)) (-2), m') := by
          intro v hv
          have q : fX11_isCrossed_0 m' = some (yP (yord (yad (yop n N.1))), m') := by
            apply fX11_isCrossed_0_i
            rw [a2, yP_t ho, Option.bind_some, if_neg yn10, io', Option.bind_some, yif01]
          apply fX11_crossedPlace_0_i
          rw [q, Option.bind_some]
          by_cases ho' : yord (yad (yop n N.1))
          · rw [yP_t ho', if_neg yn10, yif_t ho']
            exact s_ccp hG ho ho' a4.2.1.1 ai.2.1 (a3.2.2.2.2 ho').2.1 ha hv n 0 (Nat.zero_add n)
          · rw [yP_f ho', if_pos rfl, yif_f ho']
        by_cases e0 : w = 0
        · simp only [if_pos e0]
          have q : fX5_levelOf_123 (nI a) m' = some (nI (ylev n (yT N.1 N.2) a), m') := by
            apply fX5_levelOf_123_i
            rw [ia, nI_clamp (by omega), rk.2.1 a (by omega)]; rfl
          rw [q]; rfl
        by_cases e1 : w = 1
        · simp only [if_neg e0, if_pos e1]
          have q : fX5_belowOf_123 (nI a) m' = some (nI (yci (yT N.1 N.2) a), m') := by
            apply fX5_belowOf_123_i
            rw [ia, nI_clamp (by omega), rk.1.2.2 a (by omega)]; rfl
          rw [q]; rfl
        by_cases e2 : w = 2
        · simp only [if_neg e0, if_neg e1, if_pos e2]
          have q : fX5_aboveOf_123 (nI a) m' = some (nI (yro (yT N.1 N.2) a), m') := by
            apply fX5_aboveOf_123_i
            rw [ia, nI_clamp (by omega), rk.1.2.1 a (by omega)]; rfl
          rw [q]; rfl
        by_cases e3 : w = 3
        · simp only [if_neg e0, if_neg e1, if_neg e2, if_pos e3]
          rw [s_coveredBy hT hn rk.1 (by omega)]; rfl
        by_cases e4 : w = 4
        · simp only [if_neg e0, if_neg e1, if_neg e2, if_neg e3, if_pos e4]
          rw [s_firstPlaceOf hT hn rk ha]; rfl
        by_cases e5 : w = 5
        · simp only [if_neg e0, if_neg e1, if_neg e2, if_neg e3, if_neg e4, if_pos e5]
          have q : fX11_crossedPlace_0 (nI a) (0 : Int32) m' = _ := crossed 0 (by decide)
          rw [q]; rfl
        · simp only [if_neg e0, if_neg e1, if_neg e2, if_neg e3, if_neg e4, if_neg e5]
          have q : fX11_crossedPlace_0 (nI a) (1 : Int32) m' = _ := crossed 1 (by decide)
          rw [q]; rfl
      · rw [yP_f ho, if_pos rfl, yif_f ho]
    · refine ⟨m, ?_, hc, yCk_r m⟩
      apply fX11_post_0_i
      rw [pp, Option.bind_some, if_neg yn10, if_neg k2, if_neg (show ¬ w ≤ (6 : Int32) from k3), yif_f k1]
  · refine ⟨m, ?_, hc, yCk_r m⟩
    apply fX11_post_0_i
    rw [s_PPn hn hc.2.1.1 hx, Option.bind_some, if_pos rfl, yif_f hx]
