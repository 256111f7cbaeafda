/-! WALKS and classes: the model -/
theorem s_mCls {n : Nat} {N : yNW} {h : Nat} {H : Nat → yNW} {hd : Nat → Prop} {K : Nat → yNW} {m : xmm} (hG : yNv n N) (hc : yMM n N h H hd K m) {x : Nat} (h64 : x < 64) (hx : yad N.1 (yan x).1 (yan x).2) : ∃ m', fX12_laysClass_144 152 (nI x) m = some m' ∧ ySp 161 160 144 31 (yad N.1) x m' ∧ yMM n N h H hd K m' ∧ yMk m m' := by
  have hD := yGr_gd hG.1
  obtain ⟨m', a1, a2, a3, a4⟩ := s_laysClass (v := 152) (N := 9) rfl rfl (by decide) (by decide) hD.1 hD.2.2 h64 hx (yMM_n hc).1.2
  have f : yfm [160, 161] [31] m m' := ⟨a3, fun j hj => a4 j fun e => hj (by rw [e]; decide)⟩
  exact ⟨m', a1, a2, yMM_f hc f (by decide) (by decide), yMk_f f (by decide) (by decide)⟩
theorem s_mnext {R : Nat → Nat} (hG : yGd R) {o x i j : Nat} (ho : yad R (yan o).1 (yan o).2) (hx : x < 64) (hcx : ycl (yad R) (yan o) (yan x)) (hd : 0 < ydt (yad R) (yan o) (yan x)) {m : xmm} (hR : yrw 152 R m) (hS : ySp 161 160 144 31 (yad R) o m) : ∀ {z : Int32 × xmm}, bX12_walk_144_82 (nI i) (nI (yn1 R o x)) (nI (j + 1)) m = some z → ∀ (d k : Nat), k + d = yn1 R o x → bX12_walk_144_91 (nI i) (nI x) (nI j) (nI k) m = some z := by
  intro z hz
  have ex := ynr_ex hG ho hcx hd
  have ys := yn1_s ex
  have y64 := ys.1.1
  intro d
  induction d with
  | zero =>
    intro k hk
    have e : k = yn1 R o x := by omega
    have hn := ys.1
    rw [← e] at hn hz
    have k64 := hn.1
    have t := (ynr_t hS hx hcx hd k64).mpr hn
    have cp := s_forcesIt (v := 152) (N := 9) rfl rfl (by decide) hG.1 hR hx k64
    apply bX12_walk_144_91_i
    have t1 := t.1
    simp (disch := omega) only [yl3, yl4, yl5, yl6, yl7, yl8, yl9, yl10, yl13, yl16, yl20, yl21, yl22, yl23, yl24, yl32, yl40, yl48, yl57, yl59, yl63, yl64, yl97, yl99, yl122, yl255, yl256, yl400, yl1000, yl2000, yl2048, yc0_eq, yc0_eq2, yc0_le, yc0_ge, yc0_lt, yc0_gt, yc0_ad, yc0_da, yc0_sb, yc0_ml, yc0_lm, yc1_eq, yc1_eq2, yc1_le, yc1_ge, yc1_lt, yc1_gt, yc1_ad, yc1_da, yc1_sb, yc1_ml, yc1_lm, yc2_eq, yc2_eq2, yc2_le, yc2_ge, yc2_lt, yc2_gt, yc2_ad, yc2_da, yc2_sb, yc2_ml, yc2_lm, yc31_ge, ymodn, yI_1sl, yc2_dv, yn1_eq, yn1_lt, xgd_t, xlt_e, Option.bind_some, nI_add, pk_mul, pk_sub, pk_div, pk_rem, yI_and, yI_or, yI_xor, yI_nd, yI_nd2, yI_31, yI_shl, nI_leI, nI_ltI, nI_eq, nI_clamp, xinb_t, yP_z, yP_if, if_neg, if_pos t1, cp, yif_t t.2]
    exact hz
  | succ d ih =>
    intro k hk
    have e := ih (k + 1) (by omega)
    have k64 : k < 64 := by omega
    have no := ys.2 k (by omega)
    have t := ynr_t hS hx hcx hd k64
    have cp := s_forcesIt (v := 152) (N := 9) rfl rfl (by decide) hG.1 hR hx k64
    apply bX12_walk_144_91_i
    by_cases t1 : m.1 161 k = m.1 161 x - (1 : Int32)
    · have nf : ¬ yfc (yad R) (yan x) (yan k) := fun t2 => no (t.mp ⟨t1, t2⟩)
      simp (disch := omega) only [yl3, yl4, yl5, yl6, yl7, yl8, yl9, yl10, yl13, yl16, yl20, yl21, yl22, yl23, yl24, yl32, yl40, yl48, yl57, yl59, yl63, yl64, yl97, yl99, yl122, yl255, yl256, yl400, yl1000, yl2000, yl2048, yc0_eq, yc0_eq2, yc0_le, yc0_ge, yc0_lt, yc0_gt, yc0_ad, yc0_da, yc0_sb, yc0_ml, yc0_lm, yc1_eq, yc1_eq2, yc1_le, yc1_ge, yc1_lt, yc1_gt, yc1_ad, yc1_da, yc1_sb, yc1_ml, yc1_lm, yc2_eq, yc2_eq2, yc2_le, yc2_ge, yc2_lt, yc2_gt, yc2_ad, yc2_da, yc2_sb, yc2_ml, yc2_lm, yc31_ge, ymodn, yI_1sl, yc2_dv, yn1_eq, yn1_lt, xgd_t, xlt_e, Option.bind_some, nI_add, pk_mul, pk_sub, pk_div, pk_rem, yI_and, yI_or, yI_xor, yI_nd, yI_nd2, yI_31, yI_shl, nI_leI, nI_ltI, nI_eq, nI_clamp, xinb_t, yP_z, yP_if, if_neg, if_pos t1, cp, yif_f nf]
      exact e
    · simp (disch := omega) only [yl3, yl4, yl5, yl6, yl7, yl8, yl9, yl10, yl13, yl16, yl20, yl21, yl22, yl23, yl24, yl32, yl40, yl48, yl57, yl59, yl63, yl64, yl97, yl99, yl122, yl255, yl256, yl400, yl1000, yl2000, yl2048, yc0_eq, yc0_eq2, yc0_le, yc0_ge, yc0_lt, yc0_gt, yc0_ad, yc0_da, yc0_sb, yc0_ml, yc0_lm, yc1_eq, yc1_eq2, yc1_le, yc1_ge, yc1_lt, yc1_gt, yc1_ad, yc1_da, yc1_sb, yc1_ml, yc1_lm, yc2_eq, yc2_eq2, yc2_le, yc2_ge, yc2_lt, yc2_gt, yc2_ad, yc2_da, yc2_sb, yc2_ml, yc2_lm, yc31_ge, ymodn, yI_1sl, yc2_dv, yn1_eq, yn1_lt, xgd_t, xlt_e, Option.bind_some, nI_add, pk_mul, pk_sub, pk_div, pk_rem, yI_and, yI_or, yI_xor, yI_nd, yI_nd2, yI_31, yI_shl, nI_leI, nI_ltI, nI_eq, nI_clamp, xinb_t, yP_z, yP_if, if_neg, if_neg t1]
      exact e
theorem s_mwalk_82 {R : Nat → Nat} (hG : yGd R) {o x : Nat} (ho : yad R (yan o).1 (yan o).2) (hx : x < 64) (hcx : ycl (yad R) (yan o) (yan x)) {m : xmm} (hR : yrw 152 R m) (hS : ySp 161 160 144 31 (yad R) o m) {i : Nat} (hi : i ≤ ydt (yad R) (yan o) (yan x)) (h31 : i < 64) : ∀ (d j : Nat), j + d = i → bX12_walk_144_82 (nI i) (nI (ywk R o x j)) (nI j) m = some (nI (ywk R o x i), m) := by
  intro d
  induction d with
  | zero =>
    intro j hj
    have e : j = i := by omega
    subst e
    apply bX12_walk_144_82_i
    simp (disch := omega) only [yl3, yl4, yl5, yl6, yl7, yl8, yl9, yl10, yl13, yl16, yl20, yl21, yl22, yl23, yl24, yl32, yl40, yl48, yl57, yl59, yl63, yl64, yl97, yl99, yl122, yl255, yl256, yl400, yl1000, yl2000, yl2048, yc0_eq, yc0_eq2, yc0_le, yc0_ge, yc0_lt, yc0_gt, yc0_ad, yc0_da, yc0_sb, yc0_ml, yc0_lm, yc1_eq, yc1_eq2, yc1_le, yc1_ge, yc1_lt, yc1_gt, yc1_ad, yc1_da, yc1_sb, yc1_ml, yc1_lm, yc2_eq, yc2_eq2, yc2_le, yc2_ge, yc2_lt, yc2_gt, yc2_ad, yc2_da, yc2_sb, yc2_ml, yc2_lm, yc31_ge, ymodn, yI_1sl, yc2_dv, yn1_eq, yn1_lt, xgd_t, xlt_e, Option.bind_some, nI_add, pk_mul, pk_sub, pk_div, pk_rem, yI_and, yI_or, yI_xor, yI_nd, yI_nd2, yI_31, yI_shl, nI_leI, nI_ltI, nI_eq, nI_clamp, xinb_t, yP_z, yP_if, if_pos]
  | succ d ih =>
    intro j hj
    have e := ih (j + 1) (by omega)
    obtain ⟨w1, w2, w3⟩ := ywk_ok hG ho hcx hx j (by omega)
    have nx := s_mnext hG (i := i) (j := j) ho w1 w2 (by omega) hR hS e (yn1 R o (ywk R o x j)) 0 (Nat.zero_add _)
    apply bX12_walk_144_82_i
    have le : ¬ nI i ≤ nI j := by rw [nI_leI (by omega) (by omega)]; omega
    rw [if_neg le]
    exact nx
theorem s_mWalk {n : Nat} {N : yNW} {h : Nat} {H : Nat → yNW} {hd : Nat → Prop} {K : Nat → yNW} {m : xmm} (hG : yNv n N) (hc : yMM n N h H hd K m) (x y w : Int32) : yMA n N h H hd K (yaWalk n N x y w) (fX12_walk_144 x y w m) m := by
  have hn := hG.1.1
  have hD := yGr_gd hG.1
  unfold yaWalk
  by_cases hx : yIsP n x
  · by_cases hy : yIsP n y
    · have px := s_MPc hn hc.1 hx
      have py := s_MPc hn hc.1 hy
      obtain ⟨a, ha, ex⟩ := hx
      obtain ⟨b, hb, ey⟩ := hy
      have ia := s_mIA hG hc ha hb
      have start : ∀ {z : Int32 × xmm} {A : Int32 × xmm → Option (Int32 × xmm)}, (fX12_isArrow 152 x y m).bind A = some z → ((fX12_isPost_144 x m).bind fun (w1 : Int32 × xmm) => if w1.1 = 0 then some ((-1 : Int32), w1.2) else (fX12_isPost_144 y w1.2).bind fun (w3 : Int32 × xmm) => if w3.1 = 0 then some ((-1 : Int32), w3.2) else (fX12_isArrow 152 x y w3.2).bind A) = some z := fun {z A} hz => by
        rw [px, Option.bind_some, if_neg yn10]
        dsimp only
        rw [py, Option.bind_some, if_neg yn10]
        exact hz
      by_cases e1 : yad N.1 a b
      · have hl : yLP n N.1 x y := ⟨a, b, ha, hb, ex, ey, e1⟩
        have x64 : 8 * a + b < 64 := by omega
        have o64 : 8 * b + a < 64 := by omega
        have o1 : (8 * a + b) % 8 = b := by omega
        have o2 : (8 * a + b) / 8 = a := by omega
        have hx' : yar N.1 (8 * a + b) := (yar_ab (by omega)).mpr e1
        have ho' : yad N.1 (yan (8 * b + a)).1 (yan (8 * b + a)).2 := by
          rw [yan_ab (by omega)]; exact hG.1.2.2.2.1 _ _ e1
        obtain ⟨m1, a1, a2, a3, a4⟩ := s_mCls hG hc o64 ho'
        have c8 : (8 : Int32) * nI b + nI a = nI (8 * b + a) := by
          have l8 : (8 : Int32) = nI 8 := rfl
          rw [l8, pk_mul, nI_add]
        have c8' : (8 : Int32) * nI a + nI b = nI (8 * a + b) := by
          have l8 : (8 : Int32) = nI 8 := rfl
          rw [l8, pk_mul, nI_add]
        have st := a2
        obtain ⟨f, s, h1, h2, h3, h4, h5, h6, h7⟩ := st
        have dx := h6 (8 * a + b) x64
        refine ⟨m1, ?_, a3, a4⟩
        apply fX12_walk_144_i
        refine start ?_
        rw [ex, ey, ia, yP_t e1, Option.bind_some, if_neg yn10]
        dsimp only
        rw [c8, a1, Option.bind_some, c8', xinb_t x64 (by decide), xgd_t, nI_clamp (by omega), dx, ← ex, ← ey, yif_t hl, ex, ey, nI_clamp (by omega), nI_clamp (by omega)]
        unfold ywa
        rw [o1, o2]
        by_cases ho : yodd (yad N.1) (yan (8 * a + b))
        · obtain ⟨c1, c2⟩ := ywl_d hD x64 ho
          rw [o1, o2] at c1 c2
          have b7 := h7 _ x64 c1
          rw [yif_t c1, if_neg (nI_pos (by omega)), s_inK (by omega), Option.bind_some, c2]
          by_cases hw : yInK (ydt (yad N.1) (yan (8 * b + a)) (yan (8 * a + b))) w
          · obtain ⟨i, i1, i2⟩ := hw
            rw [yP_t ⟨i, i1, i2⟩, if_neg yn10, i2, nI_clamp (by omega), yif_t ⟨nI_pos (by omega), by omega⟩]
            exact s_mwalk_82 hD ho' x64 c1 (yMM_n a3).1.2 a2 i1 (by omega) i 0 (Nat.zero_add i)
          · rw [yP_f hw, if_pos rfl, yif_f]
            rintro ⟨t1, t2⟩
            obtain ⟨p, p1, p2⟩ := nI_of t1
            rw [p2, nI_clamp p1] at t2
            exact hw ⟨p, by omega, p2⟩
        · have nc : ¬ ycl (yad N.1) (yan (8 * b + a)) (yan (8 * a + b)) := fun t => ho (by
            have r := yan_rv x64
            rw [o1, o2] at r
            rw [r] at t
            exact ycl_sy hG.1.2.2.2 t)
          have wl0 : ywl N.1 (8 * a + b) = 0 := yif_f ho
          rw [yif_f nc, if_pos (by decide), yif_f (fun t => by rw [wl0] at t; omega)]
      · have hl : ¬ yLP n N.1 x y := fun t => e1 (by rw [ex, ey] at t; exact (yLP_i hn ha hb).mp t)
        refine ⟨m, ?_, hc, yMk_r m⟩
        apply fX12_walk_144_i
        refine start ?_
        rw [yif_f hl, ex, ey, ia, yP_f e1, Option.bind_some, if_pos rfl]
    · refine ⟨m, ?_, hc, yMk_r m⟩
      apply fX12_walk_144_i
      rw [s_MPc hn hc.1 hx, Option.bind_some, if_neg yn10, s_MPn hn hc.1 hy, Option.bind_some, if_pos rfl, yif_f (fun t => hy (yLP_p t).2)]
  · refine ⟨m, ?_, hc, yMk_r m⟩
    apply fX12_walk_144_i
    rw [s_MPn hn hc.1 hx, Option.bind_some, if_pos rfl, yif_f (fun t => hx (yLP_p t).1)]
