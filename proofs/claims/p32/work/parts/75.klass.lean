/-! KLASS, the class -/
noncomputable def yaKl (n : Nat) (N : yNW) (x y w : Int32) : Int32 := yif (yLP n N.1 x y) (if w = 0 then nI (ycz N.1 (8 * x.toNatClampNeg + y.toNatClampNeg)) else if w = 1 then yP (yodd (yad N.1) (yan (8 * x.toNatClampNeg + y.toNatClampNeg))) else if w = 2 then nI (ylm N.1 (8 * x.toNatClampNeg + y.toNatClampNeg) 64) else if w = 3 then nI (ywl N.1 (8 * x.toNatClampNeg + y.toNatClampNeg)) else -1) (-1)
theorem s_cKl {n : Nat} {N : yNW} {h : Nat} {H : Nat → yNW} {hd : Nat → Prop} {K : Nat → yNW} {m : xmm} (hc : yCI n N h H hd K m) (x y w : Int32) : yCA n N h H hd K (yaKl n N x y w) (fX11_klass_0 x y w m) m := by
  have hG := hc.1.1
  have hn := hG.1
  have hD := yGr_gd hG
  have hl := s_cHL hc x y
  unfold yaKl
  by_cases hx : yLP n N.1 x y
  · obtain ⟨m1, a1, a2, a3, a4⟩ := s_study hc
    have hx' := hx
    obtain ⟨a, b, ha, hb, ex, ey, e1⟩ := hx'
    have x64 : 8 * a + b < 64 := by omega
    have xa : yar N.1 (8 * a + b) := (yar_ab (by omega)).mpr e1
    have cx : x.toNatClampNeg = a := yxi hn ha ex
    have cy : y.toNatClampNeg = b := yxi hn hb ey
    rw [yif_t hx, cx, cy]
    have st : ∀ {z : Int32 × xmm} {A : Int32 × xmm → Option (Int32 × xmm)}, A (nI (8 * a + b), m1) = some z → ((fX3_hasLine 10 x y m).bind fun (w1 : Int32 × xmm) => if w1.1 = 0 then some ((-1 : Int32), w1.2) else (fX11_study_0 w1.2).bind fun (w3 : xmm) => (fX11_arrowFrom x y w3).bind A) = some z := fun {z A} hz => by
      rw [hl, yP_t hx, Option.bind_some, if_neg yn10]
      dsimp only
      rw [a1, Option.bind_some, ex, ey, s_arrowFrom, Option.bind_some]
      exact hz
    by_cases e0 : w = 0
    · refine ⟨m1, ?_, a2, a4⟩
      apply fX11_klass_0_i
      refine st ?_
      simp only [if_pos e0]
      rw [s_sizeOf hD x64 xa a3.2.1]; rfl
    by_cases e1' : w = 1
    · refine ⟨m1, ?_, a2, a4⟩
      apply fX11_klass_0_i
      refine st ?_
      simp only [if_neg e0, if_pos e1']
      rw [s_isOdd_97 hD x64 xa a3.2.1, Option.bind_some, s_bit]; rfl
    by_cases e2 : w = 2
    · refine ⟨m1, ?_, a2, a4⟩
      apply fX11_klass_0_i
      refine st ?_
      simp only [if_neg e0, if_neg e1', if_pos e2]
      rw [s_linesOf hD x64 xa a3.2.1]; rfl
    by_cases e3 : w = 3
    · obtain ⟨m2, b1, _, b2⟩ := s_walkLen hD x64 xa a3.2.1
      refine ⟨m2, ?_, yCI_r a2 (yfr_m b2 (by decide)), yCk_t a4 (yCk_of b2 (by decide))⟩
      apply fX11_klass_0_i
      refine st ?_
      simp only [if_neg e0, if_neg e1', if_neg e2, if_pos e3]
      rw [b1]; rfl
    · refine ⟨m1, ?_, a2, a4⟩
      apply fX11_klass_0_i
      refine st ?_
      simp only [if_neg e0, if_neg e1', if_neg e2, if_neg e3]
  · refine ⟨m, ?_, hc, yCk_r m⟩
    apply fX11_klass_0_i
    rw [hl, yP_f hx, Option.bind_some, if_pos rfl, yif_f hx]
