/-! KLASS, the model: the question -/
theorem s_mKl {n : Nat} {N : yNW} {h : Nat} {H : Nat → yNW} {hd : Nat → Prop} {K : Nat → yNW} {m : xmm} (hG : yNv n N) (hc : yMM n N h H hd K m) (x y w : Int32) : yMA n N h H hd K (yaKl n N x y w) (fX12_klass_144 x y w m) m := by
  have hn := hG.1.1
  have hD := yGr_gd hG.1
  unfold yaKl
  by_cases hx : yIsP n x
  · by_cases hy : yIsP n y
    · have px := s_MPc hn hc.1 hx
      have py := s_MPc hn hc.1 hy
      obtain ⟨a, ha, ex⟩ := hx
      obtain ⟨b, hb, ey⟩ := hy
      have ia := s_mIA hG hc ha hb
      have start : ∀ {z : Int32 × xmm} {A : Int32 × xmm → Option (Int32 × xmm)}, (fX12_isArrow 152 x y m).bind A = some z → ((fX12_isPost_144 x m).bind fun (w1 : Int32 × xmm) => if w1.1 = 0 then some ((-1 : Int32), w1.2) else (fX12_isPost_144 y w1.2).bind fun (w3 : Int32 × xmm) => if w3.1 = 0 then some ((-1 : Int32), w3.2) else (fX12_isArrow 152 x y w3.2).bind A) = some z := fun {z A} hz => by
        rw [px, Option.bind_some, if_neg yn10]
        dsimp only
        rw [py, Option.bind_some, if_neg yn10]
        exact hz
      by_cases e1 : yad N.1 a b
      · have hl : yLP n N.1 x y := ⟨a, b, ha, hb, ex, ey, e1⟩
        have x64 : 8 * a + b < 64 := by omega
        have o1 : (8 * a + b) % 8 = b := by omega
        have o2 : (8 * a + b) / 8 = a := by omega
        have hx' : yad N.1 (yan (8 * a + b)).1 (yan (8 * a + b)).2 := (yar_ab (by omega)).mpr e1
        obtain ⟨m1, a1, a2, a3, a4⟩ := s_mCls hG hc x64 hx'
        have c8 : (8 : Int32) * nI a + nI b = nI (8 * a + b) := by
          have l8 : (8 : Int32) = nI 8 := rfl
          rw [l8, pk_mul, nI_add]
        have c8' : (8 : Int32) * nI b + nI a = nI (8 * b + a) := by
          have l8 : (8 : Int32) = nI 8 := rfl
          rw [l8, pk_mul, nI_add]
        have l3 : fX12_in w (0 : Int32) (3 : Int32) m = some (yP (yInK 3 w), m) := s_inK (k := 3) (by omega) w m
        have wl := s_mwalkLen x64 a2
        have ml : bX12_klass_144_105 (0 : Int32) (0 : Int32) m1 = some (nI (ylm N.1 (8 * a + b) 64), m1) := s_mlines hG.1 hx' (yMM_n a3).1 a2
        rw [o1, o2] at wl
        have cx : x.toNatClampNeg = a := yxi hn ha ex
        have cy : y.toNatClampNeg = b := yxi hn hb ey
        rw [yif_t hl, cx, cy]
        by_cases hw : yInK 3 w
        · refine ⟨m1, ?_, a3, a4⟩
          apply fX12_klass_144_i
          refine start ?_
          rw [ex, ey, ia, yP_t e1, Option.bind_some, if_neg yn10]
          dsimp only
          rw [l3, yP_t hw, Option.bind_some, if_neg yn10]
          dsimp only
          rw [c8, a1, Option.bind_some, c8', xinb_t (show 8 * b + a < 64 by omega) (by decide), nI_clamp (show 8 * b + a < 2 ^ 31 by omega), wl, ySp_sz a2, s_misOdd hD x64 a2, ml]
          obtain ⟨i, i1, i2⟩ := hw
          subst i2
          have : i = 0 ∨ i = 1 ∨ i = 2 ∨ i = 3 := by omega
          rcases this with e | e | e | e <;> subst e
          · rfl
          · rw [if_neg (show ¬ nI 1 = 0 by decide), if_pos (show nI 1 = (1 : Int32) by decide), Option.bind_some, if_neg (show ¬ nI 1 = 0 by decide), if_pos (show nI 1 = (1 : Int32) by decide)]
            by_cases ho : yodd (yad N.1) (yan (8 * a + b))
            · rw [yP_t ho]; rfl
            · rw [yP_f ho]; rfl
          · rfl
          · rfl
        · refine ⟨m, ?_, hc, yMk_r m⟩
          apply fX12_klass_144_i
          refine start ?_
          rw [ex, ey, ia, yP_t e1, Option.bind_some, if_neg yn10]
          dsimp only
          rw [l3, yP_f hw, Option.bind_some, if_pos rfl]
          rw [if_neg (show ¬ w = 0 from fun t => hw ⟨0, by omega, t⟩), if_neg (show ¬ w = 1 from fun t => hw ⟨1, by omega, t⟩), if_neg (show ¬ w = 2 from fun t => hw ⟨2, by omega, t⟩), if_neg (show ¬ w = 3 from fun t => hw ⟨3, by omega, t⟩)]
      · have hl : ¬ yLP n N.1 x y := fun t => e1 (by rw [ex, ey] at t; exact (yLP_i hn ha hb).mp t)
        refine ⟨m, ?_, hc, yMk_r m⟩
        apply fX12_klass_144_i
        refine start ?_
        rw [yif_f hl, ex, ey, ia, yP_f e1, Option.bind_some, if_pos rfl]
    · refine ⟨m, ?_, hc, yMk_r m⟩
      apply fX12_klass_144_i
      rw [s_MPc hn hc.1 hx, Option.bind_some, if_neg yn10, s_MPn hn hc.1 hy, Option.bind_some, if_pos rfl, yif_f (fun t => hy (yLP_p t).2)]
  · refine ⟨m, ?_, hc, yMk_r m⟩
    apply fX12_klass_144_i
    rw [s_MPn hn hc.1 hx, Option.bind_some, if_pos rfl, yif_f (fun t => hx (yLP_p t).1)]
