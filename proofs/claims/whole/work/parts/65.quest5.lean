/-! the QUESTIONS: fifth part -/
theorem yct_or {P Q : Nat → Prop} (hd : ∀ k, P k → ¬ Q k) : ∀ n, yct (fun k => P k ∨ Q k) n = yct P n + yct Q n := by
  intro n
  induction n with
  | zero => rfl
  | succ n ih =>
    rw [yct_s, yct_s, yct_s, ih]
    by_cases hp : P n
    · rw [yif_t (Or.inl hp), yif_t hp, yif_f (hd n hp)]; omega
    · by_cases hq : Q n
      · rw [yif_t (Or.inr hq), yif_f hp, yif_t hq]; omega
      · rw [yif_f (fun t => t.elim hp hq), yif_f hp, yif_f hq]; omega
theorem ypp_ci {n : Nat} {T : yG} (hT : yPo n T) (hn : n ≤ 8) (a : Nat) : ypp (yci T a) = yct (fun q => T q a) n := by
  have e1 : ypp (yci T a) = yct (fun q => T q a) 8 := yct_c fun k _ => yci_b hT hn
  rw [e1, yct_ext hn fun k h1 _ t => by have := (hT.1 _ _ t).1; omega]
theorem ypp_ro {n : Nat} {T : yG} (hT : yPo n T) (hn : n ≤ 8) (a : Nat) : ypp (yro T a) = yct (fun q => T a q) n := by
  have e1 : ypp (yro T a) = yct (fun q => T a q) 8 := yct_c fun k _ => yro_b hT hn
  rw [e1, yct_ext hn fun k h1 _ t => by have := (hT.1 _ _ t).2; omega]
theorem yci8 {T : yG} {p : Nat} : yci T p < 256 := ybs_lt _ 8
theorem s_mcp {n : Nat} {N : yNW} {h : Nat} {H : Nat → yNW} {hd : Nat → Prop} {K : Nat → yNW} {m : xmm} (hG : yNv n N) (hc : yMM n N h H hd K m) (ho : yord (yad N.1)) (ho' : yord (yad (yop n N.1))) (hA : yML n (yT N.1 N.2) m) {a w : Nat} (ha : a < n) (hw : w < 2) : ∃ m', fX12_crossedPlace_144 (nI a) (nI w) m = some (nI (ycp n N a w), m') ∧ yMM n N h H hd K m' ∧ yMk m m' := by
  have hn := hG.1.1
  have hT := yT_po hG.1 ho N.2
  have hG' := yop_gr hG.1
  have hT' : yPo n (yTo n N) := yT_po hG' ho' 0
  obtain ⟨m1, a1, a2, a3, a4⟩ := s_mOther2 hG hc
  obtain ⟨m2, b1, b2, b3⟩ := s_laysArrows (yGr_gd hG') (b := 0) (by decide) (v := 159) rfl rfl (by decide) a2
  have mm2 := yMM_f a3 b3 (by decide) (by decide)
  have k2 := yMk_t a4 (yMk_f b3 (by decide) (by decide))
  have r165 : m2.1 165 a = nI (yci (yTo n N) a) := b2.2 a (by omega)
  have ia : xinb 8 (nI a) = true := xinb_t (by omega) (by decide)
  have dis : ∀ q, (if w = 0 then yT N.1 N.2 q a else yT N.1 N.2 a q) → ¬ yTo n N q a := by
    intro q t1 t2
    have e2 := (yT_TO (yGr_gd hG') ho' 0).1 _ _ t2
    have e3 := (yop_b.mp e2).2.2.2
    by_cases w0 : w = 0
    · rw [if_pos w0] at t1
      exact e3 ((yT_TO (yGr_gd hG.1) ho N.2).1 _ _ t1)
    · rw [if_neg w0] at t1
      exact e3 (hG.1.2.2.2.1 _ _ ((yT_TO (yGr_gd hG.1) ho N.2).1 _ _ t1))
  have l19 : ∀ s, s < 256 → ypp s = yct (fun q => if w = 0 then yT N.1 N.2 q a else yT N.1 N.2 a q) n → bX12_crossedPlace_144_19 (nI a) (nI s) m = some (nI (ycp n N a w), m2) := by
    intro s hs hp
    have b1' : fX12_laysArrows_144 159 (0 : Int32) m1 = some m2 := b1
    apply bX12_crossedPlace_144_19_i
    rw [s_bitsOf hs, Option.bind_some, a1, Option.bind_some, b1', Option.bind_some, ia, nI_clamp (by omega), xgd_t, r165, s_bitsOf yci8, Option.bind_some, nI_add, hp, ypp_ci hT' hn, ← yct_or dis]
    rfl
  refine ⟨m2, ?_, mm2, k2⟩
  apply fX12_crossedPlace_144_i
  by_cases w0 : w = 0
  · subst w0
    rw [if_pos (show nI 0 = 0 from rfl), ia, nI_clamp (by omega), xgd_t, hA.2.2 a (by omega)]
    exact l19 _ yci8 (ypp_ci hT hn a)
  · have w1 : w = 1 := by omega
    subst w1
    rw [if_neg (show ¬ nI 1 = 0 by decide), ia, nI_clamp (by omega), xgd_t, hA.2.1 a (by omega)]
    exact l19 _ yro8 (ypp_ro hT hn a)
theorem s_mPost {n : Nat} {N : yNW} {h : Nat} {H : Nat → yNW} {hd : Nat → Prop} {K : Nat → yNW} {m : xmm} (hG : yNv n N) (hc : yMM n N h H hd K m) (x w : Int32) : yMA n N h H hd K (yaPost n N x w) (fX12_post_144 x w m) m := by
  have hn := hG.1.1
  have l6 : fX12_in w (0 : Int32) (6 : Int32) m = some (yP (yInK 6 w), m) := s_inK (k := 6) (by omega) w m
  unfold yaPost
  by_cases hx : yIsP n x
  · obtain ⟨a, ha, ex⟩ := hx
    have pp := s_MPc hn hc.1 ⟨a, ha, ex⟩
    have ia : xinb 8 (nI a) = true := xinb_t (by omega) (by decide)
    rw [yif_t ⟨a, ha, ex⟩, yxi hn ha ex]
    by_cases hw : yInK 6 w
    · rw [yif_t hw]
      have hw' := hw
      obtain ⟨i, i1, i2⟩ := hw'
      have e4 : (4 : Int32) = nI 4 := rfl
      have start : ∀ {z : Int32 × xmm}, (if w ≤ (4 : Int32) then bX12_post_144_32 x w m else (fX12_isCrossed_144 m).bind fun (w5 : Int32 × xmm) => if w5.1 = 0 then some ((-2 : Int32), w5.2) else bX12_post_144_32 x w w5.2) = some z → fX12_post_144 x w m = some z := by
        intro z hz
        apply fX12_post_144_i
        rw [pp, Option.bind_some, if_neg yn10]
        dsimp only
        rw [l6, yP_t hw, Option.bind_some, if_neg yn10]
        exact hz
      by_cases hi : i ≤ 4
      · have le4 : w ≤ (4 : Int32) := by rw [i2, e4, nI_leI (by omega) (by omega)]; exact hi
        have ne5 : ¬ i = 5 := by omega
        obtain ⟨m', a1, a2, a3, a4⟩ := s_mArr hG hc
        by_cases ho : yord (yad N.1)
        · have hT := yT_po hG.1 ho N.2
          have ml := (a2 ho).1
          have st : ∀ {z : Int32 × xmm} {A : Int32 × xmm → Option (Int32 × xmm)}, A (1, m') = some z → ((fX12_isArrowed_144 m).bind fun (w1 : Int32 × xmm) => if w1.1 = 0 then some ((-2 : Int32), w1.2) else A w1) = some z := fun {z A} hz => by
            rw [a1, yP_t ho, Option.bind_some, if_neg yn10]
            exact hz
          rw [yif_t ho]
          by_cases e0 : w = 0
          · obtain ⟨m2, b1, b2, b3⟩ := s_mgl hT hn ml
            refine ⟨m2, ?_, yMM_r a3 b3 (by decide), yMk_t a4 (yMk_of b3 (by decide))⟩
            apply start
            rw [if_pos le4]
            apply bX12_post_144_32_i
            refine st ?_
            simp only [if_pos e0]
            rw [b1, ex, Option.bind_some, ia, nI_clamp (by omega), b2 a ha]; rfl
          by_cases e1 : w = 1
          · refine ⟨m', ?_, a3, a4⟩
            apply start
            rw [if_pos le4]
            apply bX12_post_144_32_i
            refine st ?_
            simp only [if_neg e0, if_pos e1]
            rw [ex, ia, nI_clamp (by omega), ml.2.2 a (by omega)]; rfl
          by_cases e2 : w = 2
          · refine ⟨m', ?_, a3, a4⟩
            apply start
            rw [if_pos le4]
            apply bX12_post_144_32_i
            refine st ?_
            simp only [if_neg e0, if_neg e1, if_pos e2]
            rw [ex, ia, nI_clamp (by omega), ml.2.1 a (by omega)]; rfl
          by_cases e3 : w = 3
          · refine ⟨m', ?_, a3, a4⟩
            apply start
            rw [if_pos le4]
            apply bX12_post_144_32_i
            refine st ?_
            simp only [if_neg e0, if_neg e1, if_neg e2, if_pos e3]
            rw [ex, s_mcv hT hn ml (by omega)]; rfl
          by_cases e4' : w = 4
          · obtain ⟨m2, b1, b2, b3⟩ := s_laysStraight hT hn ml
            refine ⟨m2, ?_, yMM_r a3 b3 (by decide), yMk_t a4 (yMk_of b3 (by decide))⟩
            apply start
            rw [if_pos le4]
            apply bX12_post_144_32_i
            refine st ?_
            simp only [if_neg e0, if_neg e1, if_neg e2, if_neg e3, if_pos e4']
            rw [b1, ex, Option.bind_some, ia, nI_clamp (by omega), b2 a ha]; rfl
          · exfalso
            have : i = 0 ∨ i = 1 ∨ i = 2 ∨ i = 3 ∨ i = 4 := by omega
            rcases this with e | e | e | e | e <;> subst e
            · exact e0 i2
            · exact e1 i2
            · exact e2 i2
            · exact e3 i2
            · exact e4' i2
        · refine ⟨m', ?_, a3, a4⟩
          apply start
          rw [if_pos le4]
          apply bX12_post_144_32_i
          rw [a1, yP_f ho, Option.bind_some, if_pos rfl, yif_f ho]
      · have gt4 : ¬ w ≤ (4 : Int32) := by rw [i2, e4, nI_leI (by omega) (by omega)]; exact hi
        have e0 : ¬ w = 0 := fun e => by rw [i2] at e; have := (nI_eq (b := 0) (by omega) (by omega)).mp e; omega
        have e1 : ¬ w = 1 := fun e => by rw [i2] at e; have := (nI_eq (b := 1) (by omega) (by omega)).mp e; omega
        have e2 : ¬ w = 2 := fun e => by rw [i2] at e; have := (nI_eq (b := 2) (by omega) (by omega)).mp e; omega
        have e3 : ¬ w = 3 := fun e => by rw [i2] at e; have := (nI_eq (b := 3) (by omega) (by omega)).mp e; omega
        have e4' : ¬ w = 4 := fun e => by rw [i2] at e; have := (nI_eq (b := 4) (by omega) (by omega)).mp e; omega
        simp only [if_neg e0, if_neg e1, if_neg e2, if_neg e3, if_neg e4']
        obtain ⟨m1, c1, c2, c3⟩ := s_mCross hG hc
        by_cases hb : yord (yad N.1) ∧ yord (yad (yop n N.1))
        · obtain ⟨m', a1, a2, a3, a4⟩ := s_mArr hG c2
          have ho := hb.1
          obtain ⟨m2, d1, d2, d3⟩ : ∃ m2 : xmm, (∀ {z : Int32 × xmm}, some (if w = 5 then nI (ycp n N a 0) else nI (ycp n N a 1), m2) = some z → bX12_post_144_32 x w m1 = some z) ∧ yMM n N h H hd K m2 ∧ yMk m' m2 := by
            by_cases e6 : w = 6
            · obtain ⟨m2, b1, b2, b3⟩ := s_mcp hG a3 hb.1 hb.2 (a2 ho).1 ha (w := 1) (by decide)
              refine ⟨m2, fun {z} hz => ?_, b2, b3⟩
              have e5 : ¬ w = 5 := by rw [e6]; decide
              apply bX12_post_144_32_i
              rw [a1, yP_t ho, Option.bind_some, if_neg yn10]
              simp only [if_neg e0, if_neg e1, if_neg e2, if_neg e3, if_neg e4', if_pos e6]
              have b1' : fX12_crossedPlace_144 (nI a) (1 : Int32) m' = some (nI (ycp n N a 1), m2) := b1
              rw [ex, b1', Option.bind_some]
              rw [if_neg e5] at hz
              exact hz
            · obtain ⟨m2, b1, b2, b3⟩ := s_mcp hG a3 hb.1 hb.2 (a2 ho).1 ha (w := 0) (by decide)
              refine ⟨m2, fun {z} hz => ?_, b2, b3⟩
              have e5 : w = 5 := by
                have : i = 5 ∨ i = 6 := by omega
                rcases this with e | e
                · rw [i2, e]; rfl
                · rw [i2, e] at e6; exact absurd rfl e6
              apply bX12_post_144_32_i
              rw [a1, yP_t ho, Option.bind_some, if_neg yn10]
              simp only [if_neg e0, if_neg e1, if_neg e2, if_neg e3, if_neg e4', if_neg e6]
              have b1' : fX12_crossedPlace_144 (nI a) (0 : Int32) m' = some (nI (ycp n N a 0), m2) := b1
              rw [ex, b1', Option.bind_some]
              rw [if_pos e5] at hz
              exact hz
          refine ⟨m2, ?_, d2, yMk_t c3 (yMk_t a4 d3)⟩
          apply start
          rw [if_neg gt4, c1, yP_t hb, Option.bind_some, if_neg yn10, yif_t hb.1, yif_t hb.2]
          exact d1 rfl
        · refine ⟨m1, ?_, c2, c3⟩
          apply start
          rw [if_neg gt4, c1, yP_f hb, Option.bind_some, if_pos rfl]
          by_cases ho : yord (yad N.1)
          · rw [yif_t ho, yif_f (fun t => hb ⟨ho, t⟩)]
          · rw [yif_f ho]
    · refine ⟨m, ?_, hc, yMk_r m⟩
      apply fX12_post_144_i
      rw [pp, Option.bind_some, if_neg yn10]
      dsimp only
      rw [l6, yP_f hw, Option.bind_some, if_pos rfl, yif_f hw]
  · refine ⟨m, ?_, hc, yMk_r m⟩
    apply fX12_post_144_i
    rw [s_MPn hn hc.1 hx, Option.bind_some, if_pos rfl, yif_f hx]
