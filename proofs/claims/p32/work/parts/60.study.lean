/-! the class STUDIES the network once -/
theorem yCI_0 {n : Nat} {N : yNW} {h : Nat} {H : Nat → yNW} {hd : Nat → Prop} {K : Nat → yNW} {L : List Nat} {m m' : xmm} (hc : yCI n N h H hd K m) (hf : yfr L m m') (hL : ∀ k, k ∈ L → k = 12 ∨ k = 13 ∨ (97 ≤ k ∧ k ≤ 137)) (hk : m'.1 0 6 = nI 0 ∨ (m'.1 0 6 = nI 1 ∧ yKc n N m')) : yCI n N h H hd K m' := by
  obtain ⟨c1, c2, ⟨nx, p1, p2, p3, p4, p5⟩, ⟨d1, d2⟩, c5⟩ := hc
  have o : ∀ k, k ≠ 12 → k ≠ 13 → (k < 97 ∨ 137 < k) → k ∉ L := fun k h1 h2 h3 t => by have := hL k t; omega
  exact ⟨c1, yNt_r c2 hf (o _ (by omega) (by omega) (by omega)) (o _ (by omega) (by omega) (by omega)), ⟨nx, by rw [yfr_1 hf 14 1 (o _ (by omega) (by omega) (by omega))]; exact p1, by rw [yfr_1 hf 14 2 (o _ (by omega) (by omega) (by omega))]; exact p2, p3, p4, fun i hi => ⟨yNt_r (p5 i hi).1 hf (o _ (by omega) (by omega) (by omega)) (o _ (by omega) (by omega) (by omega)), (p5 i hi).2⟩⟩, ⟨by rw [yfr_1 hf 0 5 (o _ (by omega) (by omega) (by omega))]; exact d1, fun i hi h2 => ⟨yNt_r (d2 i hi h2).1 hf (o _ (by omega) (by omega) (by omega)) (o _ (by omega) (by omega) (by omega)), (d2 i hi h2).2⟩⟩, hk⟩
theorem s_study {n : Nat} {N : yNW} {h : Nat} {H : Nat → yNW} {hd : Nat → Prop} {K : Nat → yNW} {m : xmm} (hc : yCI n N h H hd K m) : ∃ m', fX11_study_0 m = some m' ∧ yCI n N h H hd K m' ∧ yKc n N m' ∧ yCk m m' := by
  rcases hc.2.2.2.2 with h0 | ⟨h1, hk⟩
  · obtain ⟨R, b⟩ := N
    have hG := hc.1.1
    have hb : b < 2 := hc.1.2
    have hn := hG.1
    have hD := yGr_gd hG
    have hG' := yop_gr hG
    have hD' := yGr_gd hG'
    dsimp only at hG hG' hD hD' hn
    have z1 : ¬ (1 : Int32) = 0 := by decide
    -- the opposite
    obtain ⟨m1, a1, a2, a3⟩ := s_copyFrom ynet12 ynet10 (by decide) (by decide) (by decide) (by decide) hc.1.2 hc.2.1
    obtain ⟨m2, b1, b2, b3⟩ := s_turnOver ynet12 (by decide) hG a2.1 a2.2.2
    have f2 : yfr [12, 13] m m2 := yfr_t a3 (yfr_m b3 (by decide))
    have op2 : yNt 12 13 n (yop n R, b) m2 := ⟨by rw [yfr_1 b3 12 0 (by decide)]; exact a2.1, by rw [yfr_1 b3 12 1 (by decide)]; exact a2.2.1, b2⟩
    have net2 := yNt_r hc.2.1 f2 (by decide) (by decide)
    -- classes
    obtain ⟨m3, c1, c2, c3⟩ := s_solve_97 hD (v := 11) rfl rfl (by decide) net2.2.2
    have net3 := yNt_r net2 c3 (by decide) (by decide)
    have op3 := yNt_r op2 c3 (by decide) (by decide)
    obtain ⟨m4, d1, d2, d3⟩ := s_solve_103 hD' (v := 13) rfl rfl (by decide) op3.2.2
    have net4 := yNt_r net3 d3 (by decide) (by decide)
    have op4 := yNt_r op3 d3 (by decide) (by decide)
    have cs4 := yCS_r c2 d3 (by decide) (by decide) (by decide)
    have io := s_isOrdered_97 hD cs4
    have f4 : yfr [12, 13, 97, 98, 99, 100, 101, 102, 103, 104, 105, 106, 107, 108] m m4 := yfr_t (yfr_t (yfr_m f2 (by decide)) (yfr_m c3 (by decide))) (yfr_m d3 (by decide))
    -- its arrows
    obtain ⟨m5, e1, e2, e3⟩ : ∃ m5 : xmm, (∀ {z : xmm}, bX11_study_0_103 m5 = some z → (fX1_isOrdered_97 m4).bind (fun (w9 : Int32 × xmm) => if w9.1 = 0 then bX11_study_0_103 w9.2 else (fX0_solve_109 11 (w9.2.1 10 1) w9.2).bind fun (w11 : xmm) => (fX5_solve_123_109 (w11.1 10 0) w11).bind fun (w13 : xmm) => bX11_study_0_103 w13) = some z) ∧ (yord (yad R) → yAI R b (yN R b) 113 114 115 109 4 m5 ∧ yRK n (yT R b) m5) ∧ yfr [109, 110, 111, 112, 113, 114, 115, 123, 124, 125, 126, 127] m4 m5 := by
      by_cases ho : yord (yad R)
      · obtain ⟨m6, g1, g2, g3⟩ := s_asolve_109 hD hb (v := 11) rfl rfl (by decide) net4.2.2
        obtain ⟨m7, k1, k2, k3⟩ := s_rsolve (yT_po hG ho b) hn (m := m6) g2.2.1
        have net6 := yNt_r net4 g3 (by decide) (by decide)
        refine ⟨m7, fun {z} hz => ?_, fun _ => ⟨yAI_r g2 k3 (by decide) (by decide) (by decide) (by decide), k2⟩, yfr_t (yfr_m g3 (by decide)) (yfr_m k3 (by decide))⟩
        rw [io, yP_t ho, Option.bind_some, if_neg z1, net4.2.1, g1, Option.bind_some, net6.1, k1, Option.bind_some]
        exact hz
      · refine ⟨m4, fun {z} hz => ?_, fun t => absurd t ho, yfr_r⟩
        rw [io, yP_f ho, Option.bind_some, if_pos rfl]
        exact hz
    have net5 := yNt_r net4 e3 (by decide) (by decide)
    have op5 := yNt_r op4 e3 (by decide) (by decide)
    have cs5 := yCS_r cs4 e3 (by decide) (by decide) (by decide)
    have co5 := yCS_r d2 e3 (by decide) (by decide) (by decide)
    have io' := s_isOrdered_103 hD' co5
    have f5 : yfr [12, 13, 97, 98, 99, 100, 101, 102, 103, 104, 105, 106, 107, 108, 109, 110, 111, 112, 113, 114, 115, 123, 124, 125, 126, 127] m m5 := yfr_t (yfr_m f4 (by decide)) (yfr_m e3 (by decide))
    -- the opposite's
    obtain ⟨m6, g1, g2, g3⟩ : ∃ m6 : xmm, bX11_study_0_103 m5 = some (xwi m6 0 6 (1 : Int32)) ∧ (yord (yad (yop n R)) → yAI (yop n R) 0 (yN (yop n R) 0) 120 121 122 116 4 m6) ∧ yfr [116, 117, 118, 119, 120, 121, 122] m5 m6 := by
      by_cases ho : yord (yad (yop n R))
      · obtain ⟨m7, k1, k2, k3⟩ := s_asolve_116 hD' (b := 0) (by decide) (v := 13) rfl rfl (by decide) op5.2.2
        refine ⟨m7, ?_, fun _ => k2, k3⟩
        apply bX11_study_0_103_i
        have k1' : fX0_solve_116 13 (0 : Int32) m5 = some m7 := k1
        rw [io', yP_t ho, Option.bind_some, if_neg z1, k1', Option.bind_some]
        rfl
      · refine ⟨m5, ?_, fun t => absurd t ho, yfr_r⟩
        apply bX11_study_0_103_i
        rw [io', yP_f ho, Option.bind_some, if_pos rfl]
        rfl
    have f6 : yfr [12, 13, 97, 98, 99, 100, 101, 102, 103, 104, 105, 106, 107, 108, 109, 110, 111, 112, 113, 114, 115, 116, 117, 118, 119, 120, 121, 122, 123, 124, 125, 126, 127] m m6 := yfr_t (yfr_m f5 (by decide)) (yfr_m g3 (by decide))
    have f7 : yfr [0] m6 (xwi m6 0 6 (1 : Int32)) := yfr_w yfr_r (by decide)
    have kc6 : yKc n (R, b) m6 := ⟨yNt_r op5 g3 (by decide) (by decide), yCS_r cs5 g3 (by decide) (by decide) (by decide), yCS_r co5 g3 (by decide) (by decide) (by decide), fun ho => ⟨yAI_r (e2 ho).1 g3 (by decide) (by decide) (by decide) (by decide), yRK_r (e2 ho).2 g3 (by decide) (by decide) (by decide) (by decide) (by decide)⟩, g2⟩
    have kc7 : yKc n (R, b) (xwi m6 0 6 (1 : Int32)) := yKc_r kc6 f7 (by decide)
    refine ⟨xwi m6 0 6 (1 : Int32), ?_, ?_, kc7, yCk_t (yCk_of f6 (by decide)) (yCk_of f7 (by decide))⟩
    · apply fX11_study_0_i
      have h0' : m.1 0 6 = 0 := h0
      rw [h0', if_pos rfl, a1, Option.bind_some, b1, Option.bind_some, c1, Option.bind_some, d1, Option.bind_some]
      exact e1 g1
    · have x := yCI_0 hc f6 (by decide) (Or.inl (by rw [yfr_1 f6 0 6 (by decide)]; exact h0))
      obtain ⟨c1, c2, ⟨nx, p1, p2, p3, p4, p5⟩, ⟨d1, d2⟩, _⟩ := x
      have o0 : ∀ k, k ≠ 0 → k ∉ [0] := fun k h1 t => h1 (List.mem_singleton.mp t)
      exact ⟨c1, yNt_r c2 f7 (by decide) (by decide), ⟨nx, by rw [xwi_k (by decide)]; exact p1, by rw [xwi_k (by decide)]; exact p2, p3, p4, fun i hi => ⟨yNt_r (p5 i hi).1 f7 (o0 _ (by omega)) (o0 _ (by omega)), (p5 i hi).2⟩⟩, ⟨by rw [xwi_i (by decide)]; exact d1, fun i hi h2 => ⟨yNt_r (d2 i hi h2).1 f7 (o0 _ (by omega)) (o0 _ (by omega)), (d2 i hi h2).2⟩⟩, Or.inr ⟨xwi_e _ _ _ _, kc7⟩⟩
  · refine ⟨m, ?_, hc, hk, yCk_r m⟩
    apply fX11_study_0_i
    have z : ¬ m.1 0 6 = 0 := by rw [h1]; decide
    rw [if_neg z]
