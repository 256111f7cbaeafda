/-! read: the model -/
theorem yb255 (x : Int32) : (Int32.toInt8 x).toInt32 &&& (255 : Int32) = x &&& (255 : Int32) := by
  apply Int32.toBitVec_inj.mp
  rw [Int32.toBitVec_and, Int32.toBitVec_and, Int8.toBitVec_toInt32, Int32.toBitVec_toInt8]
  apply BitVec.eq_of_getLsbD_eq
  intro i hi
  rw [BitVec.getLsbD_and, BitVec.getLsbD_and]
  have hm : ∀ i < 32, 8 ≤ i → (255 : Int32).toBitVec.getLsbD i = false := by decide
  rcases Nat.lt_or_ge i 8 with z | z
  · rw [BitVec.getLsbD_signExtend, BitVec.getLsbD_signExtend, if_pos z, if_pos hi]
    simp only [z, hi, decide_true, Bool.true_and]
  · rw [hm i hi z]; simp
theorem s_mcopy {bt : Nat → Int32} {len : Nat} (hl : len ≤ 2000) : ∀ (d i : Nat) (m : xmm), i + d = len → m.1 144 4 = nI len → (∀ j, j < len → m.1 145 j = bt j) → (∀ j, j < i → m.1 146 j &&& (255 : Int32) = nI (yzB bt len j)) → ∃ m', (∀ {z : Int32 × xmm}, bX12_read_144_10 (nI len) m' = some z → bX12_read_144_10 (nI i) m = some z) ∧ ySM (yzB bt len) len m' ∧ yfr [146] m m' := by
  intro d
  induction d with
  | zero =>
    intro i m hd h4 h5 h6
    have e : i = len := by omega
    subst e
    exact ⟨m, fun {z} hz => hz, ⟨h4, h6⟩, yfr_r⟩
  | succ d ih =>
    intro i m hd h4 h5 h6
    obtain ⟨m', a1, a2, a3⟩ := ih (i + 1) (xwi m 146 i (Int32.toInt8 (bt i)).toInt32) (by omega) (by rw [xwi_k (by decide)]; exact h4) (fun j hj => by rw [xwi_k (by decide)]; exact h5 j hj) (fun j hj => by
      by_cases e : j = i
      · rw [e, xwi_e, yb255]; exact yzB_e (by omega)
      · rw [xwi_i e]; exact h6 j (by omega))
    refine ⟨m', fun {z} hz => ?_, a2, yfr_t (yfr_w yfr_r (by decide)) a3⟩
    apply bX12_read_144_10_i
    rw [h4, if_neg (by rw [nI_leI (by omega) (by omega)]; omega), xinb_t (by omega) (by decide), xgd_t, nI_clamp (by omega), h5 i (by omega), xlt_e, nI_1]
    exact a1 hz
theorem s_mdraft : ∀ (d k : Nat) (m : xmm), k + d = 9 → (∀ a, a < k → m.1 153 a = nI 0) → ∃ m', (∀ {z : Int32 × xmm}, bX12_read_144_142 (nI 9) m' = some z → bX12_read_144_142 (nI k) m = some z) ∧ (∀ a, a < 9 → m'.1 153 a = nI 0) ∧ yfr [153] m m' := by
  intro d
  induction d with
  | zero =>
    intro k m hd h
    have e : k = 9 := by omega
    subst e
    exact ⟨m, fun {z} hz => hz, h, yfr_r⟩
  | succ d ih =>
    intro k m hd h
    obtain ⟨m', a1, a2, a3⟩ := ih (k + 1) (xwi m 153 k 0) (by omega) (fun a ha => by
      by_cases e : a = k
      · rw [e, xwi_e]; rfl
      · rw [xwi_i e]; exact h a (by omega))
    refine ⟨m', fun {z} hz => ?_, a2, yfr_t (yfr_w yfr_r (by decide)) a3⟩
    apply bX12_read_144_142_i
    rw [if_neg (by rw [yl9, nI_leI (by decide) (by omega)]; omega), xinb_t (by omega) (by decide), xgd_t, nI_clamp (by omega), xlt_e, nI_1]
    exact a1 hz
theorem s_mfree : ∀ (d k : Nat) (m : xmm), k + d = 3 → (∀ a, a < k → m.1 158 a = nI 0) → ∃ m', bX12_read_144_255 (nI k) m = some (0, m') ∧ (∀ a, a < 3 → m'.1 158 a = nI 0) ∧ yfr [158] m m' := by
  intro d
  induction d with
  | zero =>
    intro k m hd h
    have e : k = 3 := by omega
    subst e
    refine ⟨m, ?_, h, yfr_r⟩
    apply bX12_read_144_255_i
    rw [if_pos (by decide)]
  | succ d ih =>
    intro k m hd h
    obtain ⟨m', a1, a2, a3⟩ := ih (k + 1) (xwi m 158 k 0) (by omega) (fun a ha => by
      by_cases e : a = k
      · rw [e, xwi_e]; rfl
      · rw [xwi_i e]; exact h a (by omega))
    refine ⟨m', ?_, a2, yfr_t (yfr_w yfr_r (by decide)) a3⟩
    apply bX12_read_144_255_i
    rw [if_neg (by rw [yl3, nI_leI (by decide) (by omega)]; omega), xinb_t (by omega) (by decide), xgd_t, nI_clamp (by omega), xlt_e, nI_1]
    exact a1
theorem yMM_g {n : Nat} {N : yNW} {h : Nat} {H : Nat → yNW} {hd : Nat → Prop} {K : Nat → yNW} {m : xmm} (hc : yMM n N h H hd K m) {L J : List Nat} {m' : xmm} (hf : yfm L J m m') (h1 : 152 ∉ 144 :: L) (h2 : 156 ∉ 144 :: L) (h3 : 157 ∉ 144 :: L) (h4 : 158 ∉ 144 :: L) (j1 : 17 ∉ J) (j2 : 24 ∉ J) (j3 : 25 ∉ J) : yMM n N h H hd K m' := ⟨by rw [hf.2 17 j1]; exact hc.1, y9_m hc.2.1 hf h1, yMPs_f hc.2.2.1 hf h2 j2 j3, yMHd_f hc.2.2.2 hf h3 h4⟩
theorem yz_st {B : Nat → Nat} {len : Nat} (hB : yBk B len) {K : Nat} (hk : ∀ i, i < K → yzd B len i ≠ 9) : ∀ i j, j < i → i ≤ K → yzt B len j < yzt B len i
  | i + 1, j, h, hi => by
    have tl := yzt_l hB i
    have tn := yzt_l hB (i + 1)
    have lt : yzt B len i < len := by
      rcases yzk_c B len (yzt B len i) with t | t | t | t | t | t | t
      · exact absurd t.2 (hk i (by omega))
      all_goals exact t.1
    have s := tl.2.2.2 lt
    by_cases e : j = i
    · rw [e]; omega
    · have := yz_st hB hk i j (by omega) (by omega)
      omega
theorem yz_g {B : Nat → Nat} {len : Nat} (hB : yBk B len) (j j' : Nat) (h : yzd B len j = 1) (h' : yzd B len j' = 1) : yzg B len j = yzg B len j' ↔ yznm B len j = yznm B len j' := by
  have n := yz_nm hB h
  have n' := yz_nm hB h'
  exact (y27_i _ _ n.1 n'.1).trans (y256_i _ _ n.1 n'.1).symm
theorem s_mRead {n : Nat} {N : yNW} {h : Nat} {H : Nat → yNW} {hd : Nat → Prop} {K : Nat → yNW} {m : xmm} (hc : yMM n N h H hd K m) (hKy : yKy m) {len : Nat} {bt : Nat → Int32} (hT : yTM len bt m) : ∃ m', fX12_read_144 m = some (nI (yaRd bt len), m') ∧ (yaRd bt len = 0 → yMM (yaN bt len) (yaR bt len, 0) 0 H (fun _ => False) K m') ∧ (yaRd bt len ≠ 0 → yMM n N h H hd K m') ∧ yTM 0 bt m' ∧ m'.1 144 16 = yaPl bt len ∧ yKy m' ∧ yHi m m' := by
  have hl := hT.2.1
  have hB := yzB_k (bt := bt) hl
  have kb9 : ∀ k, 1 ≤ (yzd (yzB bt len) len) k ∧ (yzd (yzB bt len) len) k ≤ 9 := fun k => yzk_b (yzB bt len) len ((yzt (yzB bt len) len) k)
  -- the text
  have f0 : yfm [146, 147, 148, 149, 150, 153, 154, 155] [2, 4, 10, 11, 12, 13, 14, 15, 16, 20] m (xwi m 144 4 (nI len)) := yfm_f yfm_r (by decide)
  obtain ⟨m1, a1, a2, a3⟩ := s_mcopy (bt := bt) hl len 0 (xwi m 144 4 (nI len)) (Nat.zero_add len) (xwi_e _ _ _ _) (fun j hj => by rw [xwi_k (by decide)]; exact hT.2.2 j hj) (fun j hj => absurd hj (Nat.not_lt_zero j))
  have f1 : yfm [146, 147, 148, 149, 150, 153, 154, 155] [2, 4, 10, 11, 12, 13, 14, 15, 16, 20] m m1 := yfm_t f0 (yfm_m (yfm_of (L := [146]) (J := []) a3 (by decide)) (by decide) (by decide))
  have f2' : yfm [] [2, 10] m1 (xwi (xwi m1 144 2 0) 144 10 (nI 0)) := yfm_f (yfm_f yfm_r (by decide)) (by decide)
  have f2 : yfm [146, 147, 148, 149, 150, 153, 154, 155] [2, 4, 10, 11, 12, 13, 14, 15, 16, 20] m (xwi (xwi m1 144 2 0) 144 10 (nI 0)) := yfm_t f1 (yfm_m f2' (by decide) (by decide))
  -- the tokens
  obtain ⟨m3, K', c1, c2, c3, c4, c5, c6, c7⟩ := s_cuts hB 401 0 (xwi (xwi m1 144 2 0) 144 10 (nI 0)) rfl (ySM_k a2 f2' (by decide) (by decide)) (fun k hk => by rw [yfr_2 f2.1 151 k (by decide)]; exact hKy k hk) ⟨xwi_e _ _ _ _, fun j hj => absurd hj (Nat.not_lt_zero j)⟩
  have f3 : yfm [146, 147, 148, 149, 150, 153, 154, 155] [2, 4, 10, 11, 12, 13, 14, 15, 16, 20] m m3 := yfm_t f2 (yfm_m c7 (by decide) (by decide))
  have f4' : yfm [] [11, 12, 14, 20] m3 (xwi (xwi (xwi (xwi m3 144 11 0) 144 12 0) 144 14 0) 144 20 0) := yfm_f (yfm_f (yfm_f (yfm_f yfm_r (by decide)) (by decide)) (by decide)) (by decide)
  have f4 : yfm [146, 147, 148, 149, 150, 153, 154, 155] [2, 4, 10, 11, 12, 13, 14, 15, 16, 20] m (xwi (xwi (xwi (xwi m3 144 11 0) 144 12 0) 144 14 0) 144 20 0) := yfm_t f3 (yfm_m f4' (by decide) (by decide))
  have hKs : ∀ k, k ≤ 400 → (∀ i, i < k → (yzd (yzB bt len) len) i ≠ 9) → k < K' := by
    intro k hk hi
    rcases c6 with e | ⟨j, j1, j2⟩
    · omega
    · rcases Nat.lt_or_ge j k with g | g
      · exact absurd j2 (hi j g)
      · omega
  -- the form
  obtain ⟨m5, d1, d2, d3⟩ := s_mform (st := (yzt (yzB bt len) len)) kb9 c4 hKs (m := xwi (xwi (xwi (xwi m3 144 11 0) 144 12 0) 144 14 0) 144 20 0) (fun j hj => by
    rw [yfm_1 f4' 147 j (by decide), yfm_1 f4' 148 j (by decide)]
    exact ⟨(c2.2 j hj).1, (c2.2 j hj).2.1⟩) ⟨by rw [xwi_i (by decide), xwi_i (by decide), xwi_i (by decide), xwi_e]; rfl, by rw [xwi_i (by decide), xwi_i (by decide), xwi_e]; rfl, by decide, fun i hi => absurd hi (Nat.not_lt_zero i)⟩ (xwi_e _ _ _ _)
  have f5 : yfm [146, 147, 148, 149, 150, 153, 154, 155] [2, 4, 10, 11, 12, 13, 14, 15, 16, 20] m m5 := yfm_t f4 (yfm_m d3 (by decide) (by decide))
  obtain ⟨m6, e1, e2, e3⟩ := s_mdraft 9 0 m5 rfl (fun a ha => absurd ha (Nat.not_lt_zero a))
  have f6' : yfm [153] [] m5 m6 := yfm_of e3 (by decide)
  have f6 : yfm [146, 147, 148, 149, 150, 153, 154, 155] [2, 4, 10, 11, 12, 13, 14, 15, 16, 20] m m6 := yfm_t f5 (yfm_m f6' (by decide) (by decide))
  have start : ∀ {z : Int32 × xmm}, bX12_read_144_142 (nI 9) m6 = some z → fX12_read_144 m = some z := by
    intro z hz
    apply fX12_read_144_i
    rw [hT.1, xlt_e]
    apply a1
    apply bX12_read_144_10_i
    have ct : fX12_cutsText_144 (xwi m1 144 2 0) = some m3 := by
      apply fX12_cutsText_144_i
      exact c1
    rw [a2.1, if_pos (nI_le (Nat.le_refl len) (by omega)), xlt_e, ct, Option.bind_some, xlt_e, xlt_e, xlt_e, xlt_e]
    exact d1 (e1 hz)
  have e12 : m6.1 144 12 = m5.1 144 12 := f6'.2 12 (by decide)
  have b2 : ∀ m' : xmm, yfm [146, 147, 148, 149, 150, 153, 154, 155] [2, 4, 10, 11, 12, 13, 14, 15, 16, 20] m m' → m'.1 144 2 = m6.1 144 2 → yTM 0 bt m' := fun m' _ h2 => ⟨by
    rw [h2, f6'.2 2 (by decide), d3.2 2 (by decide), f4'.2 2 (by decide), c7.2 2 (by decide), xwi_i (by decide), xwi_e]; rfl, by decide, fun i hi => absurd hi (Nat.not_lt_zero i)⟩
  have ky : ∀ m' : xmm, yfm [146, 147, 148, 149, 150, 153, 154, 155] [2, 4, 10, 11, 12, 13, 14, 15, 16, 20] m m' → yKy m' := fun m' f k hk => by rw [yfr_2 f.1 151 k (by decide)]; exact hKy k hk
  have hi' : ∀ m' : xmm, yfm [146, 147, 148, 149, 150, 153, 154, 155] [2, 4, 10, 11, 12, 13, 14, 15, 16, 20] m m' → yHi m m' := fun m' f => yHi_of f.1 (by decide)
  by_cases r0 : (yfo (yzd (yzB bt len) len) 401 0 0 0).1 = 0
  · obtain ⟨q, hS⟩ := yzS_of (kd := (yzd (yzB bt len) len)) kb9 r0
    have eq := yzq0_e hS
    have g12 : m6.1 144 12 = nI 0 := by rw [e12]; exact d2.1 r0
    have hS' := hS
    obtain ⟨⟨q1, q2, q3, q4⟩, ⟨kK, _, k0, kq⟩, names, kb, hd1, later⟩ := hS'
    have n9 : ∀ i, i < (yfo (yzd (yzB bt len) len) 401 0 0 0).2 → (yzd (yzB bt len) len) i ≠ 9 := fun i hi => by have := kb i hi; omega
    have KK : (yfo (yzd (yzB bt len) len) 401 0 0 0).2 + 1 = K' := c5 _ (Nat.zero_le _) (hKs _ q4 n9) kK
    have Y6 : yMY (yzd (yzB bt len) len) (yzt (yzB bt len) len) (yzvl (yzB bt len) len) (yzg (yzB bt len) len) (yfo (yzd (yzB bt len) len) 401 0 0 0).2 m6 := by
      refine ⟨?_, g12, fun j hj => ?_⟩
      · rw [f6'.2 10 (by decide), d3.2 10 (by decide), f4'.2 10 (by decide), KK]
        exact c2.1
      · have o := c2.2 j (by omega)
        rw [yfm_1 f6' 147 j (by decide), yfm_1 d3 147 j (by decide), yfm_1 f4' 147 j (by decide), yfm_1 f6' 148 j (by decide), yfm_1 d3 148 j (by decide), yfm_1 f4' 148 j (by decide), yfm_1 f6' 149 j (by decide), yfm_1 d3 149 j (by decide), yfm_1 f4' 149 j (by decide), yfr_2 f6'.1 150 j (by decide), yfr_2 d3.1 150 j (by decide), yfr_2 f4'.1 150 j (by decide)]
        exact o
    have g14 : m6.1 144 14 = nI 0 := by
      rw [f6'.2 14 (by decide), d3.2 14 (by decide), xwi_i (by decide), xwi_e]; rfl
    have sb : ∀ i, (yzt (yzB bt len) len) i ≤ 2000 := fun i => by have := (yzt_l hB i).2.1; omega
    obtain ⟨m7, h1, h2, h3, h4, h5⟩ := s_means hS (fun j i a b => yz_st hB n9 i j a b) sb (yz_vb hB) (fun j hj => by
      have n := yz_nm hB hj
      exact y27_8 n.1 n.2) (yz_g hB) Y6 g14 e2
    have f7 : yfm [146, 147, 148, 149, 150, 153, 154, 155] [2, 4, 10, 11, 12, 13, 14, 15, 16, 20] m m7 := yfm_t f6 (yfm_m h5 (by decide) (by decide))
    have g7 : m7.1 144 12 = nI 0 := by rw [h5.2 12 (by decide)]; exact g12
    have t2 : m7.1 144 2 = m6.1 144 2 := h5.2 2 (by decide)
    have st2 : ∀ {z : Int32 × xmm}, bX12_read_144_172 m7 = some z → fX12_read_144 m = some z := fun {z} hz => by
      apply start
      apply bX12_read_144_142_i
      have z12 : m6.1 144 12 = (0 : Int32) := g12
      rw [if_pos (by decide), if_pos z12, h1, Option.bind_some]
      exact hz
    have z7 : m7.1 144 12 ≤ (0 : Int32) := by rw [g7]; decide
    rcases h2 with ⟨v1, v2⟩ | ⟨j, v1, v2, v3, v4, v5⟩
    · have v2' := v2
      rw [← eq] at v2'
      have J := yzJ_0 v2'
      have F : yzF (yzd (yzB bt len) len) (yznm (yzB bt len) len) (yzvl (yzB bt len) len) = (0, 0) := by
        unfold yzF
        rw [yif_f (fun u => u r0), yif_f J]
      have R0 : yaRd bt len = 0 := by unfold yaRd; rw [F]
      have w7 : m7.1 144 14 ≤ (0 : Int32) := by rw [v1]; decide
      have f8' : yfm [] [16, 17] m7 (xwi (xwi m7 144 16 (-1)) 144 17 (nI (q - 1))) := yfm_f (yfm_f yfm_r (by decide)) (by decide)
      obtain ⟨m9, p1, p2, p3⟩ := s_copies (v := 153) (w := 152) rfl rfl rfl rfl (by decide) (xwi (xwi m7 144 16 (-1)) 144 17 (nI (q - 1)))
      obtain ⟨m10, s1, s2, s3⟩ := s_mfree 3 0 (xwi m9 144 25 0) rfl (fun a ha => absurd ha (Nat.not_lt_zero a))
      have f9 : yfm [152] [16, 17] m7 m9 := yfm_t (yfm_m f8' (by decide) (by decide)) (yfm_of (L := [152]) (J := [16, 17]) p3 (by decide))
      have f10 : yfm [152, 158] [16, 17, 25] m7 m10 := yfm_t (yfm_m f9 (by decide) (by decide)) (yfm_t (yfm_f yfm_r (by decide) : yfm [152, 158] [16, 17, 25] m9 (xwi m9 144 25 0)) (yfm_m (yfm_of (L := [158]) (J := []) s3 (by decide)) (by decide) (by decide)))
      have fa : yfm [146, 147, 148, 149, 150, 152, 153, 154, 155, 158] [2, 4, 10, 11, 12, 13, 14, 15, 16, 17, 20, 25] m m10 := yfm_t (yfm_m f7 (by decide) (by decide)) (yfm_m f10 (by decide) (by decide))
      have i17 : m10.1 144 17 = nI (q - 1) := by
        rw [yfr_1 s3 144 17 (by decide), xwi_i (by decide), yfr_1 p3 144 17 (by decide), xwi_e]
      have i16 : m10.1 144 16 = (-1 : Int32) := by
        rw [yfr_1 s3 144 16 (by decide), xwi_i (by decide), yfr_1 p3 144 16 (by decide), xwi_i (by decide), xwi_e]
      refine ⟨m10, ?_, fun _ => ⟨?_, fun r hr => ?_, ?_, fun i hi => ⟨?_, fun t => absurd t id⟩⟩, fun t => absurd R0 t, ⟨?_, by decide, fun i hi => absurd hi (Nat.not_lt_zero i)⟩, ?_, fun k hk => ?_, ?_⟩
      · apply st2
        apply bX12_read_144_172_i
        rw [if_pos z7, if_pos w7]
        apply bX12_read_144_202_i
        have x12 : (xwi m7 144 16 (-1)).1 144 12 ≤ (0 : Int32) := by rw [xwi_i (by decide)]; exact z7
        have x14 : (xwi m7 144 16 (-1)).1 144 14 ≤ (0 : Int32) := by rw [xwi_i (by decide)]; exact w7
        have x20 : (xwi m7 144 16 (-1)).1 144 20 = nI (q - 1) := by rw [xwi_i (by decide)]; exact h4
        rw [xlt_e, if_pos x12, if_pos x14, x20, xlt_e, p1, Option.bind_some, xlt_e, R0]
        exact s1
      · unfold yaN yzP
        rw [eq]; exact i17
      · have r9 : m10.1 152 (0 + r) = m7.1 153 r := by
          rw [Nat.zero_add, yfr_1 s3 152 r (by decide), xwi_k (by decide), p2 r hr, xwi_k (by decide), xwi_k (by decide)]
        rw [r9]
        unfold yNc
        by_cases g : r < 8
        · rw [if_pos g]
          show m7.1 153 r = nI (yaR bt len r)
          unfold yaR yzR yzP
          rw [eq]
          exact h3.1 v2 r g
        · rw [if_neg g, show r = 8 by omega]
          exact h3.2
      · obtain ⟨e, x1, x2, x3, x4, x5⟩ := hc.2.2.1
        refine ⟨e, x1, by decide, by rw [fa.2 24 (by decide)]; exact x3, ?_, fun i hi => absurd hi (Nat.not_lt_zero i)⟩
        rw [yfr_1 s3 144 25 (by decide), xwi_e]; rfl
      · rw [s2 i hi, yP_f id]; rfl
      · have : m10.1 144 2 = m7.1 144 2 := f10.2 2 (by decide)
        exact (b2 m7 f7 t2).1 ▸ this
      · unfold yaPl
        rw [if_pos R0]; exact i16
      · rw [yfr_2 fa.1 151 k (by decide)]; exact hKy k hk
      · exact yHi_of fa.1 (by decide)
    · have v2' := v2
      have v3' := v3
      rw [← eq] at v2' v3'
      have J := yzJ_f v1 v2' v3'
      have F : yzF (yzd (yzB bt len) len) (yznm (yzB bt len) len) (yzvl (yzB bt len) len) = (yzft (yzd (yzB bt len) len) (yznm (yzB bt len) len) (yzvl (yzB bt len) len) (q - 1) j, j) := by
        unfold yzF
        rw [yif_f (fun u => u r0), J, yif_t v1, eq]
      have R0 : yaRd bt len = yzft (yzd (yzB bt len) len) (yznm (yzB bt len) len) (yzvl (yzB bt len) len) (q - 1) j := by unfold yaRd; rw [F]
      have fb := yzft_b (yzd (yzB bt len) len) (yznm (yzB bt len) len) (yzvl (yzB bt len) len) (q - 1) j
      have w7 : ¬ m7.1 144 14 ≤ (0 : Int32) := by rw [v4]; exact nI_nle (by omega) (by omega)
      have f8 : yfm [146, 147, 148, 149, 150, 153, 154, 155] [2, 4, 10, 11, 12, 13, 14, 15, 16, 20] m (xwi m7 144 16 (m7.1 144 15)) := yfm_f f7 (by decide)
      refine ⟨xwi m7 144 16 (m7.1 144 15), ?_, fun t => absurd (R0.symm.trans t) v2, fun _ => yMM_g hc f8 (by decide) (by decide) (by decide) (by decide) (by decide) (by decide) (by decide), b2 _ f8 (by rw [xwi_i (by decide)]; exact t2), ?_, ky _ f8, hi' _ f8⟩
      · apply st2
        apply bX12_read_144_172_i
        rw [if_pos z7, if_neg w7]
        apply bX12_read_144_202_i
        have x12 : (xwi m7 144 16 (m7.1 144 15)).1 144 12 ≤ (0 : Int32) := by rw [xwi_i (by decide)]; exact z7
        have x14 : (xwi m7 144 16 (m7.1 144 15)).1 144 14 = m7.1 144 14 := xwi_i (by decide)
        rw [xlt_e, if_pos x12, x14, if_neg w7, R0, v4]
      · unfold yaPl
        rw [if_neg (by rw [R0]; exact v2), xwi_e, F, v5]
  · have rb := yfo_b (yzd (yzB bt len) len) 401 0 0 0
    obtain ⟨g1, g2, g3, g4⟩ := d2.2 r0
    have g12 : m6.1 144 12 = nI (yfo (yzd (yzB bt len) len) 401 0 0 0).1 := by rw [e12]; exact g1
    have g13 : m6.1 144 13 = nI ((yzt (yzB bt len) len) (yfo (yzd (yzB bt len) len) 401 0 0 0).2) := by rw [f6'.2 13 (by decide)]; exact g4
    have F : yzF (yzd (yzB bt len) len) (yznm (yzB bt len) len) (yzvl (yzB bt len) len) = yfo (yzd (yzB bt len) len) 401 0 0 0 := yif_t r0
    have R0 : yaRd bt len = (yfo (yzd (yzB bt len) len) 401 0 0 0).1 := by unfold yaRd; rw [F]
    have n0 : ¬ m6.1 144 12 = (0 : Int32) := by rw [g12]; exact nI_ne0 (by omega) (by omega)
    have n1 : ¬ m6.1 144 12 ≤ (0 : Int32) := by rw [g12]; exact nI_nle (by omega) (by omega)
    have f8 : yfm [146, 147, 148, 149, 150, 153, 154, 155] [2, 4, 10, 11, 12, 13, 14, 15, 16, 20] m (xwi m6 144 16 (m6.1 144 13)) := yfm_f f6 (by decide)
    refine ⟨xwi m6 144 16 (m6.1 144 13), ?_, fun t => absurd (R0.symm.trans t) r0, fun _ => yMM_g hc f8 (by decide) (by decide) (by decide) (by decide) (by decide) (by decide) (by decide), b2 _ f8 (xwi_i (by decide)), ?_, ky _ f8, hi' _ f8⟩
    · apply start
      apply bX12_read_144_142_i
      rw [if_pos (by decide), if_neg n0]
      apply bX12_read_144_172_i
      rw [if_neg n1]
      apply bX12_read_144_202_i
      have x12 : (xwi m6 144 16 (m6.1 144 13)).1 144 12 = m6.1 144 12 := xwi_i (by decide)
      rw [xlt_e, x12, if_neg n1, R0, g12]
    · unfold yaPl
      rw [if_neg (by rw [R0]; exact r0), xwi_e, F, g13]
