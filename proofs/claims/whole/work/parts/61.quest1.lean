/-! the QUESTIONS: first part -/
def yCA (n : Nat) (N : yNW) (h : Nat) (H : Nat → yNW) (hd : Nat → Prop) (K : Nat → yNW) (r : Int32) (o : Option (Int32 × xmm)) (m : xmm) : Prop := ∃ m', o = some (r, m') ∧ yCI n N h H hd K m' ∧ yCk m m'
def yMA (n : Nat) (N : yNW) (h : Nat) (H : Nat → yNW) (hd : Nat → Prop) (K : Nat → yNW) (r : Int32) (o : Option (Int32 × xmm)) (m : xmm) : Prop := ∃ m', o = some (r, m') ∧ yMM n N h H hd K m' ∧ yMk m m'
theorem yn10 : ¬ (1 : Int32) = 0 := by decide
theorem yxi {n a : Nat} {x : Int32} (hn : n ≤ 8) (ha : a < n) (e : x = nI a) : x.toNatClampNeg = a := by rw [e]; exact nI_clamp (by omega)
theorem s_cArr {n : Nat} {N : yNW} {h : Nat} {H : Nat → yNW} {hd : Nat → Prop} {K : Nat → yNW} {m : xmm} (hc : yCI n N h H hd K m) : ∃ m', fX11_study_0 m = some m' ∧ fX1_isOrdered_97 m' = some (yP (yord (yad N.1)), m') ∧ yKc n N m' ∧ yCI n N h H hd K m' ∧ yCk m m' := by
  obtain ⟨m', a1, a2, a3, a4⟩ := s_study hc
  exact ⟨m', a1, s_isOrdered_97 (yGr_gd hc.1.1) a3.2.1, a3, a2, a4⟩
theorem s_mArr {n : Nat} {N : yNW} {h : Nat} {H : Nat → yNW} {hd : Nat → Prop} {K : Nat → yNW} {m : xmm} (hG : yNv n N) (hc : yMM n N h H hd K m) : ∃ m', fX12_isArrowed_144 m = some (yP (yord (yad N.1)), m') ∧ (yord (yad N.1) → yML n (yT N.1 N.2) m' ∧ yMI N.1 N.2 (yN N.1 N.2) m') ∧ yMM n N h H hd K m' ∧ yMk m m' := by
  obtain ⟨⟨k1, k2⟩, k3⟩ := yMM_n hc
  obtain ⟨m', a1, a2, a3⟩ := s_isArrowed hG.1 hG.2 k2 k3
  have mm := yMM_f hc a3 (by decide) (by decide)
  exact ⟨m', a1, fun ho => ⟨⟨mm.1, (a2 ho).1.2.1, (a2 ho).2⟩, a2 ho⟩, mm, yMk_f a3 (by decide) (by decide)⟩
theorem s_mOrd {n : Nat} {N : yNW} {h : Nat} {H : Nat → yNW} {hd : Nat → Prop} {K : Nat → yNW} {m : xmm} (hG : yNv n N) (hc : yMM n N h H hd K m) : ∃ m', fX12_isOrdered_144 152 m = some (yP (yord (yad N.1)), m') ∧ yMM n N h H hd K m' ∧ yMk m m' := by
  obtain ⟨⟨k1, k2⟩, k3⟩ := yMM_n hc
  obtain ⟨m', a1, a2⟩ := s_misOrdered (yGr_gd hG.1) (v := 152) rfl rfl (by decide) k2
  exact ⟨m', a1, yMM_f hc a2 (by decide) (by decide), yMk_f a2 (by decide) (by decide)⟩
theorem s_PPc {n : Nat} (hn : n ≤ 8) {m : xmm} (hN : m.1 10 0 = nI n) {x : Int32} (hx : yIsP n x) : fX3_hasPost 10 x m = some (1, m) := by rw [s_hasPost ynet10 hn x hN, yP_t hx]
theorem s_PPn {n : Nat} (hn : n ≤ 8) {m : xmm} (hN : m.1 10 0 = nI n) {x : Int32} (hx : ¬ yIsP n x) : fX3_hasPost 10 x m = some (0, m) := by rw [s_hasPost ynet10 hn x hN, yP_f hx]
theorem s_MPc {n : Nat} (hn : n ≤ 8) {m : xmm} (hN : m.1 144 17 = nI n) {x : Int32} (hx : yIsP n x) : fX12_isPost_144 x m = some (1, m) := by rw [s_isPost hn x hN, yP_t hx]
theorem s_MPn {n : Nat} (hn : n ≤ 8) {m : xmm} (hN : m.1 144 17 = nI n) {x : Int32} (hx : ¬ yIsP n x) : fX12_isPost_144 x m = some (0, m) := by rw [s_isPost hn x hN, yP_f hx]
/-! near -/
noncomputable def yaNear (n : Nat) (N : yNW) (x : Int32) : Int32 := yif (yIsP n x) (nI (N.1 x.toNatClampNeg)) (-1)
theorem s_cNear {n : Nat} {N : yNW} {h : Nat} {H : Nat → yNW} {hd : Nat → Prop} {K : Nat → yNW} {m : xmm} (hc : yCI n N h H hd K m) (x : Int32) : yCA n N h H hd K (yaNear n N x) (fX11_near_0 x m) m := by
  have hn := hc.1.1.1
  refine ⟨m, ?_, hc, yCk_r m⟩
  apply fX11_near_0_i
  unfold yaNear
  by_cases hx : yIsP n x
  · obtain ⟨a, ha, ex⟩ := hx
    rw [s_PPc hn hc.2.1.1 ⟨a, ha, ex⟩, Option.bind_some, if_neg yn10, yif_t ⟨a, ha, ex⟩, yxi hn ha ex, ex, s_rowOf ynet10 hn ha hc.2.1.1 hc.2.1.2.2]
    rfl
  · rw [s_PPn hn hc.2.1.1 hx, Option.bind_some, if_pos rfl, yif_f hx]
theorem s_mNear {n : Nat} {N : yNW} {h : Nat} {H : Nat → yNW} {hd : Nat → Prop} {K : Nat → yNW} {m : xmm} (hG : yNv n N) (hc : yMM n N h H hd K m) (x : Int32) : yMA n N h H hd K (yaNear n N x) (fX12_near_144 x m) m := by
  have hn := hG.1.1
  refine ⟨m, ?_, hc, yMk_r m⟩
  apply fX12_near_144_i
  unfold yaNear
  by_cases hx : yIsP n x
  · obtain ⟨a, ha, ex⟩ := hx
    rw [s_MPc hn hc.1 ⟨a, ha, ex⟩, Option.bind_some, if_neg yn10, yif_t ⟨a, ha, ex⟩, yxi hn ha ex, ex, xinb_t (by omega) (by decide)]
    dsimp only
    rw [(yMM_n hc).1.2 a (by omega)]
    rfl
  · rw [s_MPn hn hc.1 hx, Option.bind_some, if_pos rfl, yif_f hx]
/-! far -/
noncomputable def yaFar (n : Nat) (N : yNW) (x y : Int32) : Int32 := yif (yIsP n x ∧ yIsP n y) (yfd N.1 x.toNatClampNeg y.toNatClampNeg) (-1)
theorem s_cFar {n : Nat} {N : yNW} {h : Nat} {H : Nat → yNW} {hd : Nat → Prop} {K : Nat → yNW} {m : xmm} (hc : yCI n N h H hd K m) (x y : Int32) : yCA n N h H hd K (yaFar n N x y) (fX11_far_0 x y m) m := by
  have hn := hc.1.1.1
  refine ⟨m, ?_, hc, yCk_r m⟩
  apply fX11_far_0_i
  unfold yaFar
  by_cases hx : yIsP n x
  · by_cases hy : yIsP n y
    · obtain ⟨a, ha, ex⟩ := hx
      obtain ⟨b, hb, ey⟩ := hy
      have w := s_far_l (R := N.1) (m := m) ⟨rfl, rfl, hc.2.1.2.2, fun p _ => yGr_8 hc.1.1 p⟩ (show a < 8 by omega) (show b < 8 by omega) 8 0 rfl (fun j hj => absurd hj (Nat.not_lt_zero j))
      rw [s_PPc hn hc.2.1.1 ⟨a, ha, ex⟩, Option.bind_some, if_neg yn10, s_PPc hn hc.2.1.1 ⟨b, hb, ey⟩, Option.bind_some, if_neg yn10, yif_t ⟨⟨a, ha, ex⟩, ⟨b, hb, ey⟩⟩, yxi hn ha ex, yxi hn hb ey, ex, ey, yI_1shl (by omega)]
      exact w
    · rw [s_PPc hn hc.2.1.1 hx, Option.bind_some, if_neg yn10, s_PPn hn hc.2.1.1 hy, Option.bind_some, if_pos rfl, yif_f (fun t => hy t.2)]
  · rw [s_PPn hn hc.2.1.1 hx, Option.bind_some, if_pos rfl, yif_f (fun t => hx t.1)]
theorem s_mFar {n : Nat} {N : yNW} {h : Nat} {H : Nat → yNW} {hd : Nat → Prop} {K : Nat → yNW} {m : xmm} (hG : yNv n N) (hc : yMM n N h H hd K m) (x y : Int32) : yMA n N h H hd K (yaFar n N x y) (fX12_far_144 x y m) m := by
  have hn := hG.1.1
  unfold yaFar
  by_cases hx : yIsP n x
  · by_cases hy : yIsP n y
    · obtain ⟨a, ha, ex⟩ := hx
      obtain ⟨b, hb, ey⟩ := hy
      obtain ⟨m', a1, a2, a3⟩ := s_laysFar hG.1 ha (yMM_n hc).1
      refine ⟨m', ?_, yMM_r hc a3 (by decide), yMk_of a3 (by decide)⟩
      apply fX12_far_144_i
      rw [s_MPc hn hc.1 ⟨a, ha, ex⟩, Option.bind_some, if_neg yn10, s_MPc hn hc.1 ⟨b, hb, ey⟩, Option.bind_some, if_neg yn10, yif_t ⟨⟨a, ha, ex⟩, ⟨b, hb, ey⟩⟩, yxi hn ha ex, yxi hn hb ey, ex, ey, a1, Option.bind_some, xinb_t (by omega) (by decide), a2 b (by omega)]
      rfl
    · refine ⟨m, ?_, hc, yMk_r m⟩
      apply fX12_far_144_i
      rw [s_MPc hn hc.1 hx, Option.bind_some, if_neg yn10, s_MPn hn hc.1 hy, Option.bind_some, if_pos rfl, yif_f (fun t => hy t.2)]
  · refine ⟨m, ?_, hc, yMk_r m⟩
    apply fX12_far_144_i
    rw [s_MPn hn hc.1 hx, Option.bind_some, if_pos rfl, yif_f (fun t => hx t.1)]
/-! under -/
noncomputable def yaUnder (n : Nat) (N : yNW) (x y : Int32) : Int32 := yif (yIsP n x ∧ yIsP n y) (yif (yord (yad N.1)) (yP (yT N.1 N.2 x.toNatClampNeg y.toNatClampNeg)) (-2)) (-1)
theorem s_cUnder {n : Nat} {N : yNW} {h : Nat} {H : Nat → yNW} {hd : Nat → Prop} {K : Nat → yNW} {m : xmm} (hc : yCI n N h H hd K m) (x y : Int32) : yCA n N h H hd K (yaUnder n N x y) (fX11_under_0 x y m) m := by
  have hn := hc.1.1.1
  unfold yaUnder
  by_cases hx : yIsP n x
  · by_cases hy : yIsP n y
    · obtain ⟨a, ha, ex⟩ := hx
      obtain ⟨b, hb, ey⟩ := hy
      obtain ⟨m', a1, a2, a3, a4, a5⟩ := s_cArr hc
      refine ⟨m', ?_, a4, a5⟩
      apply fX11_under_0_i
      rw [s_PPc hn hc.2.1.1 ⟨a, ha, ex⟩, Option.bind_some, if_neg yn10, s_PPc hn hc.2.1.1 ⟨b, hb, ey⟩, Option.bind_some, if_neg yn10, yif_t ⟨⟨a, ha, ex⟩, ⟨b, hb, ey⟩⟩, yxi hn ha ex, yxi hn hb ey, ex, ey, a1, Option.bind_some, a2, Option.bind_some]
      by_cases ho : yord (yad N.1)
      · rw [yP_t ho, if_neg yn10, yif_t ho, s_isUnder (yT_po hc.1.1 ho N.2) hn (a3.2.2.2.1 ho).2.1 (by omega) (by omega), Option.bind_some, s_bit]
        rfl
      · rw [yP_f ho, if_pos rfl, yif_f ho]
    · refine ⟨m, ?_, hc, yCk_r m⟩
      apply fX11_under_0_i
      rw [s_PPc hn hc.2.1.1 hx, Option.bind_some, if_neg yn10, s_PPn hn hc.2.1.1 hy, Option.bind_some, if_pos rfl, yif_f (fun t => hy t.2)]
  · refine ⟨m, ?_, hc, yCk_r m⟩
    apply fX11_under_0_i
    rw [s_PPn hn hc.2.1.1 hx, Option.bind_some, if_pos rfl, yif_f (fun t => hx t.1)]
theorem yif01 {p : Prop} (m : xmm) : (if yP p = 0 then some ((0 : Int32), m) else some ((1 : Int32), m)) = some (yP p, m) := by
  by_cases t : p
  · rw [yP_t t, if_neg yn10]
  · rw [yP_f t, if_pos rfl]
theorem yro8 {T : yG} {p : Nat} : yro T p < 256 := ybs_lt _ 8
theorem s_mUnder {n : Nat} {N : yNW} {h : Nat} {H : Nat → yNW} {hd : Nat → Prop} {K : Nat → yNW} {m : xmm} (hG : yNv n N) (hc : yMM n N h H hd K m) (x y : Int32) : yMA n N h H hd K (yaUnder n N x y) (fX12_under_144 x y m) m := by
  have hn := hG.1.1
  unfold yaUnder
  by_cases hx : yIsP n x
  · by_cases hy : yIsP n y
    · obtain ⟨a, ha, ex⟩ := hx
      obtain ⟨b, hb, ey⟩ := hy
      obtain ⟨m', a1, a2, a3, a4⟩ := s_mArr hG hc
      refine ⟨m', ?_, a3, a4⟩
      apply fX12_under_144_i
      rw [s_MPc hn hc.1 ⟨a, ha, ex⟩, Option.bind_some, if_neg yn10, s_MPc hn hc.1 ⟨b, hb, ey⟩, Option.bind_some, if_neg yn10, yif_t ⟨⟨a, ha, ex⟩, ⟨b, hb, ey⟩⟩, yxi hn ha ex, yxi hn hb ey, ex, ey, a1, Option.bind_some]
      by_cases ho : yord (yad N.1)
      · have r8 := yro8 (T := yT N.1 N.2) (p := a)
        rw [yP_t ho, if_neg yn10, yif_t ho, xinb_t (by omega) (by decide)]
        dsimp only
        rw [(a2 ho).1.2.1 a (by omega), s_has (by omega) (by omega), xgd_t, Option.bind_some]
        rw [yif01]
        exact yPm (yro_b (yT_po hG.1 ho N.2) hn) m'
      · rw [yP_f ho, if_pos rfl, yif_f ho]
    · refine ⟨m, ?_, hc, yMk_r m⟩
      apply fX12_under_144_i
      rw [s_MPc hn hc.1 hx, Option.bind_some, if_neg yn10, s_MPn hn hc.1 hy, Option.bind_some, if_pos rfl, yif_f (fun t => hy t.2)]
  · refine ⟨m, ?_, hc, yMk_r m⟩
    apply fX12_under_144_i
    rw [s_MPn hn hc.1 hx, Option.bind_some, if_pos rfl, yif_f (fun t => hx t.1)]
/-! straight -/
noncomputable def yaStr (n : Nat) (N : yNW) (x y : Int32) : Int32 := yif (¬ x < 0 ∧ yIsP n y) (yif (yord (yad N.1)) (yif (x.toNatClampNeg < yW n (yT N.1 N.2) 0) (nI (ypk n (yT N.1 N.2) x.toNatClampNeg y.toNatClampNeg)) (-1)) (-2)) (-1)
theorem s_cStr {n : Nat} {N : yNW} {h : Nat} {H : Nat → yNW} {hd : Nat → Prop} {K : Nat → yNW} {m : xmm} (hc : yCI n N h H hd K m) (x y : Int32) : yCA n N h H hd K (yaStr n N x y) (fX11_straight_0 x y m) m := by
  have hn := hc.1.1.1
  unfold yaStr
  by_cases hx : x < 0
  · refine ⟨m, ?_, hc, yCk_r m⟩
    apply fX11_straight_0_i
    rw [if_pos hx, yif_f (fun t => t.1 hx)]
  · obtain ⟨i, hi, ex⟩ := nI_of hx
    by_cases hy : yIsP n y
    · obtain ⟨b, hb, ey⟩ := hy
      obtain ⟨m', a1, a2, a3, a4, a5⟩ := s_cArr hc
      refine ⟨m', ?_, a4, a5⟩
      apply fX11_straight_0_i
      rw [if_neg hx, s_PPc hn hc.2.1.1 ⟨b, hb, ey⟩, Option.bind_some, if_neg yn10, yif_t ⟨hx, ⟨b, hb, ey⟩⟩, yxi hn hb ey, ex, nI_clamp hi, ey, a1, Option.bind_some, a2, Option.bind_some]
      by_cases ho : yord (yad N.1)
      · rw [yP_t ho, if_neg yn10, yif_t ho, s_straightAt (yT_po hc.1.1 ho N.2) hn (a3.2.2.2.1 ho).2 hi hb]
        rfl
      · rw [yP_f ho, if_pos rfl, yif_f ho]
    · refine ⟨m, ?_, hc, yCk_r m⟩
      apply fX11_straight_0_i
      rw [if_neg hx, s_PPn hn hc.2.1.1 hy, Option.bind_some, if_pos rfl, yif_f (fun t => hy t.2)]
theorem yML_r2 {n : Nat} {T : yG} {L : List Nat} {m m' : xmm} (h : yML n T m) (hf : yfr L m m') (h1 : 144 ∉ L) (h2 : 164 ∉ L) (h3 : 165 ∉ L) : yML n T m' := ⟨by rw [yfr_1 hf 144 17 h1]; exact h.1, yrw_r h.2.1 hf h2, yrw_r h.2.2 hf h3⟩
theorem s_mStr {n : Nat} {N : yNW} {h : Nat} {H : Nat → yNW} {hd : Nat → Prop} {K : Nat → yNW} {m : xmm} (hG : yNv n N) (hc : yMM n N h H hd K m) (x y : Int32) : yMA n N h H hd K (yaStr n N x y) (fX12_straight_144 x y m) m := by
  have hn := hG.1.1
  unfold yaStr
  by_cases hx : x < 0
  · refine ⟨m, ?_, hc, yMk_r m⟩
    apply fX12_straight_144_i
    rw [if_pos hx, yif_f (fun t => t.1 hx)]
  · obtain ⟨i, hi, ex⟩ := nI_of hx
    by_cases hy : yIsP n y
    · obtain ⟨b, hb, ey⟩ := hy
      obtain ⟨m', a1, a2, a3, a4⟩ := s_mArr hG hc
      by_cases ho : yord (yad N.1)
      · have hT := yT_po hG.1 ho N.2
        obtain ⟨m2, b1, b2⟩ := s_mst hT hn (a2 ho).1
        have wl := yW_le hn (yT N.1 N.2) 0
        by_cases hl : i < yW n (yT N.1 N.2) 0
        · have q0 : yq n (yT N.1 N.2) i 0 = (0, i) := rfl
          obtain ⟨m3, c1, c2⟩ := s_ms_48 hT hn hl hb b 0 (Nat.zero_add b) (-1) m2 (yML_r2 (a2 ho).1 b2 (by decide) (by decide) (by decide))
          rw [q0] at c1
          refine ⟨m3, ?_, yMM_r (yMM_r a3 b2 (by decide)) c2 (by decide), yMk_t a4 (yMk_t (yMk_of b2 (by decide)) (yMk_of c2 (by decide)))⟩
          apply fX12_straight_144_i
          have lt : nI i < nI (yW n (yT N.1 N.2) 0) := (nI_ltI hi (by omega)).mpr hl
          rw [if_neg hx, s_MPc hn hc.1 ⟨b, hb, ey⟩, Option.bind_some, if_neg yn10, yif_t ⟨hx, ⟨b, hb, ey⟩⟩, yxi hn hb ey, ex, nI_clamp hi, ey, a1, Option.bind_some, yP_t ho, if_neg yn10, yif_t ho, yif_t hl, b1, Option.bind_some, if_pos lt]
          exact c1
        · refine ⟨m2, ?_, yMM_r a3 b2 (by decide), yMk_t a4 (yMk_of b2 (by decide))⟩
          apply fX12_straight_144_i
          have lt : ¬ nI i < nI (yW n (yT N.1 N.2) 0) := fun t => hl ((nI_ltI hi (by omega)).mp t)
          rw [if_neg hx, s_MPc hn hc.1 ⟨b, hb, ey⟩, Option.bind_some, if_neg yn10, yif_t ⟨hx, ⟨b, hb, ey⟩⟩, yxi hn hb ey, ex, nI_clamp hi, a1, Option.bind_some, yP_t ho, if_neg yn10, yif_t ho, yif_f hl, b1, Option.bind_some, if_neg lt]
      · refine ⟨m', ?_, a3, a4⟩
        apply fX12_straight_144_i
        rw [if_neg hx, s_MPc hn hc.1 ⟨b, hb, ey⟩, Option.bind_some, if_neg yn10, yif_t ⟨hx, ⟨b, hb, ey⟩⟩, a1, Option.bind_some, yP_f ho, if_pos rfl, yif_f ho]
    · refine ⟨m, ?_, hc, yMk_r m⟩
      apply fX12_straight_144_i
      rw [if_neg hx, s_MPn hn hc.1 hy, Option.bind_some, if_pos rfl, yif_f (fun t => hy t.2)]
/-! chain -/
noncomputable def yaChain (n : Nat) (N : yNW) (x : Int32) : Int32 := yif (yIsP n x) (yif (yord (yad N.1)) (nI (ycq N.1 n x.toNatClampNeg)) (-2)) (-1)
theorem s_cChain {n : Nat} {N : yNW} {h : Nat} {H : Nat → yNW} {hd : Nat → Prop} {K : Nat → yNW} {m : xmm} (hc : yCI n N h H hd K m) (x : Int32) : yCA n N h H hd K (yaChain n N x) (fX11_chain_0 x m) m := by
  have hn := hc.1.1.1
  unfold yaChain
  by_cases hx : yIsP n x
  · obtain ⟨a, ha, ex⟩ := hx
    obtain ⟨m', a1, a2, a3, a4, a5⟩ := s_cArr hc
    by_cases ho : yord (yad N.1)
    · obtain ⟨m2, b1, b2, b3⟩ := s_share hc.1.1 a4.2.1.2.2 a4.2.1.1
      refine ⟨m2, ?_, yCI_r a4 (yfr_m b3 (by decide)), yCk_t a5 (yCk_of b3 (by decide))⟩
      apply fX11_chain_0_i
      have go : fX10_groupOf_132 (nI a) m2 = some (nI (ycq N.1 n a), m2) := by
        apply fX10_groupOf_132_i
        rw [xinb_t (by omega) (by decide), nI_clamp (by omega), b2 a ha]
        rfl
      rw [s_PPc hn hc.2.1.1 ⟨a, ha, ex⟩, Option.bind_some, if_neg yn10, yif_t ⟨a, ha, ex⟩, yxi hn ha ex, ex, a1, Option.bind_some, a2, Option.bind_some, yP_t ho, if_neg yn10, yif_t ho, b1, Option.bind_some, go]
      rfl
    · refine ⟨m', ?_, a4, a5⟩
      apply fX11_chain_0_i
      rw [s_PPc hn hc.2.1.1 ⟨a, ha, ex⟩, Option.bind_some, if_neg yn10, yif_t ⟨a, ha, ex⟩, a1, Option.bind_some, a2, Option.bind_some, yP_f ho, if_pos rfl, yif_f ho]
  · refine ⟨m, ?_, hc, yCk_r m⟩
    apply fX11_chain_0_i
    rw [s_PPn hn hc.2.1.1 hx, Option.bind_some, if_pos rfl, yif_f hx]
theorem s_mChainQ {n : Nat} {N : yNW} {h : Nat} {H : Nat → yNW} {hd : Nat → Prop} {K : Nat → yNW} {m : xmm} (hG : yNv n N) (hc : yMM n N h H hd K m) (x : Int32) : yMA n N h H hd K (yaChain n N x) (fX12_chain_144 x m) m := by
  have hn := hG.1.1
  unfold yaChain
  by_cases hx : yIsP n x
  · obtain ⟨a, ha, ex⟩ := hx
    obtain ⟨m', a1, a3, a4⟩ := s_mOrd hG hc
    by_cases ho : yord (yad N.1)
    · obtain ⟨m2, b1, b2⟩ := s_mFewest hG.1 (yMM_n a3).1
      have mm2 := yMM_r a3 b2 (by decide)
      obtain ⟨m3, c1, c2, c3⟩ := s_mlc hG.1 (yMM_n mm2).1
      refine ⟨m3, ?_, yMM_r mm2 c3 (by decide), yMk_t a4 (yMk_t (yMk_of b2 (by decide)) (yMk_of c3 (by decide)))⟩
      apply fX12_chain_144_i
      rw [s_MPc hn hc.1 ⟨a, ha, ex⟩, Option.bind_some, if_neg yn10, yif_t ⟨a, ha, ex⟩, yxi hn ha ex, ex, a1, Option.bind_some, yP_t ho, if_neg yn10, yif_t ho, b1, Option.bind_some, c1, Option.bind_some, xinb_t (by omega) (by decide), c2 a ha]
      rfl
    · refine ⟨m', ?_, a3, a4⟩
      apply fX12_chain_144_i
      rw [s_MPc hn hc.1 ⟨a, ha, ex⟩, Option.bind_some, if_neg yn10, yif_t ⟨a, ha, ex⟩, a1, Option.bind_some, yP_f ho, if_pos rfl, yif_f ho]
  · refine ⟨m, ?_, hc, yMk_r m⟩
    apply fX12_chain_144_i
    rw [s_MPn hn hc.1 hx, Option.bind_some, if_pos rfl, yif_f hx]
/-! colours -/
def yIn9 (x : Int32) : Prop := ∃ k, k < 10 ∧ x = nI k
theorem s_in9c (x : Int32) : x < 0 ∨ (∃ i, i < 10 ∧ x = nI i) ∨ ∃ p, 10 ≤ p ∧ p < 2 ^ 31 ∧ x = nI p := by
  by_cases h : x < 0
  · exact Or.inl h
  · obtain ⟨p, p1, p2⟩ := nI_of h
    by_cases hp : p < 10
    · exact Or.inr (Or.inl ⟨p, hp, p2⟩)
    · exact Or.inr (Or.inr ⟨p, by omega, p1, p2⟩)
theorem s_in9 (x : Int32) (m : xmm) : fX12_in x (0 : Int32) (9 : Int32) m = some (yP (yIn9 x), m) := by
  have e2 : (9 : Int32) = nI 9 := rfl
  apply fX12_in_i
  rcases s_in9c x with hx | ⟨i, hi, hx⟩ | ⟨p, p1, p2, hx⟩
  · rw [if_pos hx, yP_f]
    rintro ⟨i, i1, i2⟩
    rw [i2] at hx; exact nI_pos (by omega) hx
  · have lt : ¬ (9 : Int32) < x := by rw [hx, e2, nI_ltI (by omega) (by omega)]; omega
    rw [if_neg (by rw [hx]; exact nI_pos (by omega)), if_neg lt, yP_t ⟨i, hi, hx⟩]
  · have lt : (9 : Int32) < x := by rw [hx, e2, nI_ltI (by omega) (by omega)]; omega
    rw [if_neg (by rw [hx]; exact nI_pos p2), if_pos lt, yP_f]
    rintro ⟨i, i1, i2⟩
    rw [hx] at i2; have := (nI_eq p2 (by omega)).mp i2; omega
noncomputable def yaCol (n : Nat) (N : yNW) (x : Int32) : Int32 := yif (yIn9 x) (nI (yck N.1 x.toNatClampNeg (2 ^ n - 1))) (-1)
theorem s_cColQ {n : Nat} {N : yNW} {h : Nat} {H : Nat → yNW} {hd : Nat → Prop} {K : Nat → yNW} {m : xmm} (hc : yCI n N h H hd K m) (x : Int32) : yCA n N h H hd K (yaCol n N x) (fX11_colours_0 x m) m := by
  have e2 : (9 : Int32) = nI 9 := rfl
  unfold yaCol
  rcases s_in9c x with hx | ⟨i, hi, hx⟩ | ⟨p, p1, p2, hx⟩
  · have no : ¬ yIn9 x := fun ⟨i, i1, i2⟩ => by rw [i2] at hx; exact nI_pos (by omega) hx
    refine ⟨m, ?_, hc, yCk_r m⟩
    apply fX11_colours_0_i
    rw [if_pos hx, yif_f no]
  · obtain ⟨m', a1, a2⟩ := s_cCol hc.1.1 hi hc.2.1.2.2 hc.2.1.1
    refine ⟨m', ?_, yCI_r hc (yfr_m a2 (by decide)), yCk_of a2 (by decide)⟩
    apply fX11_colours_0_i
    have le : nI i ≤ (9 : Int32) := by rw [e2, nI_leI (by omega) (by omega)]; omega
    rw [yif_t ⟨i, hi, hx⟩, hx, if_neg (nI_pos (by omega)), if_pos le, a1, nI_clamp (by omega)]
    rfl
  · have no : ¬ yIn9 x := fun ⟨i, i1, i2⟩ => by rw [hx] at i2; have := (nI_eq p2 (by omega)).mp i2; omega
    refine ⟨m, ?_, hc, yCk_r m⟩
    apply fX11_colours_0_i
    have le : ¬ x ≤ (9 : Int32) := by rw [hx, e2, nI_leI (by omega) (by omega)]; omega
    rw [yif_f no, if_neg (by rw [hx]; exact nI_pos p2), if_neg le]
theorem s_mColQ {n : Nat} {N : yNW} {h : Nat} {H : Nat → yNW} {hd : Nat → Prop} {K : Nat → yNW} {m : xmm} (hG : yNv n N) (hc : yMM n N h H hd K m) (x : Int32) : yMA n N h H hd K (yaCol n N x) (fX12_colours_144 x m) m := by
  unfold yaCol
  by_cases hx : yIn9 x
  · obtain ⟨i, hi, ex⟩ := hx
    obtain ⟨m', a1, a2⟩ := s_mCol hG.1 hi (yMM_n hc).1
    refine ⟨m', ?_, yMM_r hc a2 (by decide), yMk_of a2 (by decide)⟩
    apply fX12_colours_144_i
    rw [s_in9, yP_t ⟨i, hi, ex⟩, Option.bind_some, if_neg yn10, yif_t ⟨i, hi, ex⟩, ex, nI_clamp (by omega)]
    exact a1
  · refine ⟨m, ?_, hc, yMk_r m⟩
    apply fX12_colours_144_i
    rw [s_in9, yP_f hx, Option.bind_some, if_pos rfl, yif_f hx]
/-! like -/
noncomputable def yaLike (n : Nat) (N : yNW) (hd : Nat → Prop) (K : Nat → yNW) (x : Int32) : Int32 := yif (yIsH hd x) (nI (yLk N.1 (K x.toNatClampNeg).1 n)) (-1)
theorem s_cLikeQ {n : Nat} {N : yNW} {h : Nat} {H : Nat → yNW} {hd : Nat → Prop} {K : Nat → yNW} {m : xmm} (hc : yCI n N h H hd K m) (x : Int32) : yCA n N h H hd K (yaLike n N hd K x) (fX11_like_0 x m) m := by
  obtain ⟨hi1, hi2⟩ := s_heldIn hc.2.2.2.1 x
  unfold yaLike
  by_cases hx : yIsH hd x
  · obtain ⟨i, hi, ex, h2⟩ := hx
    obtain ⟨d1, d2⟩ := hc.2.2.2.1.2 i hi h2
    obtain ⟨a1, a2, a3, a4, a5⟩ := ynet_s hi
    obtain ⟨m', b1, b2⟩ := s_cLike hc.1.1 d2.1 a1 a2 a3 a4 a5 (by omega) hc.2.1.2.2 d1.2.2 hc.2.1.1 d1.1
    refine ⟨m', ?_, yCI_r hc (yfr_m b2 (by decide)), yCk_of b2 (by decide)⟩
    apply fX11_like_0_i
    rw [yif_t ⟨i, hi, ex, h2⟩, hi1 i hi ex h2, ex, nI_clamp (by omega)]
    simp only [Option.bind_some, xrc, a1, Bool.not_false, xgd_t, b1]
  · refine ⟨m, ?_, hc, yCk_r m⟩
    apply fX11_like_0_i
    rw [yif_f hx, hi2 hx]
    rfl
theorem s_mlike_22 {N : yNW} {j : Nat} (hj : j < 3) : ∀ (d k : Nat) (m : xmm), k + d = 9 → y9 157 (9 * j) N m → (∀ r, r < k → m.1 183 r = nI (yNc N r)) → ∃ m', (∀ {z : Int32 × xmm}, bX12_like_144_22 (nI j) (nI 9) m' = some z → bX12_like_144_22 (nI j) (nI k) m = some z) ∧ y9 183 0 N m' ∧ yfr [183] m m' := by
  intro d
  induction d with
  | zero =>
    intro k m hk h9 h1
    have e : k = 9 := by omega
    subst e
    exact ⟨m, fun h => h, fun r hr => by rw [Nat.zero_add]; exact h1 r hr, yfr_r⟩
  | succ d ih =>
    intro k m hk h9 h1
    have fr : yfr [183] m (xwi m 183 k (nI (yNc N k))) := yfr_w yfr_r (by decide)
    obtain ⟨m', e1, e2, e3⟩ := ih (k + 1) _ (by omega) (y9_r h9 fr (by decide)) (fun r hr => by
      by_cases e : r = k
      · subst e; rw [xwi_e]
      · rw [xwi_i (by omega)]; exact h1 r (by omega))
    refine ⟨m', fun {z} hz => ?_, e2, yfr_t fr e3⟩
    have c := h9 k (by omega)
    apply bX12_like_144_22_i
    simp (disch := omega) only [yl3, yl4, yl5, yl6, yl7, yl8, yl9, yl10, yl13, yl16, yl20, yl21, yl22, yl23, yl24, yl32, yl40, yl48, yl57, yl59, yl63, yl64, yl97, yl99, yl122, yl255, yl256, yl400, yl1000, yl2000, yl2048, yc0_eq, yc0_eq2, yc0_le, yc0_ge, yc0_lt, yc0_gt, yc0_ad, yc0_da, yc0_sb, yc0_ml, yc0_lm, yc1_eq, yc1_eq2, yc1_le, yc1_ge, yc1_lt, yc1_gt, yc1_ad, yc1_da, yc1_sb, yc1_ml, yc1_lm, yc2_eq, yc2_eq2, yc2_le, yc2_ge, yc2_lt, yc2_gt, yc2_ad, yc2_da, yc2_sb, yc2_ml, yc2_lm, yc31_ge, ymodn, yI_1sl, yc2_dv, yn1_eq, yn1_lt, xgd_t, xlt_e, Option.bind_some, nI_add, pk_mul, pk_sub, pk_div, pk_rem, yI_and, yI_or, yI_xor, yI_nd, yI_nd2, yI_31, yI_shl, nI_leI, nI_ltI, nI_eq, nI_clamp, xinb_t, yP_z, yP_if, if_neg, c]
    exact e1 hz
theorem s_mLikeQ {n : Nat} {N : yNW} {h : Nat} {H : Nat → yNW} {hd : Nat → Prop} {K : Nat → yNW} {m : xmm} (hG : yNv n N) (hc : yMM n N h H hd K m) (hK : ∀ i, i < 3 → hd i → yNv n (K i)) (x : Int32) : yMA n N h H hd K (yaLike n N hd K x) (fX12_like_144 x m) m := by
  unfold yaLike
  by_cases hx : yIsH hd x
  · obtain ⟨j, hj, ex, h2⟩ := hx
    obtain ⟨m1, a1, a2, a3⟩ := s_mlike_22 hj (N := K j) 9 0 m rfl ((hc.2.2.2 j hj).2 h2) (fun r hr => absurd hr (Nat.not_lt_zero r))
    have mm1 := yMM_r hc a3 (by decide)
    obtain ⟨m2, b1, b2⟩ := s_mLike hG.1 (hK j hj h2).1 (yMM_n mm1).1 (y9_8 a2).1
    refine ⟨m2, ?_, yMM_r mm1 b2 (by decide), yMk_t (yMk_of a3 (by decide)) (yMk_of b2 (by decide))⟩
    apply fX12_like_144_i
    rw [s_in3, yP_t ⟨j, hj, ex⟩, Option.bind_some, if_neg yn10, yif_t ⟨j, hj, ex, h2⟩, ex, xinb_t hj (by decide), nI_clamp (by omega), (hc.2.2.2 j hj).1, yP_t h2, xgd_t, if_neg yn10]
    refine a1 ?_
    apply bX12_like_144_22_i
    have l9 : (9 : Int32) ≤ nI 9 := by decide
    rw [if_pos l9, b1]
    rfl
  · refine ⟨m, ?_, hc, yMk_r m⟩
    apply fX12_like_144_i
    rw [s_in3, yif_f hx]
    by_cases hs : ySl x
    · obtain ⟨j, hj, ex⟩ := hs
      have h2 : ¬ hd j := fun t => hx ⟨j, hj, ex, t⟩
      rw [yP_t ⟨j, hj, ex⟩, Option.bind_some, if_neg yn10, ex, xinb_t hj (by decide), nI_clamp (by omega), (hc.2.2.2 j hj).1, yP_f h2, xgd_t, if_pos rfl]
    · rw [yP_f hs, Option.bind_some, if_pos rfl]
