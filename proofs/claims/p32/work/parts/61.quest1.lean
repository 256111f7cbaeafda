/-! the QUESTIONS: first part -/
def yCA (n : Nat) (N : yNW) (h : Nat) (H : Nat → yNW) (hd : Nat → Prop) (K : Nat → yNW) (r : Int32) (o : Option (Int32 × xmm)) (m : xmm) : Prop := ∃ m', o = some (r, m') ∧ yCI n N h H hd K m' ∧ yCk m m'
def yMA (n : Nat) (N : yNW) (h : Nat) (H : Nat → yNW) (hd : Nat → Prop) (K : Nat → yNW) (r : Int32) (o : Option (Int32 × xmm)) (m : xmm) : Prop := ∃ m', o = some (r, m') ∧ yMM n N h H hd K m' ∧ yMk m m'
theorem yn10 : ¬ (1 : Int32) = 0 := by decide
theorem yxi {n a : Nat} {x : Int32} (hn : n ≤ 8) (ha : a < n) (e : x = nI a) : x.toNatClampNeg = a := by rw [e]; exact nI_clamp (by omega)
theorem s_cArr {n : Nat} {N : yNW} {h : Nat} {H : Nat → yNW} {hd : Nat → Prop} {K : Nat → yNW} {m : xmm} (hc : yCI n N h H hd K m) : ∃ m', fX11_study_0 m = some m' ∧ fX1_isOrdered_97 m' = some (yP (yord (yad N.1)), m') ∧ yKc n N m' ∧ yCI n N h H hd K m' ∧ yCk m m' := by
  obtain ⟨m', a1, a2, a3, a4⟩ := s_study hc
  exact ⟨m', a1, s_isOrdered_97 (yGr_gd hc.1.1) a3.2.1, a3, a2, a4⟩
theorem s_PPc {n : Nat} (hn : n ≤ 8) {m : xmm} (hN : m.1 10 0 = nI n) {x : Int32} (hx : yIsP n x) : fX3_hasPost 10 x m = some (1, m) := by rw [s_hasPost ynet10 hn x hN, yP_t hx]
theorem s_PPn {n : Nat} (hn : n ≤ 8) {m : xmm} (hN : m.1 10 0 = nI n) {x : Int32} (hx : ¬ yIsP n x) : fX3_hasPost 10 x m = some (0, m) := by rw [s_hasPost ynet10 hn x hN, yP_f hx]
/-! near -/
noncomputable def yaNear (n : Nat) (N : yNW) (x : Int32) : Int32 := yif (yIsP n x) (nI (N.1 x.toNatClampNeg)) (-1)
theorem s_cNear {n : Nat} {N : yNW} {h : Nat} {H : Nat → yNW} {hd : Nat → Prop} {K : Nat → yNW} {m : xmm} (hc : yCI n N h H hd K m) (x : Int32) : yCA n N h H hd K (yaNear n N x) (fX11_near_0 x m) m := by
  have hn := hc.1.1.1
  refine ⟨m, ?_, hc, yCk_r m⟩
  apply fX11_near_0_i
  unfold yaNear
  by_cases hx : yIsP n x
  · obtain ⟨a, ha, ex⟩ := hx
    rw [s_PPc hn hc.2.1.1 ⟨a, ha, ex⟩, Option.bind_some, if_neg yn10, yif_t ⟨a, ha, ex⟩, yxi hn ha ex, ex, s_rowOf ynet10 hn ha hc.2.1.1 hc.2.1.2.2]
    rfl
  · rw [s_PPn hn hc.2.1.1 hx, Option.bind_some, if_pos rfl, yif_f hx]
/-! far -/
noncomputable def yaFar (n : Nat) (N : yNW) (x y : Int32) : Int32 := yif (yIsP n x ∧ yIsP n y) (yfd N.1 x.toNatClampNeg y.toNatClampNeg) (-1)
theorem s_cFar {n : Nat} {N : yNW} {h : Nat} {H : Nat → yNW} {hd : Nat → Prop} {K : Nat → yNW} {m : xmm} (hc : yCI n N h H hd K m) (x y : Int32) : yCA n N h H hd K (yaFar n N x y) (fX11_far_0 x y m) m := by
  have hn := hc.1.1.1
  refine ⟨m, ?_, hc, yCk_r m⟩
  apply fX11_far_0_i
  unfold yaFar
  by_cases hx : yIsP n x
  · by_cases hy : yIsP n y
    · obtain ⟨a, ha, ex⟩ := hx
      obtain ⟨b, hb, ey⟩ := hy
      have w := s_far_l (R := N.1) (m := m) ⟨rfl, rfl, hc.2.1.2.2, fun p _ => yGr_8 hc.1.1 p⟩ (show a < 8 by omega) (show b < 8 by omega) 8 0 rfl (fun j hj => absurd hj (Nat.not_lt_zero j))
      rw [s_PPc hn hc.2.1.1 ⟨a, ha, ex⟩, Option.bind_some, if_neg yn10, s_PPc hn hc.2.1.1 ⟨b, hb, ey⟩, Option.bind_some, if_neg yn10, yif_t ⟨⟨a, ha, ex⟩, ⟨b, hb, ey⟩⟩, yxi hn ha ex, yxi hn hb ey, ex, ey, yI_1shl (by omega)]
      exact w
    · rw [s_PPc hn hc.2.1.1 hx, Option.bind_some, if_neg yn10, s_PPn hn hc.2.1.1 hy, Option.bind_some, if_pos rfl, yif_f (fun t => hy t.2)]
  · rw [s_PPn hn hc.2.1.1 hx, Option.bind_some, if_pos rfl, yif_f (fun t => hx t.1)]
/-! under -/
noncomputable def yaUnder (n : Nat) (N : yNW) (x y : Int32) : Int32 := yif (yIsP n x ∧ yIsP n y) (yif (yord (yad N.1)) (yP (yT N.1 N.2 x.toNatClampNeg y.toNatClampNeg)) (-2)) (-1)
theorem s_cUnder {n : Nat} {N : yNW} {h : Nat} {H : Nat → yNW} {hd : Nat → Prop} {K : Nat → yNW} {m : xmm} (hc : yCI n N h H hd K m) (x y : Int32) : yCA n N h H hd K (yaUnder n N x y) (fX11_under_0 x y m) m := by
  have hn := hc.1.1.1
  unfold yaUnder
  by_cases hx : yIsP n x
  · by_cases hy : yIsP n y
    · obtain ⟨a, ha, ex⟩ := hx
      obtain ⟨b, hb, ey⟩ := hy
      obtain ⟨m', a1, a2, a3, a4, a5⟩ := s_cArr hc
      refine ⟨m', ?_, a4, a5⟩
      apply fX11_under_0_i
      rw [s_PPc hn hc.2.1.1 ⟨a, ha, ex⟩, Option.bind_some, if_neg yn10, s_PPc hn hc.2.1.1 ⟨b, hb, ey⟩, Option.bind_some, if_neg yn10, yif_t ⟨⟨a, ha, ex⟩, ⟨b, hb, ey⟩⟩, yxi hn ha ex, yxi hn hb ey, ex, ey, a1, Option.bind_some, a2, Option.bind_some]
      by_cases ho : yord (yad N.1)
      · rw [yP_t ho, if_neg yn10, yif_t ho, s_isUnder (yT_po hc.1.1 ho N.2) hn (a3.2.2.2.1 ho).2.1 (by omega) (by omega), Option.bind_some, s_bit]
        rfl
      · rw [yP_f ho, if_pos rfl, yif_f ho]
    · refine ⟨m, ?_, hc, yCk_r m⟩
      apply fX11_under_0_i
      rw [s_PPc hn hc.2.1.1 hx, Option.bind_some, if_neg yn10, s_PPn hn hc.2.1.1 hy, Option.bind_some, if_pos rfl, yif_f (fun t => hy t.2)]
  · refine ⟨m, ?_, hc, yCk_r m⟩
    apply fX11_under_0_i
    rw [s_PPn hn hc.2.1.1 hx, Option.bind_some, if_pos rfl, yif_f (fun t => hx t.1)]
theorem yif01 {p : Prop} (m : xmm) : (if yP p = 0 then some ((0 : Int32), m) else some ((1 : Int32), m)) = some (yP p, m) := by
  by_cases t : p
  · rw [yP_t t, if_neg yn10]
  · rw [yP_f t, if_pos rfl]
theorem yro8 {T : yG} {p : Nat} : yro T p < 256 := ybs_lt _ 8
/-! straight -/
noncomputable def yaStr (n : Nat) (N : yNW) (x y : Int32) : Int32 := yif (¬ x < 0 ∧ yIsP n y) (yif (yord (yad N.1)) (yif (x.toNatClampNeg < yW n (yT N.1 N.2) 0) (nI (ypk n (yT N.1 N.2) x.toNatClampNeg y.toNatClampNeg)) (-1)) (-2)) (-1)
theorem s_cStr {n : Nat} {N : yNW} {h : Nat} {H : Nat → yNW} {hd : Nat → Prop} {K : Nat → yNW} {m : xmm} (hc : yCI n N h H hd K m) (x y : Int32) : yCA n N h H hd K (yaStr n N x y) (fX11_straight_0 x y m) m := by
  have hn := hc.1.1.1
  unfold yaStr
  by_cases hx : x < 0
  · refine ⟨m, ?_, hc, yCk_r m⟩
    apply fX11_straight_0_i
    rw [if_pos hx, yif_f (fun t => t.1 hx)]
  · obtain ⟨i, hi, ex⟩ := nI_of hx
    by_cases hy : yIsP n y
    · obtain ⟨b, hb, ey⟩ := hy
      obtain ⟨m', a1, a2, a3, a4, a5⟩ := s_cArr hc
      refine ⟨m', ?_, a4, a5⟩
      apply fX11_straight_0_i
      rw [if_neg hx, s_PPc hn hc.2.1.1 ⟨b, hb, ey⟩, Option.bind_some, if_neg yn10, yif_t ⟨hx, ⟨b, hb, ey⟩⟩, yxi hn hb ey, ex, nI_clamp hi, ey, a1, Option.bind_some, a2, Option.bind_some]
      by_cases ho : yord (yad N.1)
      · rw [yP_t ho, if_neg yn10, yif_t ho, s_straightAt (yT_po hc.1.1 ho N.2) hn (a3.2.2.2.1 ho).2 hi hb]
        rfl
      · rw [yP_f ho, if_pos rfl, yif_f ho]
    · refine ⟨m, ?_, hc, yCk_r m⟩
      apply fX11_straight_0_i
      rw [if_neg hx, s_PPn hn hc.2.1.1 hy, Option.bind_some, if_pos rfl, yif_f (fun t => hy t.2)]
theorem yML_r2 {n : Nat} {T : yG} {L : List Nat} {m m' : xmm} (h : yML n T m) (hf : yfr L m m') (h1 : 144 ∉ L) (h2 : 164 ∉ L) (h3 : 165 ∉ L) : yML n T m' := ⟨by rw [yfr_1 hf 144 17 h1]; exact h.1, yrw_r h.2.1 hf h2, yrw_r h.2.2 hf h3⟩
/-! chain -/
noncomputable def yaChain (n : Nat) (N : yNW) (x : Int32) : Int32 := yif (yIsP n x) (yif (yord (yad N.1)) (nI (ycq N.1 n x.toNatClampNeg)) (-2)) (-1)
theorem s_cChain {n : Nat} {N : yNW} {h : Nat} {H : Nat → yNW} {hd : Nat → Prop} {K : Nat → yNW} {m : xmm} (hc : yCI n N h H hd K m) (x : Int32) : yCA n N h H hd K (yaChain n N x) (fX11_chain_0 x m) m := by
  have hn := hc.1.1.1
  unfold yaChain
  by_cases hx : yIsP n x
  · obtain ⟨a, ha, ex⟩ := hx
    obtain ⟨m', a1, a2, a3, a4, a5⟩ := s_cArr hc
    by_cases ho : yord (yad N.1)
    · obtain ⟨m2, b1, b2, b3⟩ := s_share hc.1.1 a4.2.1.2.2 a4.2.1.1
      refine ⟨m2, ?_, yCI_r a4 (yfr_m b3 (by decide)), yCk_t a5 (yCk_of b3 (by decide))⟩
      apply fX11_chain_0_i
      have go : fX10_groupOf_132 (nI a) m2 = some (nI (ycq N.1 n a), m2) := by
        apply fX10_groupOf_132_i
        rw [xinb_t (by omega) (by decide), nI_clamp (by omega), b2 a ha]
        rfl
      rw [s_PPc hn hc.2.1.1 ⟨a, ha, ex⟩, Option.bind_some, if_neg yn10, yif_t ⟨a, ha, ex⟩, yxi hn ha ex, ex, a1, Option.bind_some, a2, Option.bind_some, yP_t ho, if_neg yn10, yif_t ho, b1, Option.bind_some, go]
      rfl
    · refine ⟨m', ?_, a4, a5⟩
      apply fX11_chain_0_i
      rw [s_PPc hn hc.2.1.1 ⟨a, ha, ex⟩, Option.bind_some, if_neg yn10, yif_t ⟨a, ha, ex⟩, a1, Option.bind_some, a2, Option.bind_some, yP_f ho, if_pos rfl, yif_f ho]
  · refine ⟨m, ?_, hc, yCk_r m⟩
    apply fX11_chain_0_i
    rw [s_PPn hn hc.2.1.1 hx, Option.bind_some, if_pos rfl, yif_f hx]
/-! colours -/
def yIn9 (x : Int32) : Prop := ∃ k, k < 10 ∧ x = nI k
theorem s_in9c (x : Int32) : x < 0 ∨ (∃ i, i < 10 ∧ x = nI i) ∨ ∃ p, 10 ≤ p ∧ p < 2 ^ 31 ∧ x = nI p := by
  by_cases h : x < 0
  · exact Or.inl h
  · obtain ⟨p, p1, p2⟩ := nI_of h
    by_cases hp : p < 10
    · exact Or.inr (Or.inl ⟨p, hp, p2⟩)
    · exact Or.inr (Or.inr ⟨p, by omega, p1, p2⟩)
noncomputable def yaCol (n : Nat) (N : yNW) (x : Int32) : Int32 := yif (yIn9 x) (nI (yck N.1 x.toNatClampNeg (2 ^ n - 1))) (-1)
theorem s_cColQ {n : Nat} {N : yNW} {h : Nat} {H : Nat → yNW} {hd : Nat → Prop} {K : Nat → yNW} {m : xmm} (hc : yCI n N h H hd K m) (x : Int32) : yCA n N h H hd K (yaCol n N x) (fX11_colours_0 x m) m := by
  have e2 : (9 : Int32) = nI 9 := rfl
  unfold yaCol
  rcases s_in9c x with hx | ⟨i, hi, hx⟩ | ⟨p, p1, p2, hx⟩
  · have no : ¬ yIn9 x := fun ⟨i, i1, i2⟩ => by rw [i2] at hx; exact nI_pos (by omega) hx
    refine ⟨m, ?_, hc, yCk_r m⟩
    apply fX11_colours_0_i
    rw [if_pos hx, yif_f no]
  · obtain ⟨m', a1, a2⟩ := s_cCol hc.1.1 hi hc.2.1.2.2 hc.2.1.1
    refine ⟨m', ?_, yCI_r hc (yfr_m a2 (by decide)), yCk_of a2 (by decide)⟩
    apply fX11_colours_0_i
    have le : nI i ≤ (9 : Int32) := by rw [e2, nI_leI (by omega) (by omega)]; omega
    rw [yif_t ⟨i, hi, hx⟩, hx, if_neg (nI_pos (by omega)), if_pos le, a1, nI_clamp (by omega)]
    rfl
  · have no : ¬ yIn9 x := fun ⟨i, i1, i2⟩ => by rw [hx] at i2; have := (nI_eq p2 (by omega)).mp i2; omega
    refine ⟨m, ?_, hc, yCk_r m⟩
    apply fX11_colours_0_i
    have le : ¬ x ≤ (9 : Int32) := by rw [hx, e2, nI_leI (by omega) (by omega)]; omega
    rw [yif_f no, if_neg (by rw [hx]; exact nI_pos p2), if_neg le]
/-! like -/
noncomputable def yaLike (n : Nat) (N : yNW) (hd : Nat → Prop) (K : Nat → yNW) (x : Int32) : Int32 := yif (yIsH hd x) (nI (yLk N.1 (K x.toNatClampNeg).1 n)) (-1)
theorem s_cLikeQ {n : Nat} {N : yNW} {h : Nat} {H : Nat → yNW} {hd : Nat → Prop} {K : Nat → yNW} {m : xmm} (hc : yCI n N h H hd K m) (x : Int32) : yCA n N h H hd K (yaLike n N hd K x) (fX11_like_0 x m) m := by
  obtain ⟨hi1, hi2⟩ := s_heldIn hc.2.2.2.1 x
  unfold yaLike
  by_cases hx : yIsH hd x
  · obtain ⟨i, hi, ex, h2⟩ := hx
    obtain ⟨d1, d2⟩ := hc.2.2.2.1.2 i hi h2
    obtain ⟨a1, a2, a3, a4, a5⟩ := ynet_s hi
    obtain ⟨m', b1, b2⟩ := s_cLike hc.1.1 d2.1 a1 a2 a3 a4 a5 (by omega) hc.2.1.2.2 d1.2.2 hc.2.1.1 d1.1
    refine ⟨m', ?_, yCI_r hc (yfr_m b2 (by decide)), yCk_of b2 (by decide)⟩
    apply fX11_like_0_i
    rw [yif_t ⟨i, hi, ex, h2⟩, hi1 i hi ex h2, ex, nI_clamp (by omega)]
    simp only [Option.bind_some, xrc, a1, Bool.not_false, xgd_t, b1]
  · refine ⟨m, ?_, hc, yCk_r m⟩
    apply fX11_like_0_i
    rw [yif_f hx, hi2 hx]
    rfl
