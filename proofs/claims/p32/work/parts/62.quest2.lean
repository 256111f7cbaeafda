/-! the QUESTIONS: second part -/
def yInK (k : Nat) (x : Int32) : Prop := ∃ i, i ≤ k ∧ x = nI i
theorem s_inKc {k : Nat} (hk : k < 2 ^ 31) (x : Int32) : (x < 0 ∧ ¬ yInK k x) ∨ (∃ i, i ≤ k ∧ x = nI i ∧ ¬ x < 0 ∧ x ≤ nI k ∧ ¬ nI k < x) ∨ (¬ yInK k x ∧ ¬ x < 0 ∧ ¬ x ≤ nI k ∧ nI k < x) := by
  by_cases h : x < 0
  · exact Or.inl ⟨h, fun ⟨i, i1, i2⟩ => by rw [i2] at h; exact nI_pos (by omega) h⟩
  · obtain ⟨p, p1, p2⟩ := nI_of h
    have e1 := nI_leI p1 hk
    have e2 := nI_ltI hk p1
    rw [← p2] at e1 e2
    by_cases hp : p ≤ k
    · exact Or.inr (Or.inl ⟨p, hp, p2, h, e1.mpr hp, fun t => by have := e2.mp t; omega⟩)
    · exact Or.inr (Or.inr ⟨fun ⟨i, i1, i2⟩ => by rw [p2] at i2; have := (nI_eq p1 (by omega)).mp i2; omega, h, fun t => hp (e1.mp t), e2.mpr (by omega)⟩)
theorem yap_op {n : Nat} {R : Nat → Nat} {S : Nat} (hS : S < 2 ^ n) : yap (yop n R) S ↔ ychn R S := by
  constructor
  · intro h p q hpq hp hq
    exact Classical.byContradiction fun t => h p q hp hq (yop_b.mpr ⟨ytb_of hS hp, ytb_of hS hq, hpq, t⟩)
  · intro h p q hp hq t
    have := yop_b.mp t
    exact this.2.2.2 (h p q this.2.2.1 hp hq)
theorem ysuch0 (n : Nat) (R : Nat → Nat) : ysuch n R 0 = ychn R := rfl
theorem ysuch1 (n : Nat) (R : Nat → Nat) : ysuch n R 1 = yap R := rfl
theorem ysuch2 (n : Nat) (R : Nat → Nat) : ysuch n R 2 = ymo (yad R) (2 ^ n - 1) := rfl
theorem ysuch3 (n : Nat) (R : Nat → Nat) : ysuch n R 3 = yrd R := rfl
theorem yx11 {n : Nat} {N : yNW} {m : xmm} (hG : yGr n N.1) (hN : yNt 10 11 n N m) : yrx 11 N.1 m := ⟨rfl, rfl, hN.2.2, fun p _ => yGr_8 hG p⟩
theorem yx13 {n : Nat} {N : yNW} {m : xmm} (hG : yGr n N.1) (hK : yKc n N m) : yrx 13 (yop n N.1) m := ⟨rfl, rfl, hK.1.2.2, fun p _ => yGr_8 (yop_gr hG) p⟩
/-! sets -/
noncomputable def yaSet (n : Nat) (N : yNW) (x w : Int32) : Int32 := yif (yInK (2 ^ n - 1) x) (if w = 0 then yP (ychn N.1 x.toNatClampNeg) else if w = 1 then yP (yap N.1 x.toNatClampNeg) else if w = 2 then yP (ymo (yad N.1) (2 ^ n - 1) x.toNatClampNeg) else if w = 3 then yP (yrd N.1 x.toNatClampNeg) else -1) (-1)
theorem s_cSet {n : Nat} {N : yNW} {h : Nat} {H : Nat → yNW} {hd : Nat → Prop} {K : Nat → yNW} {m : xmm} (hc : yCI n N h H hd K m) (x w : Int32) : yCA n N h H hd K (yaSet n N x w) (fX11_set_0 x w m) m := by
  have hG := hc.1.1
  have hn := hG.1
  have h8 := y2p8 hn
  have h1 := y2p1 n
  unfold yaSet
  rcases s_inKc (k := 2 ^ n - 1) (by omega) x with ⟨k1, k2⟩ | ⟨i, i1, i2, i3, i4, i5⟩ | ⟨k1, k2, k3, k4⟩
  · refine ⟨m, ?_, hc, yCk_r m⟩
    apply fX11_set_0_i
    rw [if_pos k1, yif_f k2]
  · obtain ⟨m', a1, a2, a3, a4⟩ := s_study hc
    refine ⟨m', ?_, a2, a4⟩
    have hi : i < 2 ^ n := by omega
    have x11 := yx11 hG a2.2.1
    have x13 := yx13 hG a3
    apply fX11_set_0_i
    rw [if_neg i3, yif_t ⟨i, i1, i2⟩, s_evp ynet10 hn hc.2.1.1, Option.bind_some, if_pos i4, a1, Option.bind_some, i2, nI_clamp (by omega)]
    by_cases e0 : w = 0
    · simp only [if_pos e0]
      rw [s_isApart x13 (by omega), Option.bind_some, s_bit, yP_c (yap_op hi)]; rfl
    · by_cases e1 : w = 1
      · simp only [if_neg e0, if_pos e1]
        rw [s_isApart x11 (by omega), Option.bind_some, s_bit]; rfl
      · by_cases e2 : w = 2
        · simp only [if_neg e0, if_neg e1, if_pos e2]
          rw [s_evp ynet10 hn a2.2.1.1, Option.bind_some, s_isAlike x11 hG hi, Option.bind_some, s_bit]; rfl
        · by_cases e3 : w = 3
          · have e3' : w = (3 : Int32) := e3
            simp only [if_neg e0, if_neg e1, if_neg e2, if_pos e3']
            rw [s_isRound x11 hG.2.2.2 (by omega), Option.bind_some, s_bit]; rfl
          · simp only [if_neg e0, if_neg e1, if_neg e2, if_neg e3]
  · refine ⟨m, ?_, hc, yCk_r m⟩
    apply fX11_set_0_i
    rw [if_neg k2, yif_f k1, s_evp ynet10 hn hc.2.1.1, Option.bind_some, if_neg k3]
/-! signs -/
noncomputable def yaSign (n : Nat) (N : yNW) (x y : Int32) : Int32 := yif (yIsP n x ∧ yIsP n y) (yif (yord (yad N.1)) (ysg n (yT N.1 N.2) x.toNatClampNeg y.toNatClampNeg) (-100000)) (-100000)
theorem s_cSign {n : Nat} {N : yNW} {h : Nat} {H : Nat → yNW} {hd : Nat → Prop} {K : Nat → yNW} {m : xmm} (hc : yCI n N h H hd K m) (x y : Int32) : yCA n N h H hd K (yaSign n N x y) (fX11_sign_0 x y m) m := by
  have hn := hc.1.1.1
  unfold yaSign
  by_cases hx : yIsP n x
  · by_cases hy : yIsP n y
    · obtain ⟨a, ha, ex⟩ := hx
      obtain ⟨b, hb, ey⟩ := hy
      obtain ⟨m', a1, a2, a3, a4, a5⟩ := s_cArr hc
      by_cases ho : yord (yad N.1)
      · obtain ⟨m2, b1, b2⟩ := s_signOf (yT_po hc.1.1 ho N.2) hn ha hb (a3.2.2.2.1 ho).2
        refine ⟨m2, ?_, yCI_r a4 (yfr_m b2 (by decide)), yCk_t a5 (yCk_of b2 (by decide))⟩
        apply fX11_sign_0_i
        rw [s_PPc hn hc.2.1.1 ⟨a, ha, ex⟩, Option.bind_some, if_neg yn10, s_PPc hn hc.2.1.1 ⟨b, hb, ey⟩, Option.bind_some, if_neg yn10, yif_t ⟨⟨a, ha, ex⟩, ⟨b, hb, ey⟩⟩, yxi hn ha ex, yxi hn hb ey, ex, ey, a1, Option.bind_some, a2, Option.bind_some, yP_t ho, if_neg yn10, yif_t ho, b1]
        rfl
      · refine ⟨m', ?_, a4, a5⟩
        apply fX11_sign_0_i
        rw [s_PPc hn hc.2.1.1 ⟨a, ha, ex⟩, Option.bind_some, if_neg yn10, s_PPc hn hc.2.1.1 ⟨b, hb, ey⟩, Option.bind_some, if_neg yn10, yif_t ⟨⟨a, ha, ex⟩, ⟨b, hb, ey⟩⟩, a1, Option.bind_some, a2, Option.bind_some, yP_f ho, if_pos rfl, yif_f ho]
    · refine ⟨m, ?_, hc, yCk_r m⟩
      apply fX11_sign_0_i
      rw [s_PPc hn hc.2.1.1 hx, Option.bind_some, if_neg yn10, s_PPn hn hc.2.1.1 hy, Option.bind_some, if_pos rfl, yif_f (fun t => hy t.2)]
  · refine ⟨m, ?_, hc, yCk_r m⟩
    apply fX11_sign_0_i
    rw [s_PPn hn hc.2.1.1 hx, Option.bind_some, if_pos rfl, yif_f (fun t => hx t.1)]
/-! network -/
noncomputable def yaNet (n : Nat) (N : yNW) (x : Int32) : Int32 := if x = 0 then yP (yord (yad N.1)) else if x = 1 then nI (yK N.1) else if x = 2 then nI (yKo N.1) else if x = 3 then yif (yord (yad N.1)) (nI (yPr (yad N.1) (2 ^ n - 1))) 0 else if x = 4 then yif (yord (yad N.1)) (nI (yN N.1 N.2)) (-2) else if x = 5 then yP (yord (yad N.1) ∧ yord (yad (yop n N.1))) else if x = 6 then yP (yord (yad (yop n N.1))) else if x = 7 then nI (ypt (yad N.1) (2 ^ n - 1)) else -1
theorem s_cNet {n : Nat} {N : yNW} {h : Nat} {H : Nat → yNW} {hd : Nat → Prop} {K : Nat → yNW} {m : xmm} (hc : yCI n N h H hd K m) (x : Int32) : yCA n N h H hd K (yaNet n N x) (fX11_network_0 x m) m := by
  have hG := hc.1.1
  have hn := hG.1
  have h8 := y2p8 hn
  have hD' := yGr_gd (yop_gr hG)
  obtain ⟨m', a1, a2, a3, a4, a5⟩ := s_cArr hc
  have io' := s_isOrdered_103 hD' a3.2.2.1
  unfold yaNet
  by_cases e0 : x = 0
  · refine ⟨m', ?_, a4, a5⟩
    apply fX11_network_0_i
    rw [a1, Option.bind_some]
    simp only [if_pos e0]
    rw [a2, Option.bind_some, s_bit]; rfl
  by_cases e1 : x = 1
  · refine ⟨m', ?_, a4, a5⟩
    apply fX11_network_0_i
    rw [a1, Option.bind_some]
    simp only [if_neg e0, if_pos e1]
    have q : fX1_countAll_97 m' = some (nI (yK N.1), m') := by
      apply fX1_countAll_97_i
      rw [a3.2.1.2.2.1]
    rw [q]; rfl
  by_cases e2 : x = 2
  · refine ⟨m', ?_, a4, a5⟩
    apply fX11_network_0_i
    rw [a1, Option.bind_some]
    simp only [if_neg e0, if_neg e1, if_pos e2]
    have q : fX1_countOdd_97 m' = some (nI (yKo N.1), m') := by
      apply fX1_countOdd_97_i
      rw [a3.2.1.2.2.2]
    rw [q]; rfl
  by_cases e3 : x = 3
  · by_cases ho : yord (yad N.1)
    · obtain ⟨m2, b1, b2⟩ := s_cways hG (m := m') ⟨a4.2.1.1, a4.2.1.2.2, a3.1.2.2⟩
      refine ⟨m2, ?_, yCI_r a4 (yfr_m b2 (by decide)), yCk_t a5 (yCk_of b2 (by decide))⟩
      apply fX11_network_0_i
      rw [a1, Option.bind_some]
      simp only [if_neg e0, if_neg e1, if_neg e2, if_pos e3]
      rw [a2, yP_t ho, Option.bind_some, if_neg yn10, b1, yif_t ho]; rfl
    · refine ⟨m', ?_, a4, a5⟩
      apply fX11_network_0_i
      rw [a1, Option.bind_some]
      simp only [if_neg e0, if_neg e1, if_neg e2, if_pos e3]
      rw [a2, yP_f ho, Option.bind_some, if_pos rfl, yif_f ho]
  by_cases e4 : x = 4
  · refine ⟨m', ?_, a4, a5⟩
    apply fX11_network_0_i
    rw [a1, Option.bind_some]
    simp only [if_neg e0, if_neg e1, if_neg e2, if_neg e3, if_pos e4]
    by_cases ho : yord (yad N.1)
    · have q : fX0_countSteps_109 m' = some (nI (yN N.1 N.2), m') := by
        apply fX0_countSteps_109_i
        rw [(a3.2.2.2.1 ho).1.2.2.2.1]
      rw [a2, yP_t ho, Option.bind_some, if_neg yn10, q, yif_t ho]; rfl
    · rw [a2, yP_f ho, Option.bind_some, if_pos rfl, yif_f ho]
  by_cases e5 : x = 5
  · refine ⟨m', ?_, a4, a5⟩
    apply fX11_network_0_i
    rw [a1, Option.bind_some]
    simp only [if_neg e0, if_neg e1, if_neg e2, if_neg e3, if_neg e4, if_pos e5]
    have q : fX11_isCrossed_0 m' = some (yP (yord (yad N.1) ∧ yord (yad (yop n N.1))), m') := by
      apply fX11_isCrossed_0_i
      rw [a2]
      by_cases ho : yord (yad N.1)
      · rw [yP_t ho, Option.bind_some, if_neg yn10, io', Option.bind_some, yif01]
        exact yPm ⟨fun t => ⟨ho, t⟩, fun t => t.2⟩ m'
      · rw [yP_f ho, Option.bind_some, if_pos rfl, yP_f (fun t => ho t.1)]
    rw [q, Option.bind_some, s_bit]; rfl
  by_cases e6 : x = 6
  · refine ⟨m', ?_, a4, a5⟩
    apply fX11_network_0_i
    rw [a1, Option.bind_some]
    simp only [if_neg e0, if_neg e1, if_neg e2, if_neg e3, if_neg e4, if_neg e5, if_pos e6]
    rw [io', Option.bind_some, s_bit]; rfl
  by_cases e7 : x = 7
  · refine ⟨m', ?_, a4, a5⟩
    apply fX11_network_0_i
    rw [a1, Option.bind_some]
    simp only [if_neg e0, if_neg e1, if_neg e2, if_neg e3, if_neg e4, if_neg e5, if_neg e6, if_pos e7]
    rw [s_evp ynet10 hn a4.2.1.1, Option.bind_some, s_parts (yx11 hG a4.2.1) hG.2.2.2 (by omega)]; rfl
  · refine ⟨m', ?_, a4, a5⟩
    apply fX11_network_0_i
    rw [a1, Option.bind_some]
    simp only [if_neg e0, if_neg e1, if_neg e2, if_neg e3, if_neg e4, if_neg e5, if_neg e6, if_neg e7]
