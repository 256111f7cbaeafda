/-! the CHANGES, on both sides -/
theorem s_before2 {n : Nat} {N : yNW} {h : Nat} {H : Nat → yNW} {hd : Nat → Prop} {K : Nat → yNW} {m : xmm} (hc : yCI n N h H hd K m) : ∃ m', fX11_beforeChange_0 m = some m' ∧ yCI n N (yhn h) (ypu N H) hd K m' ∧ m'.1 0 6 = nI 0 ∧ yCk m m' := by
  obtain ⟨m', e1, e2, e3, e4, e5⟩ := s_before hc
  exact ⟨m', e1, e2, e3, e4, e5⟩
theorem s_cLine {n : Nat} {N : yNW} {h : Nat} {H : Nat → yNW} {hd : Nat → Prop} {K : Nat → yNW} {m : xmm} (hc : yCI n N h H hd K m) (x y : Int32) : ∃ m', fX11_line_0 x y m = some (yP (yPr2 n x y), m') ∧ (∀ a b, a < n → b < n → a ≠ b → x = nI a → y = nI b → yCI n (yfp N.1 a b, N.2) (yhn h) (ypu N H) hd K m') ∧ (¬ yPr2 n x y → m' = m) ∧ yCk m m' := by
  have hn := hc.1.1.1
  have hp := s_hasPair ynet10 hn x y hc.2.1.1
  by_cases hx : yPr2 n x y
  · obtain ⟨a, b, ha, hb, hab, ex, ey⟩ := hx
    obtain ⟨m1, a1, a2, a3, a4⟩ := s_before2 hc
    obtain ⟨m2, b1, b2, b3⟩ := s_flip hc.1.1 ha hb hab a2.2.1.1 a2.2.1.2.2
    have f2 : yfr [10, 11] m1 m2 := yfr_m b3 (by decide)
    refine ⟨m2, ?_, fun a' b' ha' hb' hab' ex' ey' => ?_, fun t => absurd ⟨a, b, ha, hb, hab, ex, ey⟩ t, yCk_t a4 (yCk_of b3 (by decide))⟩
    · rw [yP_t ⟨a, b, ha, hb, hab, ex, ey⟩] at hp ⊢
      have n1 : ¬ (1 : Int32) = 0 := by decide
      apply fX11_line_0_i
      rw [hp, Option.bind_some, if_neg n1, a1, Option.bind_some, ex, ey, b1]
      rfl
    · have ea : a' = a := by rw [ex] at ex'; exact ((nI_eq (by omega) (by omega)).mp ex').symm
      have eb : b' = b := by rw [ey] at ey'; exact ((nI_eq (by omega) (by omega)).mp ey').symm
      subst ea; subst eb
      exact yCI_net a2 a3 f2 ⟨by rw [yfr_1 b3 10 0 (by decide)]; exact a2.2.1.1, by rw [yfr_1 b3 10 1 (by decide)]; exact a2.2.1.2.1, b2⟩ ⟨yfp_gr hc.1.1 ha hb hab, hc.1.2⟩
  · refine ⟨m, ?_, fun a b ha hb hab ex ey => absurd ⟨a, b, ha, hb, hab, ex, ey⟩ hx, fun _ => rfl, yCk_r m⟩
    rw [yP_f hx] at hp ⊢
    apply fX11_line_0_i
    rw [hp, Option.bind_some, if_pos rfl]
theorem yMM_net {n : Nat} {N N' : yNW} {h : Nat} {H : Nat → yNW} {hd : Nat → Prop} {K : Nat → yNW} {m m' : xmm} {L : List Nat} (hc : yMM n N h H hd K m) (hf : yfr L m m') (hL : ∀ k, k ∈ L → k = 152 ∨ 158 < k) (hR : yrw 152 N'.1 m') (hB : m'.1 152 8 = nI N'.2) : yMM n N' h H hd K m' := by
  have hf' : yfm L [] m m' := yfm_of hf fun t => by have := hL 144 t; omega
  have o : ∀ k, k ≠ 144 → k ≠ 152 → k ≤ 158 → k ∉ 144 :: L := by
    intro k h1 h0 h2 t
    rcases List.mem_cons.mp t with e | e
    · exact h1 e
    · have := hL k e; omega
  exact ⟨by rw [hf'.2 17 (by decide)]; exact hc.1, y9_of hR hB, yMPs_f hc.2.2.1 hf' (o 156 (by omega) (by omega) (by omega)) (by decide) (by decide), yMHd_f hc.2.2.2 hf' (o 157 (by omega) (by omega) (by omega)) (o 158 (by omega) (by omega) (by omega))⟩
theorem yPr2_P {n : Nat} (hn : n ≤ 8) {x y : Int32} : yPr2 n x y ↔ yIsP n x ∧ yIsP n y ∧ x ≠ y := by
  constructor
  · rintro ⟨p, q, p1, q1, pq, e1, e2⟩
    refine ⟨⟨p, p1, e1⟩, ⟨q, q1, e2⟩, fun e => pq ?_⟩
    rw [e1, e2] at e
    exact (nI_eq (by omega) (by omega)).mp e
  · rintro ⟨⟨p, p1, e1⟩, ⟨q, q1, e2⟩, e⟩
    exact ⟨p, q, p1, q1, fun t => e (by rw [e1, e2, t]), e1, e2⟩
/-! BEGIN: the other way -/
theorem s_cBegin {n : Nat} {N : yNW} {h : Nat} {H : Nat → yNW} {hd : Nat → Prop} {K : Nat → yNW} {m : xmm} (hc : yCI n N h H hd K m) : ∃ m', fX11_begin_0 m = some (nI (1 - N.2), m') ∧ yCI n (N.1, 1 - N.2) (yhn h) (ypu N H) hd K m' ∧ yCk m m' := by
  obtain ⟨m1, a1, a2, a3, a4⟩ := s_before2 hc
  have f2 : yfr [10, 11] m1 (xwi m1 10 1 (nI (1 - N.2))) := yfr_w yfr_r (by decide)
  refine ⟨xwi m1 10 1 (nI (1 - N.2)), ?_, yCI_net a2 a3 f2 ⟨by rw [xwi_i (by decide)]; exact a2.2.1.1, xwi_e _ _ _ _, fun p hp => by rw [xwi_k (by decide)]; exact a2.2.1.2.2 p hp⟩ ⟨hc.1.1, by show 1 - N.2 < 2; omega⟩, yCk_t a4 (yCk_of f2 (by decide))⟩
  have x1 := a2.2.1.2.1
  have hb := hc.1.2
  apply fX11_begin_0_i
  rw [a1, Option.bind_some, x1]
  have : N.2 = 0 ∨ N.2 = 1 := by omega
  rcases this with e | e
  · rw [e, if_pos (show nI 0 = 0 from rfl)]
    simp only [xlt_e, xwi_e]
    rfl
  · have n1 : ¬ nI 1 = 0 := by decide
    rw [e, if_neg n1]
    simp only [xlt_e, xwi_e]
    rfl
theorem ynd_z (b : Nat) : ynd 0 b = 0 := by
  unfold ynd
  rw [Nat.zero_and, Nat.xor_self]
/-! BARE: a post loses its lines -/
def ysp1 (R : Nat → Nat) (a : Nat) : Nat → Nat := fun p => if p = a then 0 else ynd (R p) (2 ^ a)
theorem ysp1_b {R : Nat → Nat} {a p q : Nat} : yad (ysp1 R a) p q ↔ yad R p q ∧ p ≠ a ∧ q ≠ a := by
  show yb (ysp1 R a p) q ↔ _
  unfold ysp1
  by_cases e : p = a
  · rw [if_pos e]; exact ⟨fun t => absurd t yb_0, fun t => absurd e t.2.1⟩
  · rw [if_neg e, yb_nd, yb_pw]
    exact ⟨fun t => ⟨t.1, e, t.2⟩, fun t => ⟨t.1, t.2.2⟩⟩
theorem ysp1_gr {R : Nat → Nat} {n a : Nat} (hG : yGr n R) : yGr n (ysp1 R a) := by
  refine ⟨hG.1, fun p => ?_, fun p hp => ?_, fun x y h => ?_, fun x h => hG.2.2.2.2 x (ysp1_b.mp h).1⟩
  · unfold ysp1
    by_cases e : p = a
    · rw [if_pos e]; exact Nat.two_pow_pos n
    · rw [if_neg e]; exact ynd_le _ _ _ (hG.2.1 p)
  · unfold ysp1
    by_cases e : p = a
    · rw [if_pos e]
    · rw [if_neg e, hG.2.2.1 p hp, ynd_z]
  · rw [ysp1_b] at h ⊢
    exact ⟨hG.2.2.2.1 _ _ h.1, h.2.2, h.2.1⟩
theorem yrow_eq {R R' : Nat → Nat} {p : Nat} (h : ∀ q, yad R p q ↔ yad R' p q) : R p = R' p := ytb_ext fun i => h i
theorem s_rowOf {v r n : Nat} (h : ynet v r) (hn : n ≤ 8) {R : Nat → Nat} {a : Nat} (ha : a < n) {m : xmm} (hN : m.1 v 0 = nI n) (hR : yrw r R m) : fX3_rowOf v (nI a) m = some (nI (R a), m) := by
  have hp : fX3_hasPost v (nI a) m = some (1, m) := by
    rw [s_hasPost h hn (nI a) hN, yP_t ⟨a, ha, rfl⟩]
  obtain ⟨a1, a2, a3, a4, a5⟩ := h
  have n1 : ¬ (1 : Int32) = 0 := by decide
  have i1 : xia 1 r (nI a) = true := xia_t (n := 8) a4 (by omega) (by decide)
  apply fX3_rowOf_i
  simp (disch := omega) only [yl3, yl4, yl5, yl6, yl7, yl8, yl9, yl10, yl13, yl16, yl20, yl21, yl22, yl23, yl24, yl32, yl40, yl48, yl57, yl59, yl63, yl64, yl97, yl99, yl122, yl255, yl256, yl400, yl1000, yl2000, yl2048, yc0_eq, yc0_eq2, yc0_le, yc0_ge, yc0_lt, yc0_gt, yc0_ad, yc0_da, yc0_sb, yc0_ml, yc0_lm, yc1_eq, yc1_eq2, yc1_le, yc1_ge, yc1_lt, yc1_gt, yc1_ad, yc1_da, yc1_sb, yc1_ml, yc1_lm, yc2_eq, yc2_eq2, yc2_le, yc2_ge, yc2_lt, yc2_gt, yc2_ad, yc2_da, yc2_sb, yc2_ml, yc2_lm, yc31_ge, ymodn, yI_1sl, yc2_dv, yn1_eq, yn1_lt, xgd_t, xlt_e, Option.bind_some, nI_add, pk_mul, pk_sub, pk_div, pk_rem, yI_and, yI_or, yI_xor, yI_nd, yI_nd2, yI_31, yI_shl, nI_leI, nI_ltI, nI_eq, nI_clamp, xinb_t, yP_z, yP_if, a1, a2, a3, xgr, Bool.not_false, hp, n1, if_false, i1, hR a]
theorem s_hasLine {v r n : Nat} (h : ynet v r) {R : Nat → Nat} (hG : yGr n R) (x y : Int32) {m : xmm} (hN : m.1 v 0 = nI n) (hR : yrw r R m) : fX3_hasLine v x y m = some (yP (∃ a b, a < n ∧ b < n ∧ x = nI a ∧ y = nI b ∧ yad R a b), m) := by
  have hn := hG.1
  have hp := s_hasPair h hn x y hN
  obtain ⟨a1, a2, a3, a4, a5⟩ := h
  have n1 : ¬ (1 : Int32) = 0 := by decide
  apply fX3_hasLine_i
  by_cases hx : yPr2 n x y
  · obtain ⟨a, b, ha, hb, hab, ex, ey⟩ := hx
    rw [hp, yP_t ⟨a, b, ha, hb, hab, ex, ey⟩, Option.bind_some, if_neg n1, ex, ey]
    have i1 : xia 1 r (nI a) = true := xia_t (n := 8) a4 (by omega) (by decide)
    have r8 := yGr_8 hG a
    have e : (∃ a' b', a' < n ∧ b' < n ∧ nI a = nI a' ∧ nI b = nI b' ∧ yad R a' b') ↔ (R a).testBit b = true := by
      constructor
      · rintro ⟨a', b', h1, h2, h3, h4, h5⟩
        have ea := (nI_eq (by omega) (by omega)).mp h3
        have eb := (nI_eq (by omega) (by omega)).mp h4
        subst ea; subst eb
        exact h5
      · intro t; exact ⟨a, b, ha, hb, rfl, rfl, t⟩
    rw [yP_c e]
    simp (disch := omega) only [yl3, yl4, yl5, yl6, yl7, yl8, yl9, yl10, yl13, yl16, yl20, yl21, yl22, yl23, yl24, yl32, yl40, yl48, yl57, yl59, yl63, yl64, yl97, yl99, yl122, yl255, yl256, yl400, yl1000, yl2000, yl2048, yc0_eq, yc0_eq2, yc0_le, yc0_ge, yc0_lt, yc0_gt, yc0_ad, yc0_da, yc0_sb, yc0_ml, yc0_lm, yc1_eq, yc1_eq2, yc1_le, yc1_ge, yc1_lt, yc1_gt, yc1_ad, yc1_da, yc1_sb, yc1_ml, yc1_lm, yc2_eq, yc2_eq2, yc2_le, yc2_ge, yc2_lt, yc2_gt, yc2_ad, yc2_da, yc2_sb, yc2_ml, yc2_lm, yc31_ge, ymodn, yI_1sl, yc2_dv, yn1_eq, yn1_lt, xgd_t, xlt_e, Option.bind_some, nI_add, pk_mul, pk_sub, pk_div, pk_rem, yI_and, yI_or, yI_xor, yI_nd, yI_nd2, yI_31, yI_shl, nI_leI, nI_ltI, nI_eq, nI_clamp, xinb_t, yP_z, yP_if, a1, a2, a3, xgr, Bool.not_false, i1, hR a, s_contains]
    by_cases t : (R a).testBit b = true
    · rw [yif_t t, yP_t t]
    · rw [yif_f t, yP_f t]
  · have no : ¬ ∃ a b, a < n ∧ b < n ∧ x = nI a ∧ y = nI b ∧ yad R a b := by
      rintro ⟨a, b, h1, h2, h3, h4, h5⟩
      exact hx ⟨a, b, h1, h2, fun e => hG.2.2.2.2 b (by rw [e] at h5; exact h5), h3, h4⟩
    rw [hp, yP_f hx, Option.bind_some, yP_f no, if_pos rfl]
    simp only [a1, a2, Bool.not_false, xgd_t]
theorem yln_c {R : Nat → Nat} {n a b : Nat} (hn : n ≤ 8) (ha : a < n) (hb : b < n) : (∃ a' b', a' < n ∧ b' < n ∧ nI a = nI a' ∧ nI b = nI b' ∧ yad R a' b') ↔ yad R a b := by
  constructor
  · rintro ⟨a', b', h1, h2, h3, h4, h5⟩
    have ea := (nI_eq (by omega) (by omega)).mp h3
    have eb := (nI_eq (by omega) (by omega)).mp h4
    subst ea; subst eb
    exact h5
  · intro t; exact ⟨a, b, ha, hb, rfl, rfl, t⟩
theorem s_strip {n : Nat} {R : Nat → Nat} {a : Nat} (ha : a < n) : ∀ (d c : Nat), c + d = n → ∀ (Rc : Nat → Nat) (m : xmm), yGr n Rc → (∀ p q, yad Rc p q ↔ yad R p q ∧ ¬ (p = a ∧ q < c) ∧ ¬ (q = a ∧ p < c)) → m.1 10 0 = nI n → yrw 11 Rc m → ∃ m', bX3_strip_2 10 (nI a) (nI c) m = some m' ∧ yrw 11 (ysp1 R a) m' ∧ yfr [11] m m' := by
  have n10 : Nat.beq 10 1999 = false := rfl
  have o10 : xob 10 3 = true := rfl
  intro d
  induction d with
  | zero =>
    intro c hc Rc m hG hR hN hm
    have hn := hG.1
    have e : c = n := by omega
    subst e
    refine ⟨m, ?_, fun p hp => ?_, yfr_r⟩
    · apply bX3_strip_2_i
      simp (disch := omega) only [yl3, yl4, yl5, yl6, yl7, yl8, yl9, yl10, yl13, yl16, yl20, yl21, yl22, yl23, yl24, yl32, yl40, yl48, yl57, yl59, yl63, yl64, yl97, yl99, yl122, yl255, yl256, yl400, yl1000, yl2000, yl2048, yc0_eq, yc0_eq2, yc0_le, yc0_ge, yc0_lt, yc0_gt, yc0_ad, yc0_da, yc0_sb, yc0_ml, yc0_lm, yc1_eq, yc1_eq2, yc1_le, yc1_ge, yc1_lt, yc1_gt, yc1_ad, yc1_da, yc1_sb, yc1_ml, yc1_lm, yc2_eq, yc2_eq2, yc2_le, yc2_ge, yc2_lt, yc2_gt, yc2_ad, yc2_da, yc2_sb, yc2_ml, yc2_lm, yc31_ge, ymodn, yI_1sl, yc2_dv, yn1_eq, yn1_lt, xgd_t, xlt_e, Option.bind_some, nI_add, pk_mul, pk_sub, pk_div, pk_rem, yI_and, yI_or, yI_xor, yI_nd, yI_nd2, yI_31, yI_shl, nI_leI, nI_ltI, nI_eq, nI_clamp, xinb_t, yP_z, yP_if, n10, o10, Bool.not_false, hN, if_pos]
    · rw [hm p hp]
      congr 1
      refine yrow_eq fun q => ?_
      rw [hR, ysp1_b]
      constructor
      · rintro ⟨h1, h2, h3⟩
        have e0 : yad Rc p q := (hR p q).mpr ⟨h1, h2, h3⟩
        have b := yGr_n hG e0
        exact ⟨h1, fun e => h2 ⟨e, b.2⟩, fun e => h3 ⟨e, b.1⟩⟩
      · rintro ⟨h1, h2, h3⟩
        exact ⟨h1, fun e => h2 e.1, fun e => h3 e.1⟩
  | succ d ih =>
    intro c hc Rc m hG hR hN hm
    have hn := hG.1
    have hcn : c < n := by omega
    have hl := s_hasLine ynet10 hG (nI a) (nI c) hN hm
    rw [yP_c (yln_c hn ha hcn)] at hl
    by_cases hb : yad Rc a c
    · have hac : a ≠ c := fun e => hG.2.2.2.2 c (by rw [e] at hb; exact hb)
      obtain ⟨m1, b1, b2, b3⟩ := s_flip hG ha hcn hac hN hm
      obtain ⟨m', e1, e2, e3⟩ := ih (c + 1) (by omega) (yfp Rc a c) m1 (yfp_gr hG ha hcn hac) (fun p q => by
        rw [yfp_b hac]
        by_cases h1 : (p = a ∧ q = c) ∨ (p = c ∧ q = a)
        · have hR' : yad Rc p q := by
            rcases h1 with ⟨e1, e2⟩ | ⟨e1, e2⟩
            · rw [e1, e2]; exact hb
            · rw [e1, e2]; exact hG.2.2.2.1 _ _ hb
          constructor
          · intro t; exact absurd ⟨fun _ => h1, fun _ => hR'⟩ t
          · rintro ⟨_, t2, t3⟩
            rcases h1 with ⟨e1, e2⟩ | ⟨e1, e2⟩
            · exact absurd ⟨e1, by omega⟩ t2
            · exact absurd ⟨e2, by omega⟩ t3
        · have e : (yad Rc p q ↔ (p = a ∧ q = c) ∨ (p = c ∧ q = a)) ↔ ¬ yad Rc p q := ⟨fun t t2 => h1 (t.mp t2), fun t => ⟨fun t2 => absurd t2 t, fun t2 => absurd t2 h1⟩⟩
          rw [e, Classical.not_not, hR]
          constructor
          · rintro ⟨t1, t2, t3⟩; exact ⟨t1, by omega, by omega⟩
          · rintro ⟨t1, t2, t3⟩; exact ⟨t1, by omega, by omega⟩) (by rw [yfr_1 b3 10 0 (by decide)]; exact hN) b2
      refine ⟨m', ?_, e2, yfr_t b3 e3⟩
      apply bX3_strip_2_i
      simp (disch := omega) only [yl3, yl4, yl5, yl6, yl7, yl8, yl9, yl10, yl13, yl16, yl20, yl21, yl22, yl23, yl24, yl32, yl40, yl48, yl57, yl59, yl63, yl64, yl97, yl99, yl122, yl255, yl256, yl400, yl1000, yl2000, yl2048, yc0_eq, yc0_eq2, yc0_le, yc0_ge, yc0_lt, yc0_gt, yc0_ad, yc0_da, yc0_sb, yc0_ml, yc0_lm, yc1_eq, yc1_eq2, yc1_le, yc1_ge, yc1_lt, yc1_gt, yc1_ad, yc1_da, yc1_sb, yc1_ml, yc1_lm, yc2_eq, yc2_eq2, yc2_le, yc2_ge, yc2_lt, yc2_gt, yc2_ad, yc2_da, yc2_sb, yc2_ml, yc2_lm, yc31_ge, ymodn, yI_1sl, yc2_dv, yn1_eq, yn1_lt, xgd_t, xlt_e, Option.bind_some, nI_add, pk_mul, pk_sub, pk_div, pk_rem, yI_and, yI_or, yI_xor, yI_nd, yI_nd2, yI_31, yI_shl, nI_leI, nI_ltI, nI_eq, nI_clamp, xinb_t, yP_z, yP_if, n10, o10, Bool.not_false, hN, if_neg, hl, yif_t hb, b1]
      exact e1
    · obtain ⟨m', e1, e2, e3⟩ := ih (c + 1) (by omega) Rc m hG (fun p q => by
        rw [hR]
        constructor
        · rintro ⟨t1, t2, t3⟩
          have t0 : yad Rc p q := (hR p q).mpr ⟨t1, t2, t3⟩
          refine ⟨t1, ?_, ?_⟩
          · rintro ⟨e1, e2⟩
            by_cases e3 : q = c
            · rw [e1, e3] at t0; exact hb t0
            · exact t2 ⟨e1, by omega⟩
          · rintro ⟨e1, e2⟩
            by_cases e3 : p = c
            · rw [e1, e3] at t0; exact hb (hG.2.2.2.1 _ _ t0)
            · exact t3 ⟨e1, by omega⟩
        · rintro ⟨t1, t2, t3⟩; exact ⟨t1, by omega, by omega⟩) hN hm
      refine ⟨m', ?_, e2, e3⟩
      apply bX3_strip_2_i
      simp (disch := omega) only [yl3, yl4, yl5, yl6, yl7, yl8, yl9, yl10, yl13, yl16, yl20, yl21, yl22, yl23, yl24, yl32, yl40, yl48, yl57, yl59, yl63, yl64, yl97, yl99, yl122, yl255, yl256, yl400, yl1000, yl2000, yl2048, yc0_eq, yc0_eq2, yc0_le, yc0_ge, yc0_lt, yc0_gt, yc0_ad, yc0_da, yc0_sb, yc0_ml, yc0_lm, yc1_eq, yc1_eq2, yc1_le, yc1_ge, yc1_lt, yc1_gt, yc1_ad, yc1_da, yc1_sb, yc1_ml, yc1_lm, yc2_eq, yc2_eq2, yc2_le, yc2_ge, yc2_lt, yc2_gt, yc2_ad, yc2_da, yc2_sb, yc2_ml, yc2_lm, yc31_ge, ymodn, yI_1sl, yc2_dv, yn1_eq, yn1_lt, xgd_t, xlt_e, Option.bind_some, nI_add, pk_mul, pk_sub, pk_div, pk_rem, yI_and, yI_or, yI_xor, yI_nd, yI_nd2, yI_31, yI_shl, nI_leI, nI_ltI, nI_eq, nI_clamp, xinb_t, yP_z, yP_if, n10, o10, Bool.not_false, hN, if_neg, hl, yif_f hb]
      exact e1
theorem ypp0 {S : Nat} (hS : S < 256) : ypp S = 0 ↔ S = 0 := by
  constructor
  · intro h
    refine Classical.byContradiction fun hn => ?_
    obtain ⟨a, ha⟩ := yex_ne hn
    have := yct_1 (P := fun a => yb S a) (ytb_of (n := 8) hS ha) ha
    unfold ypp at h
    omega
  · intro h
    subst h
    exact yct_0 fun k _ => yb_0
/-- what bare answers -/
noncomputable def ybr (n : Nat) (R : Nat → Nat) (x : Int32) : Int32 := yif (yIsP n x) (nI (ypp (R x.toNatClampNeg))) (-1)
theorem s_cBare {n : Nat} {N : yNW} {h : Nat} {H : Nat → yNW} {hd : Nat → Prop} {K : Nat → yNW} {m : xmm} (hc : yCI n N h H hd K m) (x : Int32) : ∃ m', fX11_bare_0 x m = some (ybr n N.1 x, m') ∧ (∀ a, a < n → x = nI a → N.1 a ≠ 0 → yCI n (ysp1 N.1 a, N.2) (yhn h) (ypu N H) hd K m') ∧ ((¬ ∃ a, a < n ∧ x = nI a ∧ N.1 a ≠ 0) → m' = m) ∧ yCk m m' := by
  have hG := hc.1.1
  have hn := hG.1
  have n1 : ¬ (1 : Int32) = 0 := by decide
  have hp := s_hasPost ynet10 hn x hc.2.1.1
  by_cases hx : yIsP n x
  · obtain ⟨a, ha, ex⟩ := hx
    have r8 := yGr_8 hG a
    have er : ybr n N.1 x = nI (ypp (N.1 a)) := by
      unfold ybr
      rw [yif_t ⟨a, ha, ex⟩, ex, nI_clamp (by omega)]
    have pl := ypp_le (N.1 a)
    rw [er]
    have ro := s_rowOf ynet10 hn ha hc.2.1.1 hc.2.1.2.2
    by_cases h0 : N.1 a = 0
    · refine ⟨m, ?_, fun a' ha' ex' h' => ?_, fun _ => rfl, yCk_r m⟩
      · apply fX11_bare_0_i
        have z : ypp (N.1 a) = 0 := (ypp0 r8).mpr h0
        rw [hp, yP_t ⟨a, ha, ex⟩, Option.bind_some, if_neg n1, ex, ro]
        simp (disch := omega) only [yl3, yl4, yl5, yl6, yl7, yl8, yl9, yl10, yl13, yl16, yl20, yl21, yl22, yl23, yl24, yl32, yl40, yl48, yl57, yl59, yl63, yl64, yl97, yl99, yl122, yl255, yl256, yl400, yl1000, yl2000, yl2048, yc0_eq, yc0_eq2, yc0_le, yc0_ge, yc0_lt, yc0_gt, yc0_ad, yc0_da, yc0_sb, yc0_ml, yc0_lm, yc1_eq, yc1_eq2, yc1_le, yc1_ge, yc1_lt, yc1_gt, yc1_ad, yc1_da, yc1_sb, yc1_ml, yc1_lm, yc2_eq, yc2_eq2, yc2_le, yc2_ge, yc2_lt, yc2_gt, yc2_ad, yc2_da, yc2_sb, yc2_ml, yc2_lm, yc31_ge, ymodn, yI_1sl, yc2_dv, yn1_eq, yn1_lt, xgd_t, xlt_e, Option.bind_some, nI_add, pk_mul, pk_sub, pk_div, pk_rem, yI_and, yI_or, yI_xor, yI_nd, yI_nd2, yI_31, yI_shl, nI_leI, nI_ltI, nI_eq, nI_clamp, xinb_t, yP_z, yP_if, s_bitCount r8, if_pos]
      · have ea : a' = a := by rw [ex] at ex'; exact ((nI_eq (by omega) (by omega)).mp ex').symm
        subst ea
        exact absurd h0 h'
    · obtain ⟨m1, a1, a2, a3, a4⟩ := s_before2 hc
      obtain ⟨m2, b1, b2, b3⟩ := s_strip (R := N.1) ha n 0 (Nat.zero_add n) N.1 m1 hG (fun p q => ⟨fun t => ⟨t, by omega, by omega⟩, fun t => t.1⟩) a2.2.1.1 a2.2.1.2.2
      have f2 : yfr [10, 11] m1 m2 := yfr_m b3 (by decide)
      refine ⟨m2, ?_, fun a' ha' ex' h' => ?_, fun t => absurd ⟨a, ha, ex, h0⟩ t, yCk_t a4 (yCk_of b3 (by decide))⟩
      · have nz : ypp (N.1 a) ≠ 0 := fun t => h0 ((ypp0 r8).mp t)
        have st : fX3_strip 10 (nI a) m1 = some m2 := by
          apply fX3_strip_i
          exact b1
        apply fX11_bare_0_i
        rw [hp, yP_t ⟨a, ha, ex⟩, Option.bind_some, if_neg n1, ex, ro]
        simp (disch := omega) only [yl3, yl4, yl5, yl6, yl7, yl8, yl9, yl10, yl13, yl16, yl20, yl21, yl22, yl23, yl24, yl32, yl40, yl48, yl57, yl59, yl63, yl64, yl97, yl99, yl122, yl255, yl256, yl400, yl1000, yl2000, yl2048, yc0_eq, yc0_eq2, yc0_le, yc0_ge, yc0_lt, yc0_gt, yc0_ad, yc0_da, yc0_sb, yc0_ml, yc0_lm, yc1_eq, yc1_eq2, yc1_le, yc1_ge, yc1_lt, yc1_gt, yc1_ad, yc1_da, yc1_sb, yc1_ml, yc1_lm, yc2_eq, yc2_eq2, yc2_le, yc2_ge, yc2_lt, yc2_gt, yc2_ad, yc2_da, yc2_sb, yc2_ml, yc2_lm, yc31_ge, ymodn, yI_1sl, yc2_dv, yn1_eq, yn1_lt, xgd_t, xlt_e, Option.bind_some, nI_add, pk_mul, pk_sub, pk_div, pk_rem, yI_and, yI_or, yI_xor, yI_nd, yI_nd2, yI_31, yI_shl, nI_leI, nI_ltI, nI_eq, nI_clamp, xinb_t, yP_z, yP_if, s_bitCount r8, if_neg, a1, st]
      · have ea : a' = a := by rw [ex] at ex'; exact ((nI_eq (by omega) (by omega)).mp ex').symm
        subst ea
        exact yCI_net a2 a3 f2 ⟨by rw [yfr_1 b3 10 0 (by decide)]; exact a2.2.1.1, by rw [yfr_1 b3 10 1 (by decide)]; exact a2.2.1.2.1, b2⟩ ⟨ysp1_gr hG, hc.1.2⟩
  · refine ⟨m, ?_, fun a ha ex _ => absurd ⟨a, ha, ex⟩ hx, fun _ => rfl, yCk_r m⟩
    have er : ybr n N.1 x = -1 := yif_f hx
    rw [er]
    apply fX11_bare_0_i
    rw [hp, yP_f hx, Option.bind_some, if_pos rfl]
