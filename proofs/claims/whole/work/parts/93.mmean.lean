/-! what the tokens tell: the model; the worst FAULT -/
/-- the model's tokens -/
def yMY (kd st vl g : Nat → Nat) (K : Nat) (m : xmm) : Prop := m.1 144 10 = nI (K + 1) ∧ m.1 144 12 = nI 0 ∧ ∀ j, j ≤ K → m.1 147 j = nI (ymk (kd j)) ∧ m.1 148 j = nI (st j) ∧ (kd j = 2 → m.1 149 j = nI (vl j)) ∧ (kd j = 1 → m.2 150 j = lN (g j))
theorem yMY_k {kd st vl g : Nat → Nat} {K : Nat} {L J : List Nat} {m m' : xmm} (h : yMY kd st vl g K m) (hf : yfm L J m m') (h0 : 10 ∉ J) (h1 : 12 ∉ J) (h2 : 147 ∉ 144 :: L) (h3 : 148 ∉ 144 :: L) (h4 : 149 ∉ 144 :: L) (h5 : 150 ∉ 144 :: L) : yMY kd st vl g K m' := ⟨by rw [hf.2 10 h0]; exact h.1, by rw [hf.2 12 h1]; exact h.2.1, fun j hj => by
  rw [yfm_1 hf 147 j h2, yfm_1 hf 148 j h3, yfm_1 hf 149 j h4, yfr_2 hf.1 150 j h5]
  exact h.2.2 j hj⟩
/-- the first FAULT among the tokens below i -/
def yzV (kd st nm vl : Nat → Nat) (P i : Nat) (m : xmm) : Prop := (m.1 144 14 = nI 0 ∧ ∀ j, j < i → yzft kd nm vl P j = 0) ∨ ∃ j, j < i ∧ yzft kd nm vl P j ≠ 0 ∧ (∀ j', j' < j → yzft kd nm vl P j' = 0) ∧ m.1 144 14 = nI (yzft kd nm vl P j) ∧ m.1 144 15 = nI (st j)
theorem yzft_b (kd nm vl : Nat → Nat) (P i : Nat) : yzft kd nm vl P i < 100 := by
  unfold yzft
  split
  · split
    · by_cases c : ypa nm (i - 1) (nm i) < i - 1
      · rw [yif_t c]; decide
      · rw [yif_f c]; decide
    · by_cases c : ypa nm P (nm i) < P
      · rw [yif_t c]; decide
      · rw [yif_f c]; decide
  · split
    · by_cases c : P ≤ vl i
      · rw [yif_t c]; decide
      · rw [yif_f c]
        by_cases c' : ∃ o, yhd kd i < o ∧ o < i ∧ vl o = vl i
        · rw [yif_t c']; decide
        · rw [yif_f c']; decide
    · split
      · split
        · by_cases c : i - yhd kd i - 1 < P
          · rw [yif_t c]; decide
          · rw [yif_f c]; decide
        · decide
      · decide
theorem yzV_k {kd st nm vl : Nat → Nat} {P i : Nat} {L J : List Nat} {m m' : xmm} (h : yzV kd st nm vl P i m) (hf : yfm L J m m') (h0 : 14 ∉ J) (h1 : 15 ∉ J) : yzV kd st nm vl P i m' := by
  unfold yzV at h ⊢
  rw [hf.2 14 h0, hf.2 15 h1]
  exact h
/-- a token that is no FAULT -/
theorem yzV_0 {kd st nm vl : Nat → Nat} {P i : Nat} {m : xmm} (h : yzV kd st nm vl P i m) (h0 : yzft kd nm vl P i = 0) : yzV kd st nm vl P (i + 1) m := by
  rcases h with ⟨a, b⟩ | ⟨j, a, b, c, d, e⟩
  · refine Or.inl ⟨a, fun j hj => ?_⟩
    by_cases e : j = i
    · rw [e]; exact h0
    · exact b j (by omega)
  · exact Or.inr ⟨j, by omega, b, c, d, e⟩
/-- 'wrong' at token i: it stands only where there is none ahead -/
theorem s_wrong {kd st nm vl g : Nat → Nat} {K q : Nat} (hS : yzS kd K q) (hst : ∀ j i, j < i → i ≤ K → st j < st i) (hsb : ∀ i, st i ≤ 2000) (hvl : ∀ j, kd j = 2 → vl j < 10000) (hgb : ∀ j, kd j = 1 → g j < 2 ^ 63) (hg : ∀ j j', kd j = 1 → kd j' = 1 → (g j = g j' ↔ nm j = nm j')) {i o : Nat} (hi : i ≤ K) (ho : 0 < o ∧ o < 100) {m : xmm} (hY : yMY kd st vl g K m) (hV : yzV kd st nm vl (q - 1) i m) : ∃ m', fX12_wrong_144 (nI o) (nI i) m = some m' ∧ ((∀ j, j < i → (yzft kd nm vl (q - 1)) j = 0) → m'.1 144 14 = nI o ∧ m'.1 144 15 = nI (st i)) ∧ ((¬ ∀ j, j < i → (yzft kd nm vl (q - 1)) j = 0) → m' = m) ∧ yfm [] [14, 15] m m' := by
  have K4 := hS.1.2.2.2
  have z12 : ¬ (0 : Int32) < m.1 144 12 := by rw [hY.2.1]; decide
  have t8 := (hY.2.2 i hi).2.1
  have i4 : xinb 403 (nI i) = true := xinb_t (by omega) (by decide)
  rcases hV with ⟨a, b⟩ | ⟨j, a, b, c, d, e⟩
  · refine ⟨xwi (xwi m 144 14 (nI o)) 144 15 (nI (st i)), ?_, fun _ => ⟨by rw [xwi_i (by decide), xwi_e], xwi_e _ _ _ _⟩, fun t => absurd b t, yfm_f (yfm_f yfm_r (by decide)) (by decide)⟩
    apply fX12_wrong_144_i
    have a' : m.1 144 14 = (0 : Int32) := a
    rw [i4, xgd_t, if_neg z12, if_pos a', nI_clamp (by omega), t8]
    apply bX12_wrong_144_46_i
    rfl
  · refine ⟨m, ?_, fun t => absurd (t j a) b, fun _ => rfl, yfm_r⟩
    have fb := yzft_b kd nm vl (q - 1) j
    have s1 := hst j i a hi
    have s2 := hsb i
    apply fX12_wrong_144_i
    rw [i4, xgd_t, if_neg z12, d, if_neg (nI_ne0 (by omega) (by omega)), nI_clamp (by omega), t8, e, if_pos (nI_lt s1 (by omega))]
theorem yzV_w {kd st nm vl : Nat → Nat} {P i : Nat} {m m' : xmm} (h : yzV kd st nm vl P i m) (h0 : yzft kd nm vl P i ≠ 0) (h1 : (∀ j, j < i → yzft kd nm vl P j = 0) → m'.1 144 14 = nI (yzft kd nm vl P i) ∧ m'.1 144 15 = nI (st i)) (h2 : (¬ ∀ j, j < i → yzft kd nm vl P j = 0) → m' = m) : yzV kd st nm vl P (i + 1) m' := by
  rcases h with ⟨a, b⟩ | ⟨j, a, b, c, d, e⟩
  · have r := h1 b
    exact Or.inr ⟨i, by omega, h0, b, r.1, r.2⟩
  · rw [h2 (fun t => b (t j a))]
    exact Or.inr ⟨j, by omega, b, c, d, e⟩
/-! the POSTS -/
/-- the model among the POSTS -/
def yzMp (g : Nat → Nat) (n : Nat) (m : xmm) : Prop := m.1 144 20 = nI n ∧ ∀ p, p < n → m.2 154 p = lN (g (p + 1))
theorem s_at {kd st nm vl g : Nat → Nat} {K q : Nat} (hS : yzS kd K q) (hst : ∀ j i, j < i → i ≤ K → st j < st i) (hsb : ∀ i, st i ≤ 2000) (hvl : ∀ j, kd j = 2 → vl j < 10000) (hgb : ∀ j, kd j = 1 → g j < 2 ^ 63) (hg : ∀ j j', kd j = 1 → kd j' = 1 → (g j = g j' ↔ nm j = nm j')) {n : Nat} (hn : n + 1 ≤ q) {i : Nat} (hi : i ≤ K) (h1 : kd i = 1) {m : xmm} (hY : yMY kd st vl g K m) (hP : yzMp g n m) : fX12_postAt_144 (m.2 150 i) m = some (ypv nm n (nm i), m) := by
  have q2 := hS.1.2.1
  have names := hS.2.2.1
  exact s_postAt (by omega) hP.1 fun p hp => by
    have k1 := names (p + 1) (by omega) (by omega)
    rw [hP.2 p hp, (hY.2.2 i hi).2.2.2 h1, lg_cmp_eq, pk_lEQ (hgb _ k1) (hgb _ h1)]
    exact hg _ _ k1 h1
theorem s_mPosts {kd st nm vl g : Nat → Nat} {K q : Nat} (hS : yzS kd K q) (hst : ∀ j i, j < i → i ≤ K → st j < st i) (hsb : ∀ i, st i ≤ 2000) (hvl : ∀ j, kd j = 2 → vl j < 10000) (hgb : ∀ j, kd j = 1 → g j < 2 ^ 63) (hg : ∀ j j', kd j = 1 → kd j' = 1 → (g j = g j' ↔ nm j = nm j')) : ∀ (d v : Nat) (m : xmm), v + d = q → 1 ≤ v → yMY kd st vl g K m → yzMp g (v - 1) m → yzV kd st nm vl (q - 1) v m → ∃ m', (∀ {z : xmm}, bX12_means_144_69 (0 : Int32) m' = some z → bX12_means_144_7 (nI v) m = some z) ∧ yzMp g (q - 1) m' ∧ yzV kd st nm vl (q - 1) q m' ∧ yfm [154] [14, 15, 20] m m' := by
  have hS' := hS
  obtain ⟨⟨q1, q2, q3, q4⟩, ⟨_, _, k0, kq⟩, names, kb, hd1, later⟩ := hS'
  intro d
  induction d with
  | zero =>
    intro v m hd h1 hY hP hV
    have e : v = q := by omega
    subst e
    refine ⟨m, fun {z} hz => ?_, hP, hV, yfm_r⟩
    apply bX12_means_144_7_i
    rw [xinb_t (by omega) (by decide), xgd_t, nI_clamp (by omega), (hY.2.2 v (by omega)).1, kq, if_neg (by decide)]
    exact hz
  | succ d ih =>
    intro v m hd h1 hY hP hV
    have k1 := names v h1 (by omega)
    have yhd0 := (hd1 v h1 (by omega)).1
    have ft : (yzft kd nm vl (q - 1)) v = yif (ypa nm (v - 1) (nm v) < v - 1) 3 0 := by
      unfold yzft
      rw [if_pos k1, yhd0, if_pos k0]
    have tv := hY.2.2 v (by omega)
    have i4 : xinb 403 (nI v) = true := xinb_t (by omega) (by decide)
    have pa := s_at hS hst hsb hvl hgb hg (n := v - 1) (by omega) (show v ≤ K by omega) k1 hY hP
    have kk : ymk 1 = 1 := rfl
    have c1 : m.1 147 v = (1 : Int32) := by rw [tv.1, k1]; rfl
    have st36 : ∀ m1 : xmm, yMY kd st vl g K m1 → yzMp g (v - 1) m1 → ∀ {z : xmm}, bX12_means_144_7 (nI (v + 1)) (xwi (xwj m1 154 (v - 1) (lN (g v))) 144 20 (nI v)) = some z → bX12_means_144_36 (nI v) m1 = some z := by
      intro m1 y1 p1 z hz
      apply bX12_means_144_36_i
      have x1 : (xwj m1 154 (v - 1) (lN (g v))).1 144 20 = nI (v - 1) := p1.1
      rw [i4, xgd_t, p1.1, xinb_t (by omega) (by decide), xgd_t, nI_clamp (by omega), nI_clamp (by omega), (y1.2.2 v (by omega)).2.2.2 k1, xlt_e, x1, nI_1, nI_1, show v - 1 + 1 = v by omega, xlt_e]
      exact hz
    have nx : ∀ m1 : xmm, yMY kd st vl g K m1 → yzMp g (v - 1) m1 → yfm [154] [14, 15, 20] m m1 → yzV kd st nm vl (q - 1) (v + 1) m1 → (∀ {z : xmm}, bX12_means_144_36 (nI v) m1 = some z → bX12_means_144_7 (nI v) m = some z) → ∃ m', (∀ {z : xmm}, bX12_means_144_69 (0 : Int32) m' = some z → bX12_means_144_7 (nI v) m = some z) ∧ yzMp g (q - 1) m' ∧ yzV kd st nm vl (q - 1) q m' ∧ yfm [154] [14, 15, 20] m m' := by
      intro m1 y1 p1 f1 v1 go
      have f2 : yfm [154] [20] m1 (xwi (xwj m1 154 (v - 1) (lN (g v))) 144 20 (nI v)) := yfm_f (yfm_j yfm_r (by decide)) (by decide)
      obtain ⟨m', r1, r2, r3, r4⟩ := ih (v + 1) _ (by omega) (by omega) (yMY_k y1 f2 (by decide) (by decide) (by decide) (by decide) (by decide) (by decide)) ⟨by rw [xwi_e]; rfl, fun p hp => by
        show (xwj m1 154 (v - 1) (lN (g v))).2 154 p = _
        by_cases e : p = v - 1
        · rw [e, xwj_e, show v - 1 + 1 = v by omega]
        · rw [xwj_n (fun t => e t.2)]; exact p1.2 p (by omega)⟩ (yzV_k v1 f2 (by decide) (by decide))
      exact ⟨m', fun {z} hz => go (st36 m1 y1 p1 (r1 hz)), r2, r3, yfm_t f1 (yfm_t (yfm_m f2 (by decide) (by decide)) r4)⟩
    by_cases c : ypa nm (v - 1) (nm v) < v - 1
    · rw [yif_t c] at ft
      obtain ⟨m1, a1, a2, a3, a4⟩ := s_wrong hS hst hsb hvl hgb hg (o := 3) (show v ≤ K by omega) (by decide) hY hV
      refine nx m1 (yMY_k hY a4 (by decide) (by decide) (by decide) (by decide) (by decide) (by decide)) ⟨by rw [a4.2 20 (by decide)]; exact hP.1, fun p hp => by rw [yfr_2 a4.1 154 p (by decide)]; exact hP.2 p hp⟩ (yfm_m a4 (by decide) (by decide)) (yzV_w hV (by rw [ft]; decide) (by rw [ft]; exact a2) a3) (fun {z} hz => ?_)
      have a1' : fX12_wrong_144 (3 : Int32) (nI v) m = some m1 := a1
      apply bX12_means_144_7_i
      rw [i4, xgd_t, nI_clamp (by omega), if_pos c1, pa, Option.bind_some]
      unfold ypv
      rw [yif_t c]
      dsimp only
      rw [if_neg (nI_pos (by omega)), a1', Option.bind_some]
      exact hz
    · rw [yif_f c] at ft
      refine nx m hY hP yfm_r (yzV_0 hV ft) (fun {z} hz => ?_)
      apply bX12_means_144_7_i
      rw [i4, xgd_t, nI_clamp (by omega), if_pos c1, pa, Option.bind_some]
      unfold ypv
      rw [yif_f c]
      dsimp only
      rw [if_pos (by decide)]
      exact hz
