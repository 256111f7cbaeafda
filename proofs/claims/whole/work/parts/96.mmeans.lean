/-! what the tokens tell: the model, all of it -/
theorem s_skip69 {kd st vl g : Nat → Nat} {K : Nat} (hK : K ≤ 400) (hkb : ∀ i, i ≤ K → 1 ≤ kd i ∧ kd i ≤ 9) {m : xmm} (hY : yMY kd st vl g K m) {e : Nat} (he : e ≤ K + 1) {z : xmm} (hz : bX12_means_144_69 (nI e) m = some z) : ∀ (d j : Nat), j + d = e → (∀ t, j ≤ t → t < e → kd t < 5 ∨ kd t = 9) → bX12_means_144_69 (nI j) m = some z := by
  intro d
  induction d with
  | zero =>
    intro j hd _
    have e' : j = e := by omega
    rw [e']; exact hz
  | succ d ih =>
    intro j hd hj
    have h5 := hj j (Nat.le_refl j) (by omega)
    have kb := hkb j (by omega)
    have r := ih (j + 1) (by omega) (fun t a b => hj t (by omega) b)
    have i4 : xinb 403 (nI j) = true := xinb_t (by omega) (by decide)
    have n1 : ¬ m.1 147 j = (21 : Int32) := fun t => by have := (yk147 hY (show j ≤ K by omega) kb (a := 5) (by decide)).mp t; omega
    have n2 : ¬ m.1 147 j = (22 : Int32) := fun t => by have := (yk147 hY (show j ≤ K by omega) kb (a := 6) (by decide)).mp t; omega
    have n3 : ¬ m.1 147 j = (23 : Int32) := fun t => by have := (yk147 hY (show j ≤ K by omega) kb (a := 7) (by decide)).mp t; omega
    apply bX12_means_144_69_i
    rw [hY.1, if_neg (by rw [nI_leI (by omega) (by omega)]; omega), i4, xgd_t, nI_clamp (by omega), if_neg n1, if_neg n2]
    apply bX12_means_144_104_i
    rw [i4, xgd_t, nI_clamp (by omega), if_neg n3, nI_1]
    exact r
theorem yzD_s {kd nm vl : Nat → Nat} {P i : Nat} {m : xmm} (h : yzD kd nm vl P i m) (h1 : kd i ≠ 1) (h2 : kd i ≠ 2) : yzD kd nm vl P (i + 1) m := by
  have er : yzER kd nm vl P (i + 1) = yzER kd nm vl P i := by
    show (if kd i = 1 then (if kd (yhd kd i) = 4 then _ else _) else if kd i = 2 then _ else _) = _
    rw [if_neg h1, if_neg h2]
  exact ⟨fun t a ha => by rw [er]; exact h.1 (fun j hj => t j (by omega)) a ha, h.2⟩
theorem yzD_k {kd nm vl : Nat → Nat} {P i : Nat} {L J : List Nat} {m m' : xmm} (h : yzD kd nm vl P i m) (hf : yfm L J m m') (h1 : 153 ∉ 144 :: L) : yzD kd nm vl P i m' := ⟨fun t a ha => by rw [yfm_1 hf 153 a h1]; exact h.1 t a ha, by rw [yfm_1 hf 153 8 h1]; exact h.2⟩
theorem s_m69 {kd st nm vl g : Nat → Nat} {K q : Nat} (hS : yzS kd K q) (hst : ∀ j i, j < i → i ≤ K → st j < st i) (hsb : ∀ i, st i ≤ 2000) (hvl : ∀ j, kd j = 2 → vl j < 10000) (hgb : ∀ j, kd j = 1 → g j < 2 ^ 63) (hg : ∀ j j', kd j = 1 → kd j' = 1 → (g j = g j' ↔ nm j = nm j')) : ∀ (F k : Nat) (m : xmm), K - k ≤ F → q < k → k ≤ K → yss kd k = 2 → yMY kd st vl g K m → yzMp g (q - 1) m → yzV kd st nm vl (q - 1) k m → yzD kd nm vl (q - 1) k m → ∃ m', bX12_means_144_69 (nI k) m = some m' ∧ yzV kd st nm vl (q - 1) K m' ∧ yzD kd nm vl (q - 1) K m' ∧ yfm [153, 155] [14, 15] m m' := by
  have hS' := hS
  obtain ⟨⟨q1, q2, q3, q4⟩, ⟨kK, _, k0, kq⟩, names, kb, hd1, later⟩ := hS'
  have hkb : ∀ i, i ≤ K → 1 ≤ kd i ∧ kd i ≤ 9 := fun i hi => by
    by_cases e : i = K
    · rw [e, kK]; decide
    · have := kb i (by omega); omega
  have last : ∀ (m : xmm), yMY kd st vl g K m → bX12_means_144_69 (nI K) m = some m := by
    intro m hY
    refine s_skip69 q4 hkb hY (Nat.le_refl _) (?_ : bX12_means_144_69 (nI (K + 1)) m = some m) 1 K rfl (fun t a b => Or.inr (by rw [show t = K by omega]; exact kK))
    apply bX12_means_144_69_i
    rw [hY.1, if_pos (nI_le (Nat.le_refl _) (by omega))]
  intro F
  induction F with
  | zero =>
    intro k m hF hqk hkK hs hY hP hV hD
    have e : k = K := by omega
    subst e
    exact ⟨m, last m hY, hV, hD, yfm_r⟩
  | succ F ih =>
    intro k m hF hqk hkK hs hY hP hV hD
    by_cases e : k = K
    · subst e
      exact ⟨m, last m hY, hV, hD, yfm_r⟩
    have t := yfl_t (yss kd k) (by omega) (kd k) (by have := hkb k hkK; omega) (kb k (by omega)).2.2
    have i4 : xinb 403 (nI k) = true := xinb_t (by omega) (by decide)
    by_cases h7 : kd k = 7
    · have ft : (yzft kd nm vl (q - 1)) k = 0 := by
        unfold yzft
        rw [if_neg (by omega), if_neg (by omega), if_neg (by omega)]
      obtain ⟨m1, e1, a1, a2, a3, a4, a5, a6, a7, a8, a9⟩ := s_mCro hS hst hsb hvl hgb hg hqk (by omega) h7 hs (K - (k + 1)) (k + 1) m (by omega) (by omega) (fun j a b => by omega) (fun o a b => by omega) (fun o a b => by omega) hY hP (yzV_0 hV ft) (yzD_s hD (by omega) (by omega))
      have Y1 := yMY_k hY a9 (by decide) (by decide) (by decide) (by decide) (by decide) (by decide)
      obtain ⟨m', r1, r2, r3, r4⟩ := ih (e1 + 1) m1 (by omega) (by omega) (by omega) a6 Y1 ⟨by rw [a9.2 20 (by decide)]; exact hP.1, fun p hp => by rw [yfr_2 a9.1 154 p (by decide)]; exact hP.2 p hp⟩ a7 a8
      refine ⟨m', ?_, r2, r3, yfm_t a9 r4⟩
      have n1 : ¬ m.1 147 k = (21 : Int32) := fun t => by have := (yk147 hY hkK (hkb k hkK) (a := 5) (by decide)).mp t; omega
      have n2 : ¬ m.1 147 k = (22 : Int32) := fun t => by have := (yk147 hY hkK (hkb k hkK) (a := 6) (by decide)).mp t; omega
      have n3 : m.1 147 k = (23 : Int32) := (yk147 hY hkK (hkb k hkK) (a := 7) (by decide)).mpr h7
      have mc : fX12_meansCross_144 (nI k) m = some m1 := by
        apply fX12_meansCross_144_i
        rw [nI_1]
        rw [show k + 1 - k - 1 = 0 by omega] at a1
        exact a1
      apply bX12_means_144_69_i
      rw [hY.1, if_neg (by rw [nI_leI (by omega) (by omega)]; omega), i4, xgd_t, nI_clamp (by omega), if_neg n1, if_neg n2]
      apply bX12_means_144_104_i
      rw [i4, xgd_t, nI_clamp (by omega), if_pos n3, mc, Option.bind_some, nI_1]
      exact s_skip69 q4 hkb Y1 (by omega) r1 (e1 + 1 - (k + 1)) (k + 1) (by omega) (fun t a b => Or.inl (by
        by_cases e2 : t = e1
        · rw [e2]; omega
        · have := a4 t (by omega) (by omega); omega))
    · have h56 : kd k = 5 ∨ kd k = 6 := by omega
      have ft : (yzft kd nm vl (q - 1)) k = 0 := by
        unfold yzft
        rw [if_neg (by omega), if_neg (by omega), if_neg (by omega)]
      obtain ⟨m1, e1, a1, a2, a3, a4, a5, a6, a7, a8⟩ := s_mNames hS hst hsb hvl hgb hg hqk h56 (K - (k + 1)) (k + 1) m (by omega) (by omega) (fun j a b => by omega) hY hP (yzV_0 hV ft) (yzD_s hD (by omega) (by omega))
      obtain ⟨c1, c2, c3⟩ := yz_nr hS hqk (by omega) h56 hs (by omega) a3 a4 a5
      have hh : yhd kd e1 = k := yhd_at (kd := kd) (k := k) (by omega) e1 (by omega) (fun j a b => by have := a4 j a b; omega)
      have fe : (yzft kd nm vl (q - 1)) e1 = 0 := by
        unfold yzft
        rw [if_neg (by omega), if_neg (by omega), if_pos c2, hh, if_neg h7]
      have f9 : yfm [153, 155] [14, 15] m m1 := yfm_m a8 (by decide) (by decide)
      have Y1 := yMY_k hY a8 (by decide) (by decide) (by decide) (by decide) (by decide) (by decide)
      obtain ⟨m', r1, r2, r3, r4⟩ := ih (e1 + 1) m1 (by omega) (by omega) (by omega) c3 Y1 ⟨by rw [a8.2 20 (by decide)]; exact hP.1, fun p hp => by rw [yfr_2 a8.1 154 p (by decide)]; exact hP.2 p hp⟩ (yzV_0 a6 fe) (yzD_s a7 (by omega) (by omega))
      refine ⟨m', ?_, r2, r3, yfm_t f9 r4⟩
      have mn : fX12_meansNames_144 (nI k) m = some m1 := by
        apply fX12_meansNames_144_i
        rw [nI_1]
        exact a1
      have n3 : ¬ m1.1 147 k = (23 : Int32) := fun t => by have := (yk147 Y1 hkK (hkb k hkK) (a := 7) (by decide)).mp t; omega
      have go : bX12_means_144_104 (nI k) m1 = some m' := by
        apply bX12_means_144_104_i
        rw [i4, xgd_t, nI_clamp (by omega), if_neg n3, nI_1]
        exact s_skip69 q4 hkb Y1 (by omega) r1 (e1 + 1 - (k + 1)) (k + 1) (by omega) (fun t a b => Or.inl (by
          by_cases e2 : t = e1
          · rw [e2]; omega
          · have := a4 t (by omega) (by omega); omega))
      apply bX12_means_144_69_i
      rw [hY.1, if_neg (by rw [nI_leI (by omega) (by omega)]; omega), i4, xgd_t, nI_clamp (by omega), mn]
      by_cases h5 : kd k = 5
      · rw [if_pos (show m.1 147 k = (21 : Int32) from (yk147 hY hkK (hkb k hkK) (a := 5) (by decide)).mpr h5)]
        exact go
      · have n1 : ¬ m.1 147 k = (21 : Int32) := fun t => h5 ((yk147 hY hkK (hkb k hkK) (a := 5) (by decide)).mp t)
        rw [if_neg n1, if_pos (show m.1 147 k = (22 : Int32) from (yk147 hY hkK (hkb k hkK) (a := 6) (by decide)).mpr (by omega))]
        exact go
theorem yzER_0 {kd nm vl : Nat → Nat} {K q : Nat} (hS : yzS kd K q) : ∀ i, i ≤ q + 1 → yzER kd nm vl (q - 1) i = fun _ => 0
  | 0, _ => rfl
  | i + 1, hi => by
    have ih := yzER_0 (nm := nm) (vl := vl) hS i (by omega)
    obtain ⟨⟨q1, q2, q3, q4⟩, ⟨kK, _, k0, kq⟩, names, kb, hd1, later⟩ := hS
    show (if kd i = 1 then (if kd (yhd kd i) = 4 then yzER kd nm vl (q - 1) i else _) else if kd i = 2 then _ else yzER kd nm vl (q - 1) i) = _
    by_cases z : i = 0
    · rw [z, if_neg (by omega), if_neg (by omega)]
      rw [z] at ih; exact ih
    by_cases g : i = q
    · rw [if_neg (by rw [g]; omega), if_neg (by rw [g]; omega)]
      exact ih
    · rw [if_pos (names i (by omega) (by omega)), (hd1 i (by omega) (by omega)).1, if_pos k0]
      exact ih
theorem s_means {kd st nm vl g : Nat → Nat} {K q : Nat} (hS : yzS kd K q) (hst : ∀ j i, j < i → i ≤ K → st j < st i) (hsb : ∀ i, st i ≤ 2000) (hvl : ∀ j, kd j = 2 → vl j < 10000) (hgb : ∀ j, kd j = 1 → g j < 2 ^ 63) (hg : ∀ j j', kd j = 1 → kd j' = 1 → (g j = g j' ↔ nm j = nm j')) {m : xmm} (hY : yMY kd st vl g K m) (h14 : m.1 144 14 = nI 0) (h153 : ∀ a, a < 9 → m.1 153 a = nI 0) : ∃ m', fX12_means_144 m = some m' ∧ yzV kd st nm vl (q - 1) K m' ∧ yzD kd nm vl (q - 1) K m' ∧ m'.1 144 20 = nI (q - 1) ∧ yfm [153, 154, 155] [14, 15, 20] m m' := by
  have hS' := hS
  obtain ⟨⟨q1, q2, q3, q4⟩, ⟨kK, _, k0, kq⟩, names, kb, hd1, later⟩ := hS'
  have hkb : ∀ i, i ≤ K → 1 ≤ kd i ∧ kd i ≤ 9 := fun i hi => by
    by_cases e : i = K
    · rw [e, kK]; decide
    · have := kb i (by omega); omega
  have f0 : yfm [153, 154, 155] [14, 15, 20] m (xwi m 144 20 0) := yfm_f yfm_r (by decide)
  have f0' : yfm [] [20] m (xwi m 144 20 0) := yfm_f yfm_r (by decide)
  have ft0 : (yzft kd nm vl (q - 1)) 0 = 0 := by
    unfold yzft
    rw [if_neg (by omega), if_neg (by omega), if_neg (by omega)]
  have ftq : (yzft kd nm vl (q - 1)) q = 0 := by
    unfold yzft
    rw [if_neg (by omega), if_neg (by omega), if_pos kq, (hd1 q q1 (Nat.le_refl q)).1, if_neg (by omega)]
  have V1 : yzV kd st nm vl (q - 1) 1 (xwi m 144 20 0) := Or.inl ⟨by rw [xwi_i (by decide)]; exact h14, fun j hj => by rw [show j = 0 by omega]; exact ft0⟩
  have Y0 := yMY_k hY f0' (by decide) (by decide) (by decide) (by decide) (by decide) (by decide)
  obtain ⟨m1, a1, a2, a3, a4⟩ := s_mPosts hS hst hsb hvl hgb hg (q - 1) 1 (xwi m 144 20 0) (by omega) (Nat.le_refl 1) Y0 ⟨by rw [xwi_e]; rfl, fun p hp => absurd hp (Nat.not_lt_zero p)⟩ V1
  have Y1 := yMY_k Y0 a4 (by decide) (by decide) (by decide) (by decide) (by decide) (by decide)
  have D1 : yzD kd nm vl (q - 1) (q + 1) m1 := ⟨fun _ a ha => by
    rw [yzER_0 hS (q + 1) (Nat.le_refl _), yfm_1 a4 153 a (by decide), xwi_k (by decide)]
    exact h153 a (by omega), by rw [yfm_1 a4 153 8 (by decide), xwi_k (by decide)]; exact h153 8 (by decide)⟩
  have s2 : yss kd (q + 1) = 2 := by
    show yfl (yss kd q) (kd q) = 2
    rw [(hd1 q q1 (Nat.le_refl q)).2, kq]; rfl
  obtain ⟨m', r1, r2, r3, r4⟩ := s_m69 hS hst hsb hvl hgb hg (K - (q + 1)) (q + 1) m1 (Nat.le_refl _) (by omega) (by omega) s2 Y1 a2 (yzV_0 a3 ftq) D1
  refine ⟨m', ?_, r2, r3, by rw [r4.2 20 (by decide)]; exact a2.1, yfm_t f0 (yfm_t (yfm_m a4 (by decide) (by decide)) (yfm_m r4 (by decide) (by decide)))⟩
  apply fX12_means_144_i
  rw [xlt_e]
  exact a1 (s_skip69 q4 hkb Y1 (show q + 1 ≤ K + 1 by omega) r1 (q + 1) 0 (Nat.zero_add _) (fun t a b => Or.inl (by
    by_cases z : t = 0
    · rw [z]; omega
    by_cases g : t = q
    · rw [g]; omega
    · have := names t (by omega) (by omega); omega)))
