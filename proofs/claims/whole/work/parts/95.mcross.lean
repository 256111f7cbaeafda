/-! what the tokens tell: the model; 'cross' -/
theorem yz_cr {kd : Nat → Nat} {K q : Nat} (hS : yzS kd K q) {k : Nat} (hqk : q < k) (hkK : k < K) (hk : kd k = 7) (hk2 : yss kd k = 2) {e : Nat} (ke : k < e) (eK : e ≤ K) (hj : ∀ j, k < j → j < e → kd j = 2) (he : kd e ≠ 2) : e < K ∧ kd e = 3 ∧ yss kd (e + 1) = 2 := by
  obtain ⟨⟨q1, q2, q3, q4⟩, ⟨kK, sK, k0, kq⟩, names, kb, hd1, later⟩ := hS
  have s67 : ∀ d i, i = k + 1 + d → i ≤ e → yss kd i = 6 ∨ yss kd i = 7 := by
    intro d
    induction d with
    | zero =>
      intro i hi _
      rw [hi]
      show yfl (yss kd k) (kd k) = 6 ∨ yfl (yss kd k) (kd k) = 7
      rw [hk2, hk]
      exact Or.inl rfl
    | succ d ih =>
      intro i hi hie
      obtain ⟨i, rfl⟩ : ∃ i', i = i' + 1 := ⟨i - 1, by omega⟩
      have p := ih i (by omega) (by omega)
      have k2 := hj i (by omega) (by omega)
      show yfl (yss kd i) (kd i) = 6 ∨ yfl (yss kd i) (kd i) = 7
      rw [k2]
      rcases p with p | p <;> rw [p] <;> exact Or.inr rfl
  have p := s67 (e - (k + 1)) e (by omega) (Nat.le_refl e)
  have ne : e ≠ K := fun t => by rw [t] at p; omega
  have b := kb e (by omega)
  have t := yfl_t (yss kd e) (by omega) (kd e) (by omega) b.2.2
  have s : yss kd (e + 1) = yfl (yss kd e) (kd e) := rfl
  exact ⟨by omega, by omega, by omega⟩
theorem yz_nr {kd : Nat → Nat} {K q : Nat} (hS : yzS kd K q) {k : Nat} (hqk : q < k) (hkK : k < K) (hk : kd k = 5 ∨ kd k = 6) (hk2 : yss kd k = 2) {e : Nat} (ke : k < e) (eK : e ≤ K) (hj : ∀ j, k < j → j < e → kd j = 1) (he : kd e ≠ 1) : e < K ∧ kd e = 3 ∧ yss kd (e + 1) = 2 := by
  obtain ⟨⟨q1, q2, q3, q4⟩, ⟨kK, sK, k0, kq⟩, names, kb, hd1, later⟩ := hS
  have s35 : ∀ d i, i = k + 1 + d → i ≤ e → yss kd i = 3 ∨ yss kd i = 4 ∨ yss kd i = 5 := by
    intro d
    induction d with
    | zero =>
      intro i hi _
      rw [hi]
      show yfl (yss kd k) (kd k) = 3 ∨ yfl (yss kd k) (kd k) = 4 ∨ yfl (yss kd k) (kd k) = 5
      rw [hk2]
      rcases hk with h | h <;> rw [h] <;> exact Or.inl rfl
    | succ d ih =>
      intro i hi hie
      obtain ⟨i, rfl⟩ : ∃ i', i = i' + 1 := ⟨i - 1, by omega⟩
      have p := ih i (by omega) (by omega)
      have k2 := hj i (by omega) (by omega)
      show yfl (yss kd i) (kd i) = 3 ∨ yfl (yss kd i) (kd i) = 4 ∨ yfl (yss kd i) (kd i) = 5
      rw [k2]
      rcases p with p | p | p <;> rw [p]
      · exact Or.inr (Or.inl rfl)
      · exact Or.inr (Or.inr rfl)
      · exact Or.inr (Or.inr rfl)
  have p := s35 (e - (k + 1)) e (by omega) (Nat.le_refl e)
  have ne : e ≠ K := fun t => by rw [t] at p; omega
  have b := kb e (by omega)
  have t := yfl_t (yss kd e) (by omega) (kd e) (by omega) b.2.2
  have s : yss kd (e + 1) = yfl (yss kd e) (kd e) := rfl
  exact ⟨by omega, by omega, by omega⟩
theorem s_told {kd st nm vl g : Nat → Nat} {K q : Nat} (hS : yzS kd K q) (hst : ∀ j i, j < i → i ≤ K → st j < st i) (hsb : ∀ i, st i ≤ 2000) (hvl : ∀ j, kd j = 2 → vl j < 10000) (hgb : ∀ j, kd j = 1 → g j < 2 ^ 63) (hg : ∀ j j', kd j = 1 → kd j' = 1 → (g j = g j' ↔ nm j = nm j')) {k i : Nat} (hi : i ≤ K) (hki : k < i) (h2 : ∀ j, k < j → j ≤ i → kd j = 2) {m : xmm} (hY : yMY kd st vl g K m) : fX12_isToldAhead_144 (nI k) (nI i) m = some (yP (∃ o, k < o ∧ o < i ∧ vl o = vl i), m) := by
  have K4 := hS.1.2.2.2
  have l : ∀ (d o : Nat), o + d = i → k < o → (∀ u, k < u → u < o → vl u ≠ vl i) → bX12_isToldAhead_144_4 (nI i) (nI o) m = some (yP (∃ o, k < o ∧ o < i ∧ vl o = vl i), m) := by
    intro d
    induction d with
    | zero =>
      intro o hd ko hu
      have e : o = i := by omega
      subst e
      apply bX12_isToldAhead_144_4_i
      rw [if_pos (nI_le (Nat.le_refl o) (by omega)), yP_f]
      rintro ⟨u, u1, u2, u3⟩
      exact hu u u1 u2 u3
    | succ d ih =>
      intro o hd ko hu
      have v1 := hvl o (h2 o ko (by omega))
      have v2 := hvl i (h2 i hki (Nat.le_refl i))
      apply bX12_isToldAhead_144_4_i
      rw [if_neg (by rw [nI_leI (by omega) (by omega)]; omega), xinb_t (by omega) (by decide), xinb_t (by omega) (by decide), xgd_t, xgd_t, nI_clamp (by omega), nI_clamp (by omega), (hY.2.2 o (by omega)).2.2.1 (h2 o ko (by omega)), (hY.2.2 i hi).2.2.1 (h2 i hki (Nat.le_refl i))]
      by_cases e : vl o = vl i
      · rw [if_pos (by rw [e]), yP_t ⟨o, ko, by omega, e⟩]
      · rw [if_neg (fun t => e ((nI_eq (by omega) (by omega)).mp t)), nI_1]
        exact ih (o + 1) (by omega) (by omega) (fun u u1 u2 => by
          by_cases e2 : u = o
          · rw [e2]; exact e
          · exact hu u u1 (by omega))
  apply fX12_isToldAhead_144_i
  rw [nI_1]
  exact l (i - (k + 1)) (k + 1) (by omega) (by omega) (fun u a b => by omega)
/-- the lines of a 'cross', b with those ahead -/
theorem s_m130 {c b : Nat} (hc : c ≤ 8) (hb : b < c) {w : Nat → Nat} (hw : ∀ p, p < c → w p < 10000) {A : Prop} {R : Nat → Nat} {T : Nat} (hT : T = ybs (fun p => p < b ∧ w b < w p) 8) : ∀ (d a : Nat) (m : xmm), a + d = b → (∀ p, p < c → m.1 155 p = nI (w p)) → (A → ∀ x, x < 8 → m.1 153 x = nI (yjr R (yzb T a) b x)) → ∃ m', (∀ {z : xmm}, bX12_meansCross_144_121 (nI c) (nI (b + 1)) m' = some z → bX12_meansCross_144_130 (nI c) (nI b) (nI a) m = some z) ∧ (A → ∀ x, x < 8 → m'.1 153 x = nI (yjr R T b x)) ∧ m'.1 153 8 = m.1 153 8 ∧ yfr [153] m m' := by
  intro d
  induction d with
  | zero =>
    intro a m hd hp hA
    have e : a = b := by omega
    subst e
    have te : yzb T a = T := by
      rw [hT]
      apply ytb_ext
      intro i
      refine yb_bs.trans ⟨fun t => t.2.2, fun t => ?_⟩
      have t' := yb_bs.mp t
      exact ⟨t'.1, t'.2.1, t⟩
    rw [te] at hA
    refine ⟨m, fun {z} hz => ?_, hA, rfl, yfr_r⟩
    apply bX12_meansCross_144_130_i
    rw [if_pos (nI_le (Nat.le_refl a) (by omega)), nI_1]
    exact hz
  | succ d ih =>
    intro a m hd hp hA
    have wa := hw a (by omega)
    have wb := hw b hb
    have bt : yb T a ↔ w b < w a := by
      rw [hT]
      exact yb_bs.trans ⟨fun t => t.2.2, fun t => ⟨by omega, by omega, t⟩⟩
    have cmp : nI (w a) ≤ nI (w b) ↔ ¬ w b < w a := by rw [nI_leI (by omega) (by omega)]; omega
    have le : ¬ nI b ≤ nI a := by rw [nI_leI (by omega) (by omega)]; omega
    by_cases g : w b < w a
    · have all : ∀ R' : Nat → Nat, (∀ x, x < 8 → m.1 153 x = nI (R' x)) → ∃ m', fX12_joins 153 (nI a) (nI b) m = some m' ∧ (∀ x, x < 8 → m'.1 153 x = nI (yjm R' a b x)) ∧ (∀ x, 8 ≤ x → m'.1 153 x = m.1 153 x) ∧ yfr [153] m m' := fun R' hR => s_joins (by omega) (by omega) hR
      obtain ⟨m1, a1, a2, a3, a4⟩ := all (fun x => (m.1 153 x).toBitVec.toNat) (fun x _ => by
        apply Int32.toBitVec_inj.1
        show _ = BitVec.ofNat 32 (m.1 153 x).toBitVec.toNat
        rw [BitVec.ofNat_toNat, BitVec.setWidth_eq])
      obtain ⟨m', r1, r2, r3, r4⟩ := ih (a + 1) m1 (by omega) (fun p h => by rw [yfr_1 a4 155 p (by decide)]; exact hp p h) (fun ha x hx => by
        obtain ⟨m'', b1, b2, _⟩ := all _ (hA ha)
        rw [a1] at b1
        rw [Option.some.inj b1, b2 x hx, yjm_s, yzb_s (by omega), yif_t (bt.mpr g)])
      refine ⟨m', fun {z} hz => ?_, r2, r3.trans (a3 8 (Nat.le_refl 8)), yfr_t a4 r4⟩
      apply bX12_meansCross_144_130_i
      rw [if_neg le, xinb_t (by omega) (by decide), xinb_t (by omega) (by decide), xgd_t, xgd_t, nI_clamp (by omega), nI_clamp (by omega), hp a (by omega), hp b hb, if_neg (fun t => cmp.mp t g), a1, Option.bind_some, nI_1]
      exact r1 hz
    · obtain ⟨m', r1, r2, r3, r4⟩ := ih (a + 1) m (by omega) hp (fun ha x hx => by
        rw [yzb_s (by omega), yif_f (fun t => g (bt.mp t))]
        exact hA ha x hx)
      refine ⟨m', fun {z} hz => ?_, r2, r3, r4⟩
      apply bX12_meansCross_144_130_i
      rw [if_neg le, xinb_t (by omega) (by decide), xinb_t (by omega) (by decide), xgd_t, xgd_t, nI_clamp (by omega), nI_clamp (by omega), hp a (by omega), hp b hb, if_pos (cmp.mpr g), nI_1]
      exact r1 hz
theorem s_m121 {kd nm vl : Nat → Nat} {P k c : Nat} (hc : c ≤ 8) (hk : 4 ≤ kd k) (hj : ∀ j, k < j → j < k + 1 + c → kd j = 2) (hw : ∀ p, p < c → vl (k + 1 + p) < 10000) {A : Prop} : ∀ (d b : Nat) (m : xmm), b + d = c → (∀ p, p < c → m.1 155 p = nI (vl (k + 1 + p))) → (A → ∀ x, x < 8 → m.1 153 x = nI (yzER kd nm vl P (k + 1 + b) x)) → ∃ m', bX12_meansCross_144_121 (nI c) (nI b) m = some m' ∧ (A → ∀ x, x < 8 → m'.1 153 x = nI (yzER kd nm vl P (k + 1 + c) x)) ∧ m'.1 153 8 = m.1 153 8 ∧ yfr [153] m m' := by
  intro d
  induction d with
  | zero =>
    intro b m hd hp hA
    have e : b = c := by omega
    subst e
    refine ⟨m, ?_, hA, rfl, yfr_r⟩
    apply bX12_meansCross_144_121_i
    rw [if_pos (nI_le (Nat.le_refl b) (by omega))]
  | succ d ih =>
    intro b m hd hp hA
    have k2 := hj (k + 1 + b) (by omega) (by omega)
    have hhd : yhd kd (k + 1 + b) = k := yhd_at (kd := kd) (k := k) hk _ (by omega) (fun j x y => by have := hj j x (by omega); omega)
    have er : yzER kd nm vl P (k + 1 + (b + 1)) = yjr (yzER kd nm vl P (k + 1 + b)) (yzSx kd vl (k + 1 + b)) b := by
      show (if kd (k + 1 + b) = 1 then (if kd (yhd kd (k + 1 + b)) = 4 then _ else _) else if kd (k + 1 + b) = 2 then yjr _ _ (k + 1 + b - yhd kd (k + 1 + b) - 1) else _) = _
      rw [if_neg (by omega), if_pos k2, hhd, show k + 1 + b - k - 1 = b by omega]
      rfl
    have T : yzSx kd vl (k + 1 + b) = ybs (fun p => p < b ∧ vl (k + 1 + b) < vl (k + 1 + p)) 8 := by
      unfold yzSx
      rw [hhd, show k + 1 + b - k - 1 = b by omega]
    obtain ⟨m1, a1, a2, a3, a4⟩ := s_m130 hc (show b < c by omega) (w := fun p => vl (k + 1 + p)) hw (A := A) (R := yzER kd nm vl P (k + 1 + b)) T b 0 m (Nat.zero_add b) hp (fun ha x hx => by rw [yzb_0, yjr_0]; exact hA ha x hx)
    obtain ⟨m', r1, r2, r3, r4⟩ := ih (b + 1) m1 (by omega) (fun p h => by rw [yfr_1 a4 155 p (by decide)]; exact hp p h) (fun ha x hx => by rw [er]; exact a2 ha x hx)
    refine ⟨m', ?_, r2, r3.trans a3, yfr_t a4 r4⟩
    apply bX12_meansCross_144_121_i
    rw [if_neg (by rw [nI_leI (by omega) (by omega)]; omega)]
    exact a1 r1
/-- after a FAULT of its own a 'cross' is only looked through -/
theorem s_wrong2 {kd st nm vl g : Nat → Nat} {K q : Nat} (hS : yzS kd K q) (hst : ∀ j i, j < i → i ≤ K → st j < st i) (hsb : ∀ i, st i ≤ 2000) (hvl : ∀ j, kd j = 2 → vl j < 10000) (hgb : ∀ j, kd j = 1 → g j < 2 ^ 63) (hg : ∀ j j', kd j = 1 → kd j' = 1 → (g j = g j' ↔ nm j = nm j')) {i o : Nat} (hi : i ≤ K) (ho : 0 < o ∧ o < 100) {m : xmm} (hY : yMY kd st vl g K m) (hV : yzV kd st nm vl (q - 1) i m) (hb : ∃ j, j < i ∧ (yzft kd nm vl (q - 1)) j ≠ 0) : fX12_wrong_144 (nI o) (nI i) m = some m := by
  obtain ⟨m', a1, _, a3, _⟩ := s_wrong hS hst hsb hvl hgb hg hi ho hY hV
  rw [a1, a3 (fun t => by obtain ⟨j, j1, j2⟩ := hb; exact j2 (t j j1))]
theorem yzft_i {kd nm vl : Nat → Nat} {P k i : Nat} (h2 : kd i = 2) (hh : yhd kd i = k) : yzft kd nm vl P i = yif (P ≤ vl i) 5 (yif (∃ o, k < o ∧ o < i ∧ vl o = vl i) 3 0) := by
  unfold yzft
  rw [if_neg (by omega), if_pos h2, hh]
theorem yzV_e {kd st nm vl : Nat → Nat} {P i : Nat} {m : xmm} (h : yzV kd st nm vl P i m) (hb : ∃ j, j < i ∧ yzft kd nm vl P j ≠ 0) : yzV kd st nm vl P (i + 1) m := by
  rcases h with ⟨a, b⟩ | ⟨j, a, b, c, d, e⟩
  · obtain ⟨j, j1, j2⟩ := hb
    exact absurd (b j j1) j2
  · exact Or.inr ⟨j, by omega, b, c, d, e⟩
theorem yk147 {kd st vl g : Nat → Nat} {K i a : Nat} {m : xmm} (hY : yMY kd st vl g K m) (hi : i ≤ K) (hb : 1 ≤ kd i ∧ kd i ≤ 9) (ha : 1 ≤ a ∧ a ≤ 9) : m.1 147 i = nI (ymk a) ↔ kd i = a := by
  rw [(hY.2.2 i hi).1]
  have b1 := ymk_b (kd i) (by omega)
  have b2 := ymk_b a (by omega)
  rw [nI_eq (by omega) (by omega)]
  exact ⟨fun t => ymk_i _ (by omega) hb.1 _ (by omega) ha.1 t, fun t => by rw [t]⟩
theorem ysb_2 {a b : Nat} (h : b < a) : a - b - 1 + 1 = a + 1 - b - 1 := by omega
theorem s_mBad {kd st nm vl g : Nat → Nat} {K q : Nat} (hS : yzS kd K q) (hst : ∀ j i, j < i → i ≤ K → st j < st i) (hsb : ∀ i, st i ≤ 2000) (hvl : ∀ j, kd j = 2 → vl j < 10000) (hgb : ∀ j, kd j = 1 → g j < 2 ^ 63) (hg : ∀ j j', kd j = 1 → kd j' = 1 → (g j = g j' ↔ nm j = nm j')) {k : Nat} (hqk : q < k) (hkK : k < K) (hk : kd k = 7) (hk2 : yss kd k = 2) : ∀ (d i : Nat) (m : xmm) (v : Int32), i + d = K → k < i → (∀ j, k < j → j < i → kd j = 2) → (∃ j, j < i ∧ (yzft kd nm vl (q - 1)) j ≠ 0) → yMY kd st vl g K m → yzMp g (q - 1) m → yzV kd st nm vl (q - 1) i m → m.1 153 8 = nI 0 → ∃ e, bX12_meansCross_144_12 (nI k) v (1 : Int32) (nI i) m = some m ∧ i ≤ e ∧ e < K ∧ (∀ j, k < j → j < e → kd j = 2) ∧ kd e = 3 ∧ yss kd (e + 1) = 2 ∧ yzV kd st nm vl (q - 1) (e + 1) m ∧ yzD kd nm vl (q - 1) (e + 1) m := by
  have hS' := hS
  obtain ⟨⟨q1, q2, q3, q4⟩, ⟨kK, _, k0, kq⟩, names, kb, hd1, later⟩ := hS'
  intro d
  have stop : ∀ (i : Nat) (m : xmm) (v : Int32), k < i → i ≤ K → (∀ j, k < j → j < i → kd j = 2) → kd i ≠ 2 → (∃ j, j < i ∧ (yzft kd nm vl (q - 1)) j ≠ 0) → yMY kd st vl g K m → yzV kd st nm vl (q - 1) i m → m.1 153 8 = nI 0 → ∃ e, bX12_meansCross_144_12 (nI k) v (1 : Int32) (nI i) m = some m ∧ i ≤ e ∧ e < K ∧ (∀ j, k < j → j < e → kd j = 2) ∧ kd e = 3 ∧ yss kd (e + 1) = 2 ∧ yzV kd st nm vl (q - 1) (e + 1) m ∧ yzD kd nm vl (q - 1) (e + 1) m := by
    intro i m v ki hi hj h2 hb hY hV h8
    obtain ⟨c1, c2, c3⟩ := yz_cr hS hqk hkK hk hk2 ki hi hj h2
    refine ⟨i, ?_, Nat.le_refl i, c1, hj, c2, c3, yzV_e hV hb, ⟨fun t => ?_, h8⟩⟩
    · apply bX12_meansCross_144_12_i
      have n2 : ¬ m.1 147 i = (2 : Int32) := fun t => h2 ((yk147 hY hi (by omega) (a := 2) (by decide)).mp t)
      rw [xinb_t (by omega) (by decide), xgd_t, nI_clamp (by omega), if_neg n2, if_neg yn10]
    · obtain ⟨j, j1, j2⟩ := hb
      exact absurd (t j (by omega)) j2
  induction d with
  | zero =>
    intro i m v hd ki hj hb hY hP hV h8
    have e : i = K := by omega
    exact stop i m v ki (by omega) hj (by rw [e, kK]; decide) hb hY hV h8
  | succ d ih =>
    intro i m v hd ki hj hb hY hP hV h8
    by_cases h2 : kd i = 2
    · obtain ⟨e, r1, r2, r3⟩ := ih (i + 1) m v (by omega) (by omega) (fun j a b => by
        by_cases e : j = i
        · rw [e]; exact h2
        · exact hj j a (by omega)) (by obtain ⟨j, j1, j2⟩ := hb; exact ⟨j, by omega, j2⟩) hY hP (yzV_e hV hb) h8
      refine ⟨e, ?_, by omega, r3⟩
      have td := s_told hS hst hsb hvl hgb hg (show i ≤ K by omega) ki (fun j a b => by
        by_cases e : j = i
        · rw [e]; exact h2
        · exact hj j a (by omega)) hY
      have w3 : fX12_wrong_144 (3 : Int32) (nI i) m = some m := s_wrong2 hS hst hsb hvl hgb hg (o := 3) (by omega) (by decide) hY hV hb
      have w5 : fX12_wrong_144 (5 : Int32) (nI i) m = some m := s_wrong2 hS hst hsb hvl hgb hg (o := 5) (by omega) (by decide) hY hV hb
      have b51 : bX12_meansCross_144_51 (nI k) v (1 : Int32) (nI i) (m.1 149 i) m = some m := by
        have b71 : bX12_meansCross_144_71 (nI k) v (1 : Int32) (nI i) (m.1 149 i) m = some m := by
          apply bX12_meansCross_144_71_i
          rw [if_neg yn10, nI_1]
          exact r1
        apply bX12_meansCross_144_51_i
        rw [td, Option.bind_some]
        by_cases t : ∃ o, k < o ∧ o < i ∧ vl o = vl i
        · rw [yP_t t, if_neg yn10]
          dsimp only
          rw [w3, Option.bind_some]
          exact b71
        · rw [yP_f t, if_pos rfl]
          exact b71
      apply bX12_meansCross_144_12_i
      have c2 : m.1 147 i = (2 : Int32) := (yk147 hY (show i ≤ K by omega) (by omega) (a := 2) (by decide)).mpr h2
      rw [xinb_t (by omega) (by decide), xgd_t, nI_clamp (by omega), if_pos c2]
      by_cases l : m.1 149 i < m.1 144 20
      · rw [if_pos l]; exact b51
      · rw [if_neg l, w5, Option.bind_some]; exact b51
    · exact stop i m v ki (by omega) hj h2 hb hY hV h8
theorem s_mCro {kd st nm vl g : Nat → Nat} {K q : Nat} (hS : yzS kd K q) (hst : ∀ j i, j < i → i ≤ K → st j < st i) (hsb : ∀ i, st i ≤ 2000) (hvl : ∀ j, kd j = 2 → vl j < 10000) (hgb : ∀ j, kd j = 1 → g j < 2 ^ 63) (hg : ∀ j j', kd j = 1 → kd j' = 1 → (g j = g j' ↔ nm j = nm j')) {k : Nat} (hqk : q < k) (hkK : k < K) (hk : kd k = 7) (hk2 : yss kd k = 2) : ∀ (d i : Nat) (m : xmm), i + d = K → k < i → (∀ j, k < j → j < i → kd j = 2) → (∀ o, k < o → o < i → vl o < q - 1 ∧ ¬ ∃ u, k < u ∧ u < o ∧ vl u = vl o) → (∀ o, k < o → o < i → m.1 155 (o - k - 1) = nI (vl o)) → yMY kd st vl g K m → yzMp g (q - 1) m → yzV kd st nm vl (q - 1) i m → yzD kd nm vl (q - 1) (k + 1) m → ∃ m' e, bX12_meansCross_144_12 (nI k) (nI (i - k - 1)) (0 : Int32) (nI i) m = some m' ∧ i ≤ e ∧ e < K ∧ (∀ j, k < j → j < e → kd j = 2) ∧ kd e = 3 ∧ yss kd (e + 1) = 2 ∧ yzV kd st nm vl (q - 1) (e + 1) m' ∧ yzD kd nm vl (q - 1) (e + 1) m' ∧ yfm [153, 155] [14, 15] m m' := by
  have hS' := hS
  obtain ⟨⟨q1, q2, q3, q4⟩, ⟨kK, _, k0, kq⟩, names, kb, hd1, later⟩ := hS'
  have hdk : ∀ i, k < i → (∀ j, k < j → j < i → kd j = 2) → yhd kd i = k := fun i ki hj => yhd_at (kd := kd) (k := k) (by omega) i ki (fun j a b => by have := hj j a b; omega)
  have cnt : ∀ i, k < i → (∀ o, k < o → o < i → vl o < q - 1 ∧ ¬ ∃ u, k < u ∧ u < o ∧ vl u = vl o) → i - k - 1 ≤ q - 1 := fun i ki hG => yph (q - 1) (i - k - 1) (fun j => vl (k + 1 + j)) (fun j hj => (hG (k + 1 + j) (by omega) (by omega)).1) (fun a b hab hb e => (hG (k + 1 + b) (by omega) (by omega)).2 ⟨k + 1 + a, by omega, by omega, e⟩)
  have stop : ∀ (i : Nat) (m : xmm), k < i → i ≤ K → kd i ≠ 2 → (∀ j, k < j → j < i → kd j = 2) → (∀ o, k < o → o < i → vl o < q - 1 ∧ ¬ ∃ u, k < u ∧ u < o ∧ vl u = vl o) → (∀ o, k < o → o < i → m.1 155 (o - k - 1) = nI (vl o)) → yMY kd st vl g K m → yzMp g (q - 1) m → yzV kd st nm vl (q - 1) i m → yzD kd nm vl (q - 1) (k + 1) m → ∃ m' e, bX12_meansCross_144_12 (nI k) (nI (i - k - 1)) (0 : Int32) (nI i) m = some m' ∧ i ≤ e ∧ e < K ∧ (∀ j, k < j → j < e → kd j = 2) ∧ kd e = 3 ∧ yss kd (e + 1) = 2 ∧ yzV kd st nm vl (q - 1) (e + 1) m' ∧ yzD kd nm vl (q - 1) (e + 1) m' ∧ yfm [153, 155] [14, 15] m m' := by
    intro i m ki hi h2 hj hG hp hY hP hV hD
    obtain ⟨c1, c2, c3⟩ := yz_cr hS hqk hkK hk hk2 ki hi hj h2
    have cn := cnt i ki hG
    have ft : (yzft kd nm vl (q - 1)) i = yif (i - k - 1 < q - 1) 6 0 := by
      unfold yzft
      rw [if_neg (by omega), if_neg (by omega), if_pos c2, hdk i ki hj, if_pos hk]
    have n2 : ¬ m.1 147 i = (2 : Int32) := fun t => h2 ((yk147 hY hi (by omega) (a := 2) (by decide)).mp t)
    obtain ⟨m1, s1, s2, s3⟩ : ∃ m1, (∀ {z : xmm}, bX12_meansCross_144_121 (nI (i - k - 1)) (0 : Int32) m1 = some z → bX12_meansCross_144_12 (nI k) (nI (i - k - 1)) (0 : Int32) (nI i) m = some z) ∧ yzV kd st nm vl (q - 1) (i + 1) m1 ∧ yfm [] [14, 15] m m1 := by
      by_cases c : i - k - 1 < q - 1
      · rw [yif_t c] at ft
        obtain ⟨m1, a1, a2, a3, a4⟩ := s_wrong hS hst hsb hvl hgb hg (o := 6) hi (by decide) hY hV
        have a1' : fX12_wrong_144 (6 : Int32) (nI i) m = some m1 := a1
        refine ⟨m1, fun {z} hz => ?_, yzV_w hV (by rw [ft]; decide) (by rw [ft]; exact a2) a3, a4⟩
        apply bX12_meansCross_144_12_i
        rw [xinb_t (by omega) (by decide), xgd_t, nI_clamp (by omega), if_neg n2, if_pos rfl, hP.1, if_neg (by rw [nI_leI (by omega) (by omega)]; omega), a1', Option.bind_some]
        exact hz
      · rw [yif_f c] at ft
        refine ⟨m, fun {z} hz => ?_, yzV_0 hV ft, yfm_r⟩
        apply bX12_meansCross_144_12_i
        rw [xinb_t (by omega) (by decide), xgd_t, nI_clamp (by omega), if_neg n2, if_pos rfl, hP.1, if_pos (by rw [nI_leI (by omega) (by omega)]; omega)]
        exact hz
    obtain ⟨m2, b1, b2, b3, b4⟩ := s_m121 (kd := kd) (nm := nm) (vl := vl) (P := q - 1) (k := k) (c := i - k - 1) (by omega) (by omega) (fun j a b => hj j a (by omega)) (fun p hp' => by have := (hG (k + 1 + p) (by omega) (by omega)).1; omega) (A := ∀ j, j < i + 1 → (yzft kd nm vl (q - 1)) j = 0) (i - k - 1) 0 m1 (Nat.zero_add _) (fun p hp' => by
      have := hp (k + 1 + p) (by omega) (by omega)
      rw [show k + 1 + p - k - 1 = p by omega] at this
      rw [yfm_1 s3 155 p (by decide)]
      exact this) (fun A x hx => by
      rw [yfm_1 s3 153 x (by decide)]
      exact hD.1 (fun j hj' => A j (by omega)) x hx)
    have er : yzER kd nm vl (q - 1) (i + 1) = yzER kd nm vl (q - 1) i := by
      show (if kd i = 1 then (if kd (yhd kd i) = 4 then _ else _) else if kd i = 2 then _ else _) = _
      rw [if_neg (by omega), if_neg (by omega)]
    have f2 : yfm [153, 155] [14, 15] m1 m2 := yfm_m (yfm_of (L := [153]) (J := []) b4 (by decide)) (by decide) (by decide)
    refine ⟨m2, i, s1 b1, Nat.le_refl i, c1, hj, c2, c3, yzV_k s2 (yfm_of (L := [153]) (J := []) b4 (by decide)) (by decide) (by decide), ⟨fun A x hx => ?_, ?_⟩, yfm_t (yfm_m s3 (by decide) (by decide)) f2⟩
    · have r := b2 A x hx
      rw [show k + 1 + (i - k - 1) = i by omega] at r
      rw [er]
      exact r
    · rw [b3, yfm_1 s3 153 8 (by decide)]
      exact hD.2
  intro d
  induction d with
  | zero =>
    intro i m hd ki hj hG hp hY hP hV hD
    have e : i = K := by omega
    exact stop i m ki (by omega) (by rw [e, kK]; decide) hj hG hp hY hP hV hD
  | succ d ih =>
    intro i m hd ki hj hG hp hY hP hV hD
    by_cases h2 : kd i = 2
    · have hj' : ∀ j, k < j → j < i + 1 → kd j = 2 := fun j a b => by
        by_cases e : j = i
        · rw [e]; exact h2
        · exact hj j a (by omega)
      have hh := hdk i ki hj
      have ft := yzft_i (nm := nm) (P := q - 1) (vl := vl) h2 hh
      have v4 := hvl i h2
      have cn := cnt i ki hG
      have c2 : m.1 147 i = (2 : Int32) := (yk147 hY (show i ≤ K by omega) (by omega) (a := 2) (by decide)).mpr h2
      have tv : m.1 149 i = nI (vl i) := (hY.2.2 i (by omega)).2.2.1 h2
      have nofault : (∀ j, j < i → (yzft kd nm vl (q - 1)) j = 0) ∨ ∃ j, j < i ∧ (yzft kd nm vl (q - 1)) j ≠ 0 := by
        by_cases t : ∃ j, j < i ∧ (yzft kd nm vl (q - 1)) j ≠ 0
        · exact Or.inr t
        · exact Or.inl fun j hj => Classical.byContradiction fun n => t ⟨j, hj, n⟩
      -- a FAULT here: the rest is only looked through
      have bad : ∀ m1 : xmm, (yzft kd nm vl (q - 1)) i ≠ 0 → yfm [] [14, 15] m m1 → yzV kd st nm vl (q - 1) (i + 1) m1 → (∀ {z : xmm}, bX12_meansCross_144_12 (nI k) (nI (i - k - 1)) (1 : Int32) (nI (i + 1)) m1 = some z → bX12_meansCross_144_12 (nI k) (nI (i - k - 1)) (0 : Int32) (nI i) m = some z) → ∃ m' e, bX12_meansCross_144_12 (nI k) (nI (i - k - 1)) (0 : Int32) (nI i) m = some m' ∧ i ≤ e ∧ e < K ∧ (∀ j, k < j → j < e → kd j = 2) ∧ kd e = 3 ∧ yss kd (e + 1) = 2 ∧ yzV kd st nm vl (q - 1) (e + 1) m' ∧ yzD kd nm vl (q - 1) (e + 1) m' ∧ yfm [153, 155] [14, 15] m m' := by
        intro m1 f0 f1 v1 go
        obtain ⟨e, r1, r2, r3, r4, r5, r6, r7, r8⟩ := s_mBad hS hst hsb hvl hgb hg hqk hkK hk hk2 d (i + 1) m1 (nI (i - k - 1)) (by omega) (by omega) hj' ⟨i, by omega, f0⟩ (yMY_k hY f1 (by decide) (by decide) (by decide) (by decide) (by decide) (by decide)) ⟨by rw [f1.2 20 (by decide)]; exact hP.1, fun p hp => by rw [yfr_2 f1.1 154 p (by decide)]; exact hP.2 p hp⟩ v1 (by rw [yfm_1 f1 153 8 (by decide)]; exact hD.2)
        exact ⟨m1, e, go r1, by omega, r3, r4, r5, r6, r7, r8, yfm_m f1 (by decide) (by decide)⟩
      have b71 : ∀ m1 : xmm, ∀ {z : xmm}, bX12_meansCross_144_12 (nI k) (nI (i - k - 1)) (1 : Int32) (nI (i + 1)) m1 = some z → bX12_meansCross_144_71 (nI k) (nI (i - k - 1)) (1 : Int32) (nI i) (nI (vl i)) m1 = some z := fun m1 {z} hz => by
        apply bX12_meansCross_144_71_i
        rw [if_neg yn10, nI_1]
        exact hz
      by_cases c : q - 1 ≤ vl i
      · rw [yif_t c] at ft
        obtain ⟨m1, a1, a2, a3, a4⟩ := s_wrong hS hst hsb hvl hgb hg (o := 5) (show i ≤ K by omega) (by decide) hY hV
        have a1' : fX12_wrong_144 (5 : Int32) (nI i) m = some m1 := a1
        have V1 := yzV_w hV (by rw [ft]; decide) (by rw [ft]; exact a2) a3
        have Y1 := yMY_k hY a4 (by decide) (by decide) (by decide) (by decide) (by decide) (by decide)
        have td := s_told hS hst hsb hvl hgb hg (show i ≤ K by omega) ki (fun j a b => hj' j a (by omega)) Y1
        refine bad m1 (by rw [ft]; decide) a4 V1 (fun {z} hz => ?_)
        apply bX12_meansCross_144_12_i
        rw [xinb_t (by omega) (by decide), xgd_t, nI_clamp (by omega), if_pos c2, tv, hP.1, if_neg (by rw [nI_ltI (by omega) (by omega)]; omega), a1', Option.bind_some]
        apply bX12_meansCross_144_51_i
        rw [td, Option.bind_some]
        by_cases t : ∃ o, k < o ∧ o < i ∧ vl o = vl i
        · rcases nofault with n | n
          · exfalso
            obtain ⟨o, o1, o2, o3⟩ := t
            have := (hG o o1 o2).1
            omega
          · have m1e : m1 = m := a3 (fun t => by obtain ⟨j, j1, j2⟩ := n; exact j2 (t j j1))
            have w3 : fX12_wrong_144 (3 : Int32) (nI i) m1 = some m1 := by
              rw [m1e]; exact s_wrong2 hS hst hsb hvl hgb hg (o := 3) (by omega) (by decide) hY hV n
            rw [yP_t t, if_neg yn10]
            dsimp only
            rw [w3, Option.bind_some]
            exact b71 m1 hz
        · rw [yP_f t, if_pos rfl]
          exact b71 m1 hz
      · rw [yif_f c] at ft
        have td := s_told hS hst hsb hvl hgb hg (show i ≤ K by omega) ki (fun j a b => hj' j a (by omega)) hY
        have g51 : ∀ {z : xmm}, (if yP (∃ o, k < o ∧ o < i ∧ vl o = vl i) = 0 then bX12_meansCross_144_71 (nI k) (nI (i - k - 1)) (0 : Int32) (nI i) (nI (vl i)) m else (fX12_wrong_144 (3 : Int32) (nI i) m).bind fun (w3 : xmm) => bX12_meansCross_144_71 (nI k) (nI (i - k - 1)) (1 : Int32) (nI i) (nI (vl i)) w3) = some z → bX12_meansCross_144_12 (nI k) (nI (i - k - 1)) (0 : Int32) (nI i) m = some z := fun {z} hz => by
          apply bX12_meansCross_144_12_i
          rw [xinb_t (by omega) (by decide), xgd_t, nI_clamp (by omega), if_pos c2, tv, hP.1, if_pos (by rw [nI_ltI (by omega) (by omega)]; omega)]
          apply bX12_meansCross_144_51_i
          rw [td, Option.bind_some]
          exact hz
        by_cases t : ∃ o, k < o ∧ o < i ∧ vl o = vl i
        · rw [yif_t t] at ft
          obtain ⟨m1, a1, a2, a3, a4⟩ := s_wrong hS hst hsb hvl hgb hg (o := 3) (show i ≤ K by omega) (by decide) hY hV
          have a1' : fX12_wrong_144 (3 : Int32) (nI i) m = some m1 := a1
          refine bad m1 (by rw [ft]; decide) a4 (yzV_w hV (by rw [ft]; decide) (by rw [ft]; exact a2) a3) (fun {z} hz => ?_)
          apply g51
          rw [yP_t t, if_neg yn10, a1', Option.bind_some]
          exact b71 m1 hz
        · rw [yif_f t] at ft
          have hG' : ∀ o, k < o → o < i + 1 → vl o < q - 1 ∧ ¬ ∃ u, k < u ∧ u < o ∧ vl u = vl o := fun o a b => by
            by_cases e : o = i
            · rw [e]; exact ⟨by omega, t⟩
            · exact hG o a (by omega)
          have cn' := cnt (i + 1) (by omega) hG'
          have f1 : yfm [153, 155] [14, 15] m (xwi m 155 (i - k - 1) (nI (vl i))) := yfm_w yfm_r (by decide) (by decide)
          have f1' : yfm [155] [] m (xwi m 155 (i - k - 1) (nI (vl i))) := yfm_w yfm_r (by decide) (by decide)
          obtain ⟨m', e, r1, r2, r3⟩ := ih (i + 1) (xwi m 155 (i - k - 1) (nI (vl i))) (by omega) (by omega) hj' hG' (fun o a b => by
            by_cases e : o = i
            · rw [e, xwi_e]
            · rw [xwi_i (by omega)]; exact hp o a (by omega)) (yMY_k hY f1' (by decide) (by decide) (by decide) (by decide) (by decide) (by decide)) ⟨by rw [f1'.2 20 (by decide)]; exact hP.1, fun p hp => hP.2 p hp⟩ (yzV_k (yzV_0 hV ft) f1' (by decide) (by decide)) ⟨fun A x hx => by rw [xwi_k (by decide)]; exact hD.1 A x hx, by rw [xwi_k (by decide)]; exact hD.2⟩
          refine ⟨m', e, g51 ?_, by omega, r3.1, r3.2.1, r3.2.2.1, r3.2.2.2.1, r3.2.2.2.2.1, r3.2.2.2.2.2.1, yfm_t f1 r3.2.2.2.2.2.2⟩
          rw [yP_f t, if_pos rfl]
          apply bX12_meansCross_144_71_i
          rw [if_pos rfl, xinb_t (by omega) (by decide), xgd_t, nI_clamp (by omega), xlt_e, nI_1, nI_1, ysb_2 ki]
          exact r1
    · exact stop i m ki (by omega) h2 hj hG hp hY hP hV hD
