/-! what the tokens tell: the model; ways and heaps -/
/-- the draft at token i -/
def yzD (kd nm vl : Nat → Nat) (P i : Nat) (m : xmm) : Prop := ((∀ j, j < i → yzft kd nm vl P j = 0) → ∀ a, a < 8 → m.1 153 a = nI (yzER kd nm vl P i a)) ∧ m.1 153 8 = nI 0
theorem s_joinsV {nm : Nat → Nat} {P : Nat} (hP : P ≤ 8) (x y : Nat) (m : xmm) : ∃ m', fX12_joins 153 (ypv nm P x) (ypv nm P y) m = some m' ∧ (ypa nm P x < P → ypa nm P y < P → ∀ R, (∀ a, a < 8 → m.1 153 a = nI (R a)) → ∀ a, a < 8 → m'.1 153 a = nI (yjm R (ypa nm P x) (ypa nm P y) a)) ∧ m'.1 153 8 = m.1 153 8 ∧ yfr [153] m m' := by
  have neg : (-1 : Int32) < 0 := by decide
  unfold ypv
  by_cases hx : ypa nm P x < P
  · by_cases hy : ypa nm P y < P
    · rw [yif_t hx, yif_t hy]
      have all : ∀ R : Nat → Nat, (∀ a, a < 8 → m.1 153 a = nI (R a)) → ∃ m', fX12_joins 153 (nI (ypa nm P x)) (nI (ypa nm P y)) m = some m' ∧ (∀ a, a < 8 → m'.1 153 a = nI (yjm R (ypa nm P x) (ypa nm P y) a)) ∧ (∀ a, 8 ≤ a → m'.1 153 a = m.1 153 a) ∧ yfr [153] m m' := fun R hR => s_joins (by omega) (by omega) hR
      obtain ⟨m', a1, a2, a3, a4⟩ := all (fun a => (m.1 153 a).toBitVec.toNat) (fun a _ => by
        apply Int32.toBitVec_inj.1
        show _ = BitVec.ofNat 32 (m.1 153 a).toBitVec.toNat
        rw [BitVec.ofNat_toNat, BitVec.setWidth_eq])
      refine ⟨m', a1, fun _ _ R hR => ?_, a3 8 (Nat.le_refl 8), a4⟩
      obtain ⟨m'', b1, b2, _⟩ := all R hR
      rw [a1] at b1
      rw [Option.some.inj b1]
      exact b2
    · rw [yif_f hy, yif_t hx]
      refine ⟨m, ?_, fun _ t => absurd t hy, rfl, yfr_r⟩
      apply fX12_joins_i
      rw [if_neg (nI_pos (by omega)), if_pos neg]
  · rw [yif_f hx]
    refine ⟨m, ?_, fun t => absurd t hx, rfl, yfr_r⟩
    apply fX12_joins_i
    rw [if_pos neg]
/-- the owns of names from s0 on, behind k, below o -/
noncomputable def yzSo (nm : Nat → Nat) (P s0 k o : Nat) : Nat := ybs (fun a => ∃ o', s0 ≤ o' ∧ k < o' ∧ o' < o ∧ ypa nm P (nm o') = a) 8
theorem yzSo_s {nm : Nat → Nat} {P s0 k o : Nat} (hP : P ≤ 8) (h1 : s0 ≤ o) (h2 : k < o) (ho : ypa nm P (nm o) < P) : yzSo nm P s0 k (o + 1) = yzSo nm P s0 k o ||| 2 ^ ypa nm P (nm o) := by
  apply ytb_ext
  intro i
  unfold yzSo
  refine yb_bs.trans (Iff.trans ?_ yb_or.symm)
  rw [yb_bs, yb_pw]
  constructor
  · rintro ⟨t1, o', o1, o2, o3, o4⟩
    by_cases e : o' = o
    · rw [e] at o4; exact Or.inr o4.symm
    · exact Or.inl ⟨t1, o', o1, o2, by omega, o4⟩
  · rintro (⟨t1, o', o1, o2, o3, o4⟩ | t)
    · exact ⟨t1, o', o1, o2, by omega, o4⟩
    · exact ⟨by omega, o, h1, h2, by omega, t.symm⟩
theorem s_m57 {kd st nm vl g : Nat → Nat} {K q : Nat} (hS : yzS kd K q) (hst : ∀ j i, j < i → i ≤ K → st j < st i) (hsb : ∀ i, st i ≤ 2000) (hvl : ∀ j, kd j = 2 → vl j < 10000) (hgb : ∀ j, kd j = 1 → g j < 2 ^ 63) (hg : ∀ j j', kd j = 1 → kd j' = 1 → (g j = g j' ↔ nm j = nm j')) {k i s0 : Nat} (hi : i ≤ K) (hk1 : ∀ j, k < j → j < i → kd j = 1) {R : Nat → Nat} : ∀ (d o : Nat) (m : xmm), o + d = i → k < o → s0 ≤ o → yMY kd st vl g K m → yzMp g (q - 1) m → (((∀ o, k < o → o < i → ypa nm (q - 1) (nm o) < q - 1) ∧ ypa nm (q - 1) (nm i) < q - 1) → ∀ a, a < 8 → m.1 153 a = nI (yjr R (yzSo nm (q - 1) s0 k o) (ypa nm (q - 1) (nm i)) a)) → ∃ m', (∀ {z : xmm}, bX12_meansNames_144_4 (nI k) (nI (i + 1)) m' = some z → bX12_meansNames_144_57 (nI k) (nI i) (ypv nm (q - 1) (nm i)) (nI o) m = some z) ∧ (((∀ o, k < o → o < i → ypa nm (q - 1) (nm o) < q - 1) ∧ ypa nm (q - 1) (nm i) < q - 1) → ∀ a, a < 8 → m'.1 153 a = nI (yjr R (yzSo nm (q - 1) s0 k i) (ypa nm (q - 1) (nm i)) a)) ∧ m'.1 153 8 = m.1 153 8 ∧ yfr [153] m m' := by
  have q9 := hS.1.2.1
  have K4 := hS.1.2.2.2
  intro d
  induction d with
  | zero =>
    intro o m hd ko so hY hP hA
    have e : o = i := by omega
    subst e
    refine ⟨m, fun {z} hz => ?_, hA, rfl, yfr_r⟩
    apply bX12_meansNames_144_57_i
    rw [if_pos (nI_le (Nat.le_refl o) (by omega)), nI_1]
    exact hz
  | succ d ih =>
    intro o m hd ko so hY hP hA
    have k1 := hk1 o ko (by omega)
    have pa := s_at hS hst hsb hvl hgb hg (n := q - 1) (by have := hS.1.1; omega) (show o ≤ K by omega) k1 hY hP
    obtain ⟨m1, a1, a2, a3, a4⟩ := s_joinsV (nm := nm) (P := q - 1) (by omega) (nm o) (nm i) m
    have f1 : yfm [153] [] m m1 := yfm_of a4 (by decide)
    obtain ⟨m', r1, r2, r3, r4⟩ := ih (o + 1) m1 (by omega) (by omega) (by omega) (yMY_k hY f1 (by decide) (by decide) (by decide) (by decide) (by decide) (by decide)) ⟨by rw [f1.2 20 (by decide)]; exact hP.1, fun p hp => by rw [yfr_2 a4 154 p (by decide)]; exact hP.2 p hp⟩ (fun A a ha => by
      have ho := A.1 o ko (by omega)
      have r := a2 ho A.2 _ (hA A) a ha
      rw [r, yjm_s, yzSo_s (by omega) so ko ho])
    refine ⟨m', fun {z} hz => ?_, r2, r3.trans a3, yfr_t a4 r4⟩
    apply bX12_meansNames_144_57_i
    rw [if_neg (by rw [nI_leI (by omega) (by omega)]; omega), if_neg (by rw [nI_leI (by omega) (by omega)]; omega), xinb_t (by omega) (by decide), xgd_t, nI_clamp (by omega), pa, Option.bind_some]
    dsimp only
    rw [a1, Option.bind_some, nI_1]
    exact r1 hz
theorem s_mNames {kd st nm vl g : Nat → Nat} {K q : Nat} (hS : yzS kd K q) (hst : ∀ j i, j < i → i ≤ K → st j < st i) (hsb : ∀ i, st i ≤ 2000) (hvl : ∀ j, kd j = 2 → vl j < 10000) (hgb : ∀ j, kd j = 1 → g j < 2 ^ 63) (hg : ∀ j j', kd j = 1 → kd j' = 1 → (g j = g j' ↔ nm j = nm j')) {k : Nat} (hqk : q < k) (hk : kd k = 5 ∨ kd k = 6) : ∀ (d i : Nat) (m : xmm), i + d = K → k < i → (∀ j, k < j → j < i → kd j = 1) → yMY kd st vl g K m → yzMp g (q - 1) m → yzV kd st nm vl (q - 1) i m → yzD kd nm vl (q - 1) i m → ∃ m' e, bX12_meansNames_144_4 (nI k) (nI i) m = some m' ∧ i ≤ e ∧ e ≤ K ∧ (∀ j, k < j → j < e → kd j = 1) ∧ kd e ≠ 1 ∧ yzV kd st nm vl (q - 1) e m' ∧ yzD kd nm vl (q - 1) e m' ∧ yfm [153] [14, 15] m m' := by
  have hS' := hS
  obtain ⟨⟨q1, q2, q3, q4⟩, ⟨kK, _, k0, kq⟩, names, kb, hd1, later⟩ := hS'
  have stop : ∀ (i : Nat) (m : xmm), k < i → i ≤ K → kd i ≠ 1 → yMY kd st vl g K m → bX12_meansNames_144_4 (nI k) (nI i) m = some m := by
    intro i m ki hi h1 hY
    apply bX12_meansNames_144_4_i
    have bb : 1 ≤ kd i ∧ kd i ≤ 9 := by
      by_cases e : i = K
      · rw [e, kK]; decide
      · have := kb i (by omega); omega
    rw [xinb_t (by omega) (by decide), xgd_t, nI_clamp (by omega), (hY.2.2 i hi).1, if_neg]
    intro t
    have t' : nI (ymk (kd i)) = nI (ymk 1) := t
    have b1 := ymk_b (kd i) (by omega)
    exact h1 (ymk_i _ (by omega) bb.1 _ (by decide) (by decide) ((nI_eq (by omega) (by decide)).mp t'))
  intro d
  induction d with
  | zero =>
    intro i m hd ki hj hY hP hV hD
    have e : i = K := by omega
    have n1 : kd i ≠ 1 := by rw [e, kK]; decide
    exact ⟨m, i, stop i m ki (by omega) n1 hY, Nat.le_refl i, by omega, hj, n1, hV, hD, yfm_r⟩
  | succ d ih =>
    intro i m hd ki hj hY hP hV hD
    by_cases h1 : kd i = 1
    · have hhd : yhd kd i = k := yhd_at (kd := kd) (k := k) (by omega) i ki (fun j a b => by have := hj j a b; omega)
      have pa := s_at hS hst hsb hvl hgb hg (n := q - 1) (by omega) (show i ≤ K by omega) h1 hY hP
      have ft : (yzft kd nm vl (q - 1)) i = yif (ypa nm (q - 1) (nm i) < q - 1) 0 4 := by
        unfold yzft
        rw [if_pos h1, hhd, if_neg (by omega)]
      have er : yzER kd nm vl (q - 1) (i + 1) = yjr (yzER kd nm vl (q - 1) i) (yzSn kd nm (q - 1) i) (ypa nm (q - 1) (nm i)) := by
        show (if kd i = 1 then (if kd (yhd kd i) = 4 then _ else _) else if kd i = 2 then _ else _) = _
        rw [if_pos h1, hhd, if_neg (by omega)]
      have i4 : xinb 403 (nI i) = true := xinb_t (by omega) (by decide)
      have k4 : xinb 403 (nI k) = true := xinb_t (by omega) (by decide)
      have c1 : m.1 147 i = (1 : Int32) := by rw [(hY.2.2 i (by omega)).1, h1]; rfl
      -- behind 'wrong'
      obtain ⟨m1, s1, s2, s3⟩ : ∃ m1, (∀ {z : xmm}, bX12_meansNames_144_35 (nI k) (nI i) (ypv nm (q - 1) (nm i)) m1 = some z → bX12_meansNames_144_4 (nI k) (nI i) m = some z) ∧ yzV kd st nm vl (q - 1) (i + 1) m1 ∧ yfm [] [14, 15] m m1 := by
        by_cases c : ypa nm (q - 1) (nm i) < q - 1
        · rw [yif_t c] at ft
          refine ⟨m, fun {z} hz => ?_, yzV_0 hV ft, yfm_r⟩
          apply bX12_meansNames_144_4_i
          rw [i4, xgd_t, nI_clamp (by omega), if_pos c1, pa, Option.bind_some]
          dsimp only
          rw [if_pos (show (0 : Int32) ≤ ypv nm (q - 1) (nm i) by unfold ypv; rw [yif_t c]; exact nI_pos' (by omega))]
          exact hz
        · rw [yif_f c] at ft
          obtain ⟨m1, a1, a2, a3, a4⟩ := s_wrong hS hst hsb hvl hgb hg (o := 4) (show i ≤ K by omega) (by decide) hY hV
          have a1' : fX12_wrong_144 (4 : Int32) (nI i) m = some m1 := a1
          refine ⟨m1, fun {z} hz => ?_, yzV_w hV (by rw [ft]; decide) (by rw [ft]; exact a2) a3, a4⟩
          apply bX12_meansNames_144_4_i
          rw [i4, xgd_t, nI_clamp (by omega), if_pos c1, pa, Option.bind_some]
          dsimp only
          rw [if_neg (show ¬ (0 : Int32) ≤ ypv nm (q - 1) (nm i) by unfold ypv; rw [yif_f c]; decide), a1', Option.bind_some]
          exact hz
      have Y1 := yMY_k hY s3 (by decide) (by decide) (by decide) (by decide) (by decide) (by decide)
      have P1 : yzMp g (q - 1) m1 := ⟨by rw [s3.2 20 (by decide)]; exact hP.1, fun p hp => by rw [yfr_2 s3.1 154 p (by decide)]; exact hP.2 p hp⟩
      -- the lines
      have fin : ∀ (s0 o : Nat), k < o → s0 ≤ o → o ≤ i → yzSo nm (q - 1) s0 k o = 0 → yzSo nm (q - 1) s0 k i = yzSn kd nm (q - 1) i → (∀ {z : xmm}, bX12_meansNames_144_57 (nI k) (nI i) (ypv nm (q - 1) (nm i)) (nI o) m1 = some z → bX12_meansNames_144_35 (nI k) (nI i) (ypv nm (q - 1) (nm i)) m1 = some z) → ∃ m' e, bX12_meansNames_144_4 (nI k) (nI i) m = some m' ∧ i ≤ e ∧ e ≤ K ∧ (∀ j, k < j → j < e → kd j = 1) ∧ kd e ≠ 1 ∧ yzV kd st nm vl (q - 1) e m' ∧ yzD kd nm vl (q - 1) e m' ∧ yfm [153] [14, 15] m m' := by
        intro s0 o ko so oi S0 Si go
        have own : (∀ j, j < i + 1 → (yzft kd nm vl (q - 1)) j = 0) → (∀ o, k < o → o < i → ypa nm (q - 1) (nm o) < q - 1) ∧ ypa nm (q - 1) (nm i) < q - 1 := by
          intro hn
          have one : ∀ o, k < o → o < i + 1 → kd o = 1 → ypa nm (q - 1) (nm o) < q - 1 := by
            intro o o1 o2 o3
            have ho : yhd kd o = k := yhd_at (kd := kd) (k := k) (by omega) o o1 (fun j a b => by have := hj j a (by omega); omega)
            have f := hn o o2
            unfold yzft at f
            rw [if_pos o3, ho, if_neg (by omega)] at f
            refine Classical.byContradiction fun n => ?_
            rw [yif_f n] at f
            omega
          exact ⟨fun o o1 o2 => one o o1 (by omega) (hj o o1 o2), one i ki (by omega) h1⟩
        by_cases hn : ∀ j, j < i → (yzft kd nm vl (q - 1)) j = 0
        · obtain ⟨m2, b1, b2, b3, b4⟩ := s_m57 hS hst hsb hvl hgb hg (R := yzER kd nm vl (q - 1) i) (s0 := s0) (show i ≤ K by omega) hj (i - o) o m1 (by omega) ko so Y1 P1 (fun A a ha => by
            rw [S0, yjr_0, yfm_1 s3 153 a (by decide)]
            exact hD.1 hn a ha)
          have f2 : yfm [153] [] m1 m2 := yfm_of b4 (by decide)
          obtain ⟨m', e, r1, r2, r3, r4, r5, r6, r7, r8⟩ := ih (i + 1) m2 (by omega) (by omega) (fun j a b => by
            by_cases e : j = i
            · rw [e]; exact h1
            · exact hj j a (by omega)) (yMY_k Y1 f2 (by decide) (by decide) (by decide) (by decide) (by decide) (by decide)) ⟨by rw [f2.2 20 (by decide)]; exact P1.1, fun p hp => by rw [yfr_2 b4 154 p (by decide)]; exact P1.2 p hp⟩ (yzV_k s2 f2 (by decide) (by decide)) ⟨fun hn2 a ha => by rw [er, ← Si]; exact b2 (own hn2) a ha, by rw [b3, yfm_1 s3 153 8 (by decide)]; exact hD.2⟩
          exact ⟨m', e, s1 (go (b1 r1)), by omega, r3, r4, r5, r6, r7, yfm_t (yfm_m s3 (by decide) (by decide)) (yfm_t (yfm_m f2 (by decide) (by decide)) r8)⟩
        · obtain ⟨m2, b1, b2, b3, b4⟩ := s_m57 hS hst hsb hvl hgb hg (R := fun a => (m1.1 153 a).toBitVec.toNat) (s0 := s0) (show i ≤ K by omega) hj (i - o) o m1 (by omega) ko so Y1 P1 (fun A a ha => by
            rw [S0, yjr_0]
            apply Int32.toBitVec_inj.1
            show _ = BitVec.ofNat 32 (m1.1 153 a).toBitVec.toNat
            rw [BitVec.ofNat_toNat, BitVec.setWidth_eq])
          have f2 : yfm [153] [] m1 m2 := yfm_of b4 (by decide)
          obtain ⟨m', e, r1, r2, r3, r4, r5, r6, r7, r8⟩ := ih (i + 1) m2 (by omega) (by omega) (fun j a b => by
            by_cases e : j = i
            · rw [e]; exact h1
            · exact hj j a (by omega)) (yMY_k Y1 f2 (by decide) (by decide) (by decide) (by decide) (by decide) (by decide)) ⟨by rw [f2.2 20 (by decide)]; exact P1.1, fun p hp => by rw [yfr_2 b4 154 p (by decide)]; exact P1.2 p hp⟩ (yzV_k s2 f2 (by decide) (by decide)) ⟨fun hn2 => absurd (fun j hj => hn2 j (by omega)) hn, by rw [b3, yfm_1 s3 153 8 (by decide)]; exact hD.2⟩
          exact ⟨m', e, s1 (go (b1 r1)), by omega, r3, r4, r5, r6, r7, yfm_t (yfm_m s3 (by decide) (by decide)) (yfm_t (yfm_m f2 (by decide) (by decide)) r8)⟩
      have tk : m1.1 147 k = nI (ymk (kd k)) := (Y1.2.2 k (by omega)).1
      by_cases h6 : kd k = 6
      · refine fin (k + 1) (k + 1) (by omega) (Nat.le_refl _) (by omega) (ybs_0 fun a ⟨o', o1, o2, o3, _⟩ => by omega) ?_ (fun {z} hz => ?_)
        · unfold yzSo yzSn
          rw [hhd]
          exact ybs_c fun a _ => ⟨fun ⟨o, o1, o2, o3, o4⟩ => ⟨o, o2, o3, Or.inl h6, o4⟩, fun ⟨o, o1, o2, _, o4⟩ => ⟨o, by omega, o1, o2, o4⟩⟩
        · apply bX12_meansNames_144_35_i
          rw [k4, xgd_t, nI_clamp (by omega), tk, h6, if_pos (show nI (ymk 6) = (22 : Int32) from rfl), nI_1]
          exact hz
      · have n22 : ¬ nI (ymk (kd k)) = (22 : Int32) := by rw [show kd k = 5 by omega]; decide
        by_cases g1 : k < i - 1
        · refine fin (i - 1) (i - 1) g1 (Nat.le_refl _) (by omega) (ybs_0 fun a ⟨o', o1, o2, o3, _⟩ => by omega) ?_ (fun {z} hz => ?_)
          · unfold yzSo yzSn
            rw [hhd]
            exact ybs_c fun a _ => ⟨fun ⟨o, o1, o2, o3, o4⟩ => ⟨o, o2, o3, Or.inr (by omega), o4⟩, fun ⟨o, o1, o2, o3, o4⟩ => ⟨o, by omega, o1, o2, o4⟩⟩
          · apply bX12_meansNames_144_35_i
            have sb : nI i - (1 : Int32) = nI (i - 1) := pk_sub (b := 1) (by omega)
            rw [k4, xgd_t, nI_clamp (by omega), tk, if_neg n22, sb]
            exact hz
        · have ik : i = k + 1 := by omega
          refine fin i i ki (Nat.le_refl _) (Nat.le_refl _) (ybs_0 fun a ⟨o', o1, o2, o3, _⟩ => by omega) ?_ (fun {z} hz => ?_)
          · unfold yzSo yzSn
            rw [hhd]
            exact ybs_c fun a _ => ⟨fun ⟨o, o1, o2, o3, o4⟩ => by omega, fun ⟨o, o1, o2, o3, o4⟩ => by omega⟩
          · apply bX12_meansNames_144_35_i
            have sb : nI i - (1 : Int32) = nI (i - 1) := pk_sub (b := 1) (by omega)
            rw [k4, xgd_t, nI_clamp (by omega), tk, if_neg n22, sb]
            apply bX12_meansNames_144_57_i
            rw [if_neg (by rw [nI_leI (by omega) (by omega)]; omega), if_pos (by rw [nI_leI (by omega) (by omega)]; omega), nI_1, show i - 1 + 1 = i by omega]
            exact hz
    · exact ⟨m, i, stop i m ki (by omega) h1 hY, Nat.le_refl i, by omega, hj, h1, hV, hD, yfm_r⟩
