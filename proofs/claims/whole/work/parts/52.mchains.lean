/-! the model's fewest CHAINS -/
def ysp (R : Nat → Nat) (w c : Nat) : Prop := ∃ f : Nat → Nat, (∀ q, yb w q → f q < c) ∧ ∀ q r, q ≠ r → yb w q → yb w r → f q = f r → yad R q r
theorem ybge {w q : Nat} (h : yb w q) : 2 ^ q ≤ w := ysb_le fun a ha => by rw [yb_pw.mp ha]; exact h
theorem ysp_w (R : Nat → Nat) (w : Nat) : ysp R w w := ⟨fun q => q, fun q hq => Nat.lt_of_lt_of_le Nat.lt_two_pow_self (ybge hq), fun q r h _ _ e => absurd e h⟩
theorem ysp_n (R : Nat → Nat) {w n : Nat} (h : w < 2 ^ n) : ysp R w n := ⟨fun q => q, fun _ hq => ytb_of h hq, fun q r h _ _ e => absurd e h⟩
noncomputable def ymw (R : Nat → Nat) (w : Nat) : Nat := Classical.choose (yleast (P := ysp R w) ⟨w, ysp_w R w⟩)
theorem ymw_s (R : Nat → Nat) (w : Nat) : ysp R w (ymw R w) ∧ ∀ c, c < ymw R w → ¬ ysp R w c := Classical.choose_spec (yleast (P := ysp R w) ⟨w, ysp_w R w⟩)
theorem ymw_le {R : Nat → Nat} {w c : Nat} (h : ysp R w c) : ymw R w ≤ c := by
  rcases Nat.lt_or_ge c (ymw R w) with g | g
  · exact absurd h ((ymw_s R w).2 c g)
  · exact g
theorem ymw_0 (R : Nat → Nat) : ymw R 0 = 0 := Nat.le_zero.mp (ymw_le (ysp_w R 0))
theorem ysp_b {R : Nat → Nat} {w own c : Nat} (h2 : ychn R own) (h : ysp R (ynd w own) c) : ysp R w (c + 1) := by
  obtain ⟨f, f1, f2⟩ := h
  refine ⟨fun q => if own.testBit q = true then c else f q, fun q hq => ?_, fun q r hqr hq hr e => ?_⟩
  · dsimp only
    by_cases hb : own.testBit q = true
    · rw [if_pos hb]; omega
    · rw [if_neg hb]
      have := f1 q (yb_nd.mpr ⟨hq, hb⟩)
      omega
  · dsimp only at e
    by_cases hb : own.testBit q = true
    · by_cases hc : own.testBit r = true
      · exact h2 q r hqr hb hc
      · rw [if_pos hb, if_neg hc] at e
        have := f1 r (yb_nd.mpr ⟨hr, hc⟩)
        omega
    · rw [if_neg hb] at e
      have b1 := f1 q (yb_nd.mpr ⟨hq, hb⟩)
      by_cases hc : own.testBit r = true
      · rw [if_pos hc] at e
        omega
      · rw [if_neg hc] at e
        exact f2 q r hqr (yb_nd.mpr ⟨hq, hb⟩) (yb_nd.mpr ⟨hr, hc⟩) e
theorem ysp_x {R : Nat → Nat} {w c : Nat} (h0 : w ≠ 0) (h : ysp R w c) : ∃ own, own ≠ 0 ∧ ysb own w ∧ ychn R own ∧ ∃ c', c = c' + 1 ∧ ysp R (ynd w own) c' := by
  obtain ⟨f, f1, f2⟩ := h
  obtain ⟨a, ha⟩ := yex_ne h0
  have b1 := f1 a ha
  have hin : ∀ q, yb (ybs (fun q => yb w q ∧ f q = f a) w) q ↔ yb w q ∧ f q = f a := fun q => yb_bs.trans ⟨fun t => t.2, fun t => ⟨Nat.lt_of_lt_of_le Nat.lt_two_pow_self (ybge t.1), t⟩⟩
  refine ⟨ybs (fun q => yb w q ∧ f q = f a) w, fun e => ?_, fun q hq => ((hin q).mp hq).1, fun p q hpq hp hq => ?_, c - 1, by omega, fun q => if f q = c - 1 then f a else f q, fun q hq => ?_, fun q r hqr hq hr e => ?_⟩
  · have := (hin a).mpr ⟨ha, rfl⟩
    rw [e] at this
    exact yb_0 this
  · have t1 := (hin p).mp hp
    have t2 := (hin q).mp hq
    exact f2 p q hpq t1.1 t2.1 (t1.2.trans t2.2.symm)
  · have t := yb_nd.mp hq
    have b2 := f1 q t.1
    have b3 : f q ≠ f a := fun e => t.2 ((hin q).mpr ⟨t.1, e⟩)
    dsimp only
    by_cases e : f q = c - 1
    · rw [if_pos e]; omega
    · rw [if_neg e]; omega
  · have t := yb_nd.mp hq
    have s := yb_nd.mp hr
    have b2 : f q ≠ f a := fun e => t.2 ((hin q).mpr ⟨t.1, e⟩)
    have b3 : f r ≠ f a := fun e => s.2 ((hin r).mpr ⟨s.1, e⟩)
    dsimp only at e
    refine f2 q r hqr t.1 s.1 ?_
    by_cases e1 : f q = c - 1
    · by_cases e2 : f r = c - 1
      · omega
      · rw [if_pos e1, if_neg e2] at e
        exact absurd e.symm b3
    · by_cases e2 : f r = c - 1
      · rw [if_neg e1, if_pos e2] at e
        exact absurd e b2
      · rw [if_neg e1, if_neg e2] at e
        exact e
theorem yfull {n q : Nat} : yb (2 ^ n - 1) q ↔ q < n := by
  show (2 ^ n - 1).testBit q = true ↔ q < n
  rw [Nat.testBit_two_pow_sub_one, decide_eq_true_iff]
theorem ysp_Ex {R : Nat → Nat} (hsy : ysy (yad R)) {n c : Nat} : ysp R (2 ^ n - 1) c ↔ yEx R n c 0 (fun _ => 0) := by
  constructor
  · rintro ⟨f, f1, f2⟩
    exact ⟨f, fun q _ hq => ⟨f1 q (yfull.mpr hq), fun r hr => absurd hr yb_0⟩, fun q r _ hqr hr e => f2 q r (by omega) (yfull.mpr (by omega)) (yfull.mpr hr) e⟩
  · rintro ⟨f, f1, f2⟩
    refine ⟨f, fun q hq => (f1 q (Nat.zero_le q) (yfull.mp hq)).1, fun q r hqr hq hr e => ?_⟩
    rcases Nat.lt_or_ge q r with g | g
    · exact f2 q r (Nat.zero_le q) g (yfull.mp hr) e
    · exact hsy.1 _ _ (f2 r q (Nat.zero_le r) (by omega) (yfull.mp hq) e.symm)
theorem ymw_nc {R : Nat → Nat} (hsy : ysy (yad R)) (n : Nat) : ymw R (2 ^ n - 1) = ync R n := by
  have a1 := ymw_s R (2 ^ n - 1)
  have a2 := ync_s R n
  rcases Nat.lt_trichotomy (ymw R (2 ^ n - 1)) (ync R n) with g | g | g
  · exact absurd ((ysp_Ex hsy).mp a1.1) (a2.2 _ g)
  · exact g
  · exact absurd ((ysp_Ex hsy).mpr a2.1) (a1.2 _ g)
theorem s_fc_29 {n : Nat} {R : Nat → Nat} (hG : yGr n R) {w : Nat} (hw : w < 2 ^ n) (h0 : 0 < w) : ∀ (v : Nat), ysb v w → ∀ (b : Nat) (m : xmm), yMN n R m → (∀ u, u < w → m.1 179 u = nI (ymw R u)) → m.1 179 w = nI b → ymw R w ≤ b → b ≤ 8 → (∀ own, own ≠ 0 → ysb own w → ychn R own → v < own → b ≤ ymw R (ynd w own) + 1) → ∃ m', (∀ {z : Int32 × xmm}, bX12_fewestChains_144_9 (nI (w + 1)) m' = some z → bX12_fewestChains_144_29 (nI w) (nI v) m = some z) ∧ (∀ u, u < w + 1 → m'.1 179 u = nI (ymw R u)) ∧ yfr [179] m m' := by
  have hn := hG.1
  have h8 := y2p8 hn
  intro v
  induction v using Nat.strongRecOn with
  | ind v ih =>
    intro hv b m hm h1 h2 h3 h4 h5
    have hvw := ysb_le hv
    by_cases e0 : v = 0
    · subst e0
      obtain ⟨own, o1, o2, o3, c', o4, o5⟩ := ysp_x (by omega : w ≠ 0) (ymw_s R w).1
      have t1 := h5 own o1 o2 o3 (by omega)
      have t2 := ymw_le o5
      have e : b = ymw R w := by omega
      refine ⟨m, fun {z} hz => ?_, fun u hu => ?_, yfr_r⟩
      · apply bX12_fewestChains_144_29_i
        simp (disch := omega) only [yl3, yl4, yl5, yl6, yl7, yl8, yl9, yl10, yl13, yl16, yl20, yl21, yl22, yl23, yl24, yl32, yl40, yl48, yl57, yl59, yl63, yl64, yl97, yl99, yl122, yl255, yl256, yl400, yl1000, yl2000, yl2048, yc0_eq, yc0_eq2, yc0_le, yc0_ge, yc0_lt, yc0_gt, yc0_ad, yc0_da, yc0_sb, yc0_ml, yc0_lm, yc1_eq, yc1_eq2, yc1_le, yc1_ge, yc1_lt, yc1_gt, yc1_ad, yc1_da, yc1_sb, yc1_ml, yc1_lm, yc2_eq, yc2_eq2, yc2_le, yc2_ge, yc2_lt, yc2_gt, yc2_ad, yc2_da, yc2_sb, yc2_ml, yc2_lm, yc31_ge, ymodn, yI_1sl, yc2_dv, yn1_eq, yn1_lt, xgd_t, xlt_e, Option.bind_some, nI_add, pk_mul, pk_sub, pk_div, pk_rem, yI_and, yI_or, yI_xor, yI_nd, yI_nd2, yI_31, yI_shl, nI_leI, nI_ltI, nI_eq, nI_clamp, xinb_t, yP_z, yP_if, if_pos]
        exact hz
      · by_cases eu : u = w
        · subst eu; rw [h2, e]
        · exact h1 u (by omega)
    · have vnd := ynd_le w v n hw
      have vlt : ynd w v < w := by
        obtain ⟨a, ha⟩ := yex_ne e0
        exact ysb_lt (a := a) (fun i hi => (yb_nd.mp hi).1) (hv a ha) (fun t => (yb_nd.mp t).2 ha)
      have nx : ysb ((v - 1) &&& w) w := fun i hi => (yb_an.mp hi).2
      have nle : (v - 1) &&& w ≤ v - 1 := Nat.and_le_left
      have nxt : ∀ own, ysb own w → (v - 1) &&& w < own → own = v ∨ v < own := fun own o1 o2 => by
        rcases Nat.lt_trichotomy own v with g | g | g
        · have := ysub_next n w v own hw (ysb_an.mp hv) (ysb_an.mp o1) g
          omega
        · exact Or.inl g
        · exact Or.inr g
      have step : ∀ (b' : Nat) (m1 : xmm), yfr [179] m m1 → (∀ u, u < w → m1.1 179 u = nI (ymw R u)) → m1.1 179 w = nI b' → ymw R w ≤ b' → b' ≤ 8 → b' ≤ b → (ychn R v → b' ≤ ymw R (ynd w v) + 1) → ∃ m', (∀ {z : Int32 × xmm}, bX12_fewestChains_144_9 (nI (w + 1)) m' = some z → bX12_fewestChains_144_76 (nI w) (nI v) m1 = some z) ∧ (∀ u, u < w + 1 → m'.1 179 u = nI (ymw R u)) ∧ yfr [179] m m' := by
        intro b' m1 k1 k2 k3 k4 k5 k6 k7
        obtain ⟨m', a1, a2, a3⟩ := ih ((v - 1) &&& w) (by omega) nx b' m1 (yMN_r hm k1 (by decide) (by decide)) k2 k3 k4 k5 (fun own o1 o2 o3 o4 => by
          rcases nxt own o2 o4 with g | g
          · subst g; exact k7 o3
          · have := h5 own o1 o2 o3 g
            omega)
        refine ⟨m', fun {z} hz => ?_, a2, yfr_t k1 a3⟩
        apply bX12_fewestChains_144_76_i
        have e : nI v - (1 : Int32) = nI (v - 1) := by
          obtain ⟨v', rfl⟩ : ∃ v', v = v' + 1 := ⟨v - 1, by omega⟩
          exact nI_pred v'
        rw [e, yI_and]
        exact a1 hz
      by_cases hc : ychn R v
      · have up := ymw_le (ysp_b hc (ymw_s R (ynd w v)).1)
        have small := ymw_le (ysp_n R vnd)
        by_cases hb : b ≤ ymw R (ynd w v) + 1
        · obtain ⟨m', a1, a2⟩ := step b m yfr_r h1 h2 h3 h4 (Nat.le_refl b) (fun _ => hb)
          refine ⟨m', fun {z} hz => ?_, a2⟩
          apply bX12_fewestChains_144_29_i
          have cc := s_mChain hG hm (S := v) (by omega)
          simp (disch := omega) only [yl3, yl4, yl5, yl6, yl7, yl8, yl9, yl10, yl13, yl16, yl20, yl21, yl22, yl23, yl24, yl32, yl40, yl48, yl57, yl59, yl63, yl64, yl97, yl99, yl122, yl255, yl256, yl400, yl1000, yl2000, yl2048, yc0_eq, yc0_eq2, yc0_le, yc0_ge, yc0_lt, yc0_gt, yc0_ad, yc0_da, yc0_sb, yc0_ml, yc0_lm, yc1_eq, yc1_eq2, yc1_le, yc1_ge, yc1_lt, yc1_gt, yc1_ad, yc1_da, yc1_sb, yc1_ml, yc1_lm, yc2_eq, yc2_eq2, yc2_le, yc2_ge, yc2_lt, yc2_gt, yc2_ad, yc2_da, yc2_sb, yc2_ml, yc2_lm, yc31_ge, ymodn, yI_1sl, yc2_dv, yn1_eq, yn1_lt, xgd_t, xlt_e, Option.bind_some, nI_add, pk_mul, pk_sub, pk_div, pk_rem, yI_and, yI_or, yI_xor, yI_nd, yI_nd2, yI_31, yI_shl, nI_leI, nI_ltI, nI_eq, nI_clamp, xinb_t, yP_z, yP_if, if_neg, cc, yif_t hc, yxor_nd hv, h2, h1 _ vlt, if_pos]
          exact a1 hz
        · obtain ⟨m', a1, a2⟩ := step (ymw R (ynd w v) + 1) (xwi m 179 w (nI (ymw R (ynd w v) + 1))) (yfr_w yfr_r (by decide)) (fun u hu => by rw [xwi_i (by omega)]; exact h1 u hu) (xwi_e _ _ _ _) up (by omega) (by omega) (fun _ => Nat.le_refl _)
          refine ⟨m', fun {z} hz => ?_, a2⟩
          apply bX12_fewestChains_144_29_i
          have cc := s_mChain hG hm (S := v) (by omega)
          simp (disch := omega) only [yl3, yl4, yl5, yl6, yl7, yl8, yl9, yl10, yl13, yl16, yl20, yl21, yl22, yl23, yl24, yl32, yl40, yl48, yl57, yl59, yl63, yl64, yl97, yl99, yl122, yl255, yl256, yl400, yl1000, yl2000, yl2048, yc0_eq, yc0_eq2, yc0_le, yc0_ge, yc0_lt, yc0_gt, yc0_ad, yc0_da, yc0_sb, yc0_ml, yc0_lm, yc1_eq, yc1_eq2, yc1_le, yc1_ge, yc1_lt, yc1_gt, yc1_ad, yc1_da, yc1_sb, yc1_ml, yc1_lm, yc2_eq, yc2_eq2, yc2_le, yc2_ge, yc2_lt, yc2_gt, yc2_ad, yc2_da, yc2_sb, yc2_ml, yc2_lm, yc31_ge, ymodn, yI_1sl, yc2_dv, yn1_eq, yn1_lt, xgd_t, xlt_e, Option.bind_some, nI_add, pk_mul, pk_sub, pk_div, pk_rem, yI_and, yI_or, yI_xor, yI_nd, yI_nd2, yI_31, yI_shl, nI_leI, nI_ltI, nI_eq, nI_clamp, xinb_t, yP_z, yP_if, if_neg, cc, yif_t hc, yxor_nd hv, h2, h1 _ vlt]
          exact a1 hz
      · obtain ⟨m', a1, a2⟩ := step b m yfr_r h1 h2 h3 h4 (Nat.le_refl b) (fun t => absurd t hc)
        refine ⟨m', fun {z} hz => ?_, a2⟩
        apply bX12_fewestChains_144_29_i
        have cc := s_mChain hG hm (S := v) (by omega)
        simp (disch := omega) only [yl3, yl4, yl5, yl6, yl7, yl8, yl9, yl10, yl13, yl16, yl20, yl21, yl22, yl23, yl24, yl32, yl40, yl48, yl57, yl59, yl63, yl64, yl97, yl99, yl122, yl255, yl256, yl400, yl1000, yl2000, yl2048, yc0_eq, yc0_eq2, yc0_le, yc0_ge, yc0_lt, yc0_gt, yc0_ad, yc0_da, yc0_sb, yc0_ml, yc0_lm, yc1_eq, yc1_eq2, yc1_le, yc1_ge, yc1_lt, yc1_gt, yc1_ad, yc1_da, yc1_sb, yc1_ml, yc1_lm, yc2_eq, yc2_eq2, yc2_le, yc2_ge, yc2_lt, yc2_gt, yc2_ad, yc2_da, yc2_sb, yc2_ml, yc2_lm, yc31_ge, ymodn, yI_1sl, yc2_dv, yn1_eq, yn1_lt, xgd_t, xlt_e, Option.bind_some, nI_add, pk_mul, pk_sub, pk_div, pk_rem, yI_and, yI_or, yI_xor, yI_nd, yI_nd2, yI_31, yI_shl, nI_leI, nI_ltI, nI_eq, nI_clamp, xinb_t, yP_z, yP_if, if_neg, cc, yif_f hc]
        exact a1 hz
theorem s_fc_9 {n : Nat} {R : Nat → Nat} (hG : yGr n R) : ∀ (d w : Nat), w + d = 2 ^ n → 0 < w → ∀ (m : xmm), yMN n R m → (∀ u, u < w → m.1 179 u = nI (ymw R u)) → ∃ m', bX12_fewestChains_144_9 (nI w) m = some (nI (ync R n), m') ∧ yfr [179] m m' := by
  have hn := hG.1
  have h8 := y2p8 hn
  have h1 := y2p1 n
  intro d
  induction d with
  | zero =>
    intro w hw h0 m hm hu
    refine ⟨m, ?_, yfr_r⟩
    apply bX12_fewestChains_144_9_i
    rw [← ymw_nc hG.2.2.2 n]
    have e : nI (2 ^ n) - (1 : Int32) = nI (2 ^ n - 1) := by
      obtain ⟨v', e⟩ : ∃ v', 2 ^ n = v' + 1 := ⟨2 ^ n - 1, by omega⟩
      rw [e]
      exact nI_pred v'
    simp (disch := omega) only [yl3, yl4, yl5, yl6, yl7, yl8, yl9, yl10, yl13, yl16, yl20, yl21, yl22, yl23, yl24, yl32, yl40, yl48, yl57, yl59, yl63, yl64, yl97, yl99, yl122, yl255, yl256, yl400, yl1000, yl2000, yl2048, yc0_eq, yc0_eq2, yc0_le, yc0_ge, yc0_lt, yc0_gt, yc0_ad, yc0_da, yc0_sb, yc0_ml, yc0_lm, yc1_eq, yc1_eq2, yc1_le, yc1_ge, yc1_lt, yc1_gt, yc1_ad, yc1_da, yc1_sb, yc1_ml, yc1_lm, yc2_eq, yc2_eq2, yc2_le, yc2_ge, yc2_lt, yc2_gt, yc2_ad, yc2_da, yc2_sb, yc2_ml, yc2_lm, yc31_ge, ymodn, yI_1sl, yc2_dv, yn1_eq, yn1_lt, xgd_t, xlt_e, Option.bind_some, nI_add, pk_mul, pk_sub, pk_div, pk_rem, yI_and, yI_or, yI_xor, yI_nd, yI_nd2, yI_31, yI_shl, nI_leI, nI_ltI, nI_eq, nI_clamp, xinb_t, yP_z, yP_if, hm.1, yI_1shl, if_pos, e, hu (2 ^ n - 1)]
  | succ d ih =>
    intro w hw h0 m hm hu
    have small := ymw_le (ysp_n R (show w < 2 ^ n by omega))
    obtain ⟨m1, a1, a2, a3⟩ := s_fc_29 hG (w := w) (by omega) h0 w (fun _ h => h) 8 (xwi m 179 w (nI 8)) (yMN_r (L := [179]) hm (yfr_w yfr_r (by decide)) (by decide) (by decide)) (fun u hu' => by rw [xwi_i (by omega)]; exact hu u hu') (xwi_e _ _ _ _) (by omega) (by omega) (fun own _ o2 _ o4 => absurd (ysb_le o2) (by omega))
    have fr : yfr [179] m m1 := yfr_t (yfr_w yfr_r (by decide)) a3
    obtain ⟨m', b1, b2⟩ := ih (w + 1) (by omega) (by omega) m1 (yMN_r hm fr (by decide) (by decide)) a2
    refine ⟨m', ?_, yfr_t fr b2⟩
    apply bX12_fewestChains_144_9_i
    simp (disch := omega) only [yl3, yl4, yl5, yl6, yl7, yl8, yl9, yl10, yl13, yl16, yl20, yl21, yl22, yl23, yl24, yl32, yl40, yl48, yl57, yl59, yl63, yl64, yl97, yl99, yl122, yl255, yl256, yl400, yl1000, yl2000, yl2048, yc0_eq, yc0_eq2, yc0_le, yc0_ge, yc0_lt, yc0_gt, yc0_ad, yc0_da, yc0_sb, yc0_ml, yc0_lm, yc1_eq, yc1_eq2, yc1_le, yc1_ge, yc1_lt, yc1_gt, yc1_ad, yc1_da, yc1_sb, yc1_ml, yc1_lm, yc2_eq, yc2_eq2, yc2_le, yc2_ge, yc2_lt, yc2_gt, yc2_ad, yc2_da, yc2_sb, yc2_ml, yc2_lm, yc31_ge, ymodn, yI_1sl, yc2_dv, yn1_eq, yn1_lt, xgd_t, xlt_e, Option.bind_some, nI_add, pk_mul, pk_sub, pk_div, pk_rem, yI_and, yI_or, yI_xor, yI_nd, yI_nd2, yI_31, yI_shl, nI_leI, nI_ltI, nI_eq, nI_clamp, xinb_t, yP_z, yP_if, hm.1, yI_1shl, if_neg]
    exact a1 b1
theorem s_mFewest {n : Nat} {R : Nat → Nat} (hG : yGr n R) {m : xmm} (h : yMN n R m) : ∃ m', fX12_fewestChains_144 m = some (nI (ync R n), m') ∧ yfr [179] m m' := by
  have fr : yfr [179] m (xwi m 179 0 (0 : Int32)) := yfr_w yfr_r (by decide)
  have h1 := y2p1 n
  obtain ⟨m', a1, a2⟩ := s_fc_9 hG (2 ^ n - 1) 1 (by omega) (by decide) _ (yMN_r h fr (by decide) (by decide)) (fun u hu => by
    have : u = 0 := by omega
    subst this
    rw [xwi_e, ymw_0]; rfl)
  refine ⟨m', ?_, yfr_t fr a2⟩
  apply fX12_fewestChains_144_i
  exact a1
/-! the first sharing -/
theorem ychn_or {R : Nat → Nat} (hsy : ysy (yad R)) {S p : Nat} (h : ychn R S) (hp : ¬ yb S p) : ychn R (S ||| 2 ^ p) ↔ ycpt R S p := by
  constructor
  · intro h2 q hq
    exact h2 p q (fun e => hp (by rw [e]; exact hq)) (yb_or.mpr (Or.inr (yb_pw.mpr rfl))) (yb_or.mpr (Or.inl hq))
  · intro h2 a b hab ha hb
    rcases yb_or.mp ha with a1 | a1
    · rcases yb_or.mp hb with b1 | b1
      · exact h a b hab a1 b1
      · rw [yb_pw.mp b1]
        exact hsy.1 _ _ (h2 a a1)
    · rcases yb_or.mp hb with b1 | b1
      · rw [yb_pw.mp a1]
        exact h2 b b1
      · exact absurd ((yb_pw.mp a1).trans (yb_pw.mp b1).symm) hab
theorem yxor_pw {S p : Nat} (hp : ¬ yb S p) : (S ||| 2 ^ p) ^^^ 2 ^ p = S := by
  rw [yxor_nd (fun i hi => yb_or.mpr (Or.inr hi))]
  apply ytb_ext
  intro i
  have e := yb_nd (A := S ||| 2 ^ p) (B := 2 ^ p) (a := i)
  rw [yb_or, yb_pw] at e
  constructor
  · intro hi
    have := e.mp hi
    exact this.1.elim id fun t => absurd t this.2
  · intro hi
    refine e.mpr ⟨Or.inl hi, fun t => ?_⟩
    subst t
    exact hp hi
theorem yneg1 (k : Nat) : nI (k + 1) + (-1 : Int32) = nI k := by
  have : nI (k + 1) + (-1 : Int32) = nI (k + 1) - 1 := by rw [Int32.sub_eq_add_neg]
  rw [this]
  exact nI_pred k
theorem s_lc {R : Nat → Nat} {n c : Nat} (hG : yGr n R) (hc : c ≤ 8) : ∀ (d p : Nat), p + d = n → ∀ (gs : Nat → Nat) (m : xmm), yMN n R m → (∀ g, g < c → m.1 181 g = nI (gs g)) → (p < n → m.1 180 p = -1) → (∀ g, gs g < 2 ^ n ∧ ychn R (gs g) ∧ ∀ q, yb (gs g) q → q < p) → (yEx R n c p gs → ∃ m', bX12_laysChains_144_29 (nI c) (nI p) m = some m' ∧ (∀ q, p ≤ q → q < n → m'.1 180 q = nI (ylx R n c d p gs q)) ∧ (∀ q, q < p → m'.1 180 q = m.1 180 q) ∧ yfr [180, 181] m m') ∧ (¬ yEx R n c p gs → ∃ m', (∀ {z : xmm}, bX12_laysChains_144_29 (nI c) (nI p + (-1 : Int32)) m' = some z → bX12_laysChains_144_29 (nI c) (nI p) m = some z) ∧ (∀ g, g < c → m'.1 181 g = nI (gs g)) ∧ (∀ q, q < p → m'.1 180 q = m.1 180 q) ∧ yfr [180, 181] m m') := by
  have hn := hG.1
  have hp8 := y2p8 hn
  have hsy := hG.2.2.2
  intro d
  induction d with
  | zero =>
    intro p hp gs m hm h1 h2 h3
    have e : p = n := by omega
    subst e
    refine ⟨fun _ => ⟨m, ?_, fun q q1 q2 => by omega, fun _ _ => rfl, yfr_r⟩, fun h => absurd (yEx_n R p c gs) h⟩
    apply bX12_laysChains_144_29_i
    simp (disch := omega) only [yl3, yl4, yl5, yl6, yl7, yl8, yl9, yl10, yl13, yl16, yl20, yl21, yl22, yl23, yl24, yl32, yl40, yl48, yl57, yl59, yl63, yl64, yl97, yl99, yl122, yl255, yl256, yl400, yl1000, yl2000, yl2048, yc0_eq, yc0_eq2, yc0_le, yc0_ge, yc0_lt, yc0_gt, yc0_ad, yc0_da, yc0_sb, yc0_ml, yc0_lm, yc1_eq, yc1_eq2, yc1_le, yc1_ge, yc1_lt, yc1_gt, yc1_ad, yc1_da, yc1_sb, yc1_ml, yc1_lm, yc2_eq, yc2_eq2, yc2_le, yc2_ge, yc2_lt, yc2_gt, yc2_ad, yc2_da, yc2_sb, yc2_ml, yc2_lm, yc31_ge, ymodn, yI_1sl, yc2_dv, yn1_eq, yn1_lt, xgd_t, xlt_e, Option.bind_some, nI_add, pk_mul, pk_sub, pk_div, pk_rem, yI_and, yI_or, yI_xor, yI_nd, yI_nd2, yI_31, yI_shl, nI_leI, nI_ltI, nI_eq, nI_clamp, xinb_t, yP_z, yP_if, hm.1, if_pos]
  | succ d ih =>
    intro p hp gs m hm h1 h2 h3
    have hpn : p < n := by omega
    have loop : ∀ (e g : Nat), g + e = c → ∀ (m0 : xmm), yMN n R m0 → (∀ g, g < c → m0.1 181 g = nI (gs g)) → m0.1 180 p = nI g → (∀ j, j < g → ¬ (ycpt R (gs j) p ∧ yEx R n c (p + 1) (ygu gs j p))) → (yEx R n c p gs → ∃ m', bX12_laysChains_144_73 (nI c) (nI p) m0 = some m' ∧ (∀ q, p ≤ q → q < n → m'.1 180 q = nI (ylx R n c (d + 1) p gs q)) ∧ (∀ q, q < p → m'.1 180 q = m0.1 180 q) ∧ yfr [180, 181] m0 m') ∧ (¬ yEx R n c p gs → ∃ m', (∀ {z : xmm}, bX12_laysChains_144_29 (nI c) (nI p + (-1 : Int32)) m' = some z → bX12_laysChains_144_73 (nI c) (nI p) m0 = some z) ∧ (∀ g, g < c → m'.1 181 g = nI (gs g)) ∧ (∀ q, q < p → m'.1 180 q = m0.1 180 q) ∧ yfr [180, 181] m0 m') := by
      intro e
      induction e with
      | zero =>
        intro g hg m0 gm g1 g2 g3
        have eg : g = c := by omega
        subst eg
        refine ⟨fun hx => ?_, fun _ => ⟨xwi m0 180 p (-1 : Int32), fun {z} hz => ?_, fun j hj => by rw [xwi_k (by decide)]; exact g1 j hj, fun q hq => xwi_i (by omega), yfr_w yfr_r (by decide)⟩⟩
        · obtain ⟨j, j1, j2⟩ := (yEx_s hsy hpn).mp hx
          exact absurd j2 (g3 j j1)
        · apply bX12_laysChains_144_73_i
          simp (disch := omega) only [yl3, yl4, yl5, yl6, yl7, yl8, yl9, yl10, yl13, yl16, yl20, yl21, yl22, yl23, yl24, yl32, yl40, yl48, yl57, yl59, yl63, yl64, yl97, yl99, yl122, yl255, yl256, yl400, yl1000, yl2000, yl2048, yc0_eq, yc0_eq2, yc0_le, yc0_ge, yc0_lt, yc0_gt, yc0_ad, yc0_da, yc0_sb, yc0_ml, yc0_lm, yc1_eq, yc1_eq2, yc1_le, yc1_ge, yc1_lt, yc1_gt, yc1_ad, yc1_da, yc1_sb, yc1_ml, yc1_lm, yc2_eq, yc2_eq2, yc2_le, yc2_ge, yc2_lt, yc2_gt, yc2_ad, yc2_da, yc2_sb, yc2_ml, yc2_lm, yc31_ge, ymodn, yI_1sl, yc2_dv, yn1_eq, yn1_lt, xgd_t, xlt_e, Option.bind_some, nI_add, pk_mul, pk_sub, pk_div, pk_rem, yI_and, yI_or, yI_xor, yI_nd, yI_nd2, yI_31, yI_shl, nI_leI, nI_ltI, nI_eq, nI_clamp, xinb_t, yP_z, yP_if, g2, if_pos]
          apply bX12_laysChains_144_118_i
          simp (disch := omega) only [yl3, yl4, yl5, yl6, yl7, yl8, yl9, yl10, yl13, yl16, yl20, yl21, yl22, yl23, yl24, yl32, yl40, yl48, yl57, yl59, yl63, yl64, yl97, yl99, yl122, yl255, yl256, yl400, yl1000, yl2000, yl2048, yc0_eq, yc0_eq2, yc0_le, yc0_ge, yc0_lt, yc0_gt, yc0_ad, yc0_da, yc0_sb, yc0_ml, yc0_lm, yc1_eq, yc1_eq2, yc1_le, yc1_ge, yc1_lt, yc1_gt, yc1_ad, yc1_da, yc1_sb, yc1_ml, yc1_lm, yc2_eq, yc2_eq2, yc2_le, yc2_ge, yc2_lt, yc2_gt, yc2_ad, yc2_da, yc2_sb, yc2_ml, yc2_lm, yc31_ge, ymodn, yI_1sl, yc2_dv, yn1_eq, yn1_lt, xgd_t, xlt_e, Option.bind_some, nI_add, pk_mul, pk_sub, pk_div, pk_rem, yI_and, yI_or, yI_xor, yI_nd, yI_nd2, yI_31, yI_shl, nI_leI, nI_ltI, nI_eq, nI_clamp, xinb_t, yP_z, yP_if, g2, if_pos]
          exact hz
      | succ e ihe =>
        intro g hg m0 gm g1 g2 g3
        have hgc : g < c := by omega
        have hg8 : g < 8 := by omega
        obtain ⟨b1, b2, b3⟩ := h3 g
        have hpg : ¬ yb (gs g) p := fun t => absurd (b3 p t) (by omega)
        have bor : gs g ||| 2 ^ p < 2 ^ n := Nat.or_lt_two_pow b1 (Nat.pow_lt_pow_right (by decide : 1 < 2) hpn)
        have cc := s_mChain hG gm bor
        by_cases hcp : ycpt R (gs g) p
        · have hch := (ychn_or hsy b2 hpg).mpr hcp
          have fr : yfr [180, 181] m0 (xwi m0 181 g (nI (gs g ||| 2 ^ p))) := yfr_w yfr_r (by decide)
          have cells : ∀ j, j < c → (xwi m0 181 g (nI (gs g ||| 2 ^ p))).1 181 j = nI (ygu gs g p j) := by
            intro j hj
            by_cases t : j = g
            · subst t; rw [xwi_e, ygu_e]
            · rw [xwi_i t, ygu_n t]; exact g1 j hj
          have gs' : ∀ j, ygu gs g p j < 2 ^ n ∧ ychn R (ygu gs g p j) ∧ ∀ q, yb (ygu gs g p j) q → q < p + 1 := by
            intro j
            by_cases t : j = g
            · subst t
              rw [ygu_e]
              refine ⟨bor, hch, fun q hq => ?_⟩
              rcases yb_or.mp hq with q1 | q1
              · have := b3 q q1; omega
              · have := yb_pw.mp q1; omega
            · rw [ygu_n t]
              obtain ⟨u1, u2, u3⟩ := h3 j
              exact ⟨u1, u2, fun q hq => by have := u3 q hq; omega⟩
          -- to the next post
          obtain ⟨m1, n1, n2, n3, n4, n5⟩ : ∃ m1 : xmm, (∀ {z : xmm}, bX12_laysChains_144_29 (nI c) (nI (p + 1)) m1 = some z → bX12_laysChains_144_73 (nI c) (nI p) m0 = some z) ∧ (∀ j, j < c → m1.1 181 j = nI (ygu gs g p j)) ∧ (p + 1 < n → m1.1 180 (p + 1) = -1) ∧ (∀ q, q < p + 1 → m1.1 180 q = m0.1 180 q) ∧ yfr [180, 181] m0 m1 := by
            by_cases hl : n ≤ p + 1
            · refine ⟨_, fun {z} hz => ?_, cells, fun t => by omega, fun q hq => xwi_k (by decide), fr⟩
              apply bX12_laysChains_144_73_i
              simp (disch := omega) only [yl3, yl4, yl5, yl6, yl7, yl8, yl9, yl10, yl13, yl16, yl20, yl21, yl22, yl23, yl24, yl32, yl40, yl48, yl57, yl59, yl63, yl64, yl97, yl99, yl122, yl255, yl256, yl400, yl1000, yl2000, yl2048, yc0_eq, yc0_eq2, yc0_le, yc0_ge, yc0_lt, yc0_gt, yc0_ad, yc0_da, yc0_sb, yc0_ml, yc0_lm, yc1_eq, yc1_eq2, yc1_le, yc1_ge, yc1_lt, yc1_gt, yc1_ad, yc1_da, yc1_sb, yc1_ml, yc1_lm, yc2_eq, yc2_eq2, yc2_le, yc2_ge, yc2_lt, yc2_gt, yc2_ad, yc2_da, yc2_sb, yc2_ml, yc2_lm, yc31_ge, ymodn, yI_1sl, yc2_dv, yn1_eq, yn1_lt, xgd_t, xlt_e, Option.bind_some, nI_add, pk_mul, pk_sub, pk_div, pk_rem, yI_and, yI_or, yI_xor, yI_nd, yI_nd2, yI_31, yI_shl, nI_leI, nI_ltI, nI_eq, nI_clamp, xinb_t, yP_z, yP_if, g2, if_neg, yI_1shl, g1 g hgc, cc, yif_t hch]
              apply bX12_laysChains_144_118_i
              have x17 : (xwi m0 181 g (nI (gs g ||| 2 ^ p))).1 144 17 = nI n := by rw [xwi_k (by decide)]; exact gm.1
              simp (disch := omega) only [yl3, yl4, yl5, yl6, yl7, yl8, yl9, yl10, yl13, yl16, yl20, yl21, yl22, yl23, yl24, yl32, yl40, yl48, yl57, yl59, yl63, yl64, yl97, yl99, yl122, yl255, yl256, yl400, yl1000, yl2000, yl2048, yc0_eq, yc0_eq2, yc0_le, yc0_ge, yc0_lt, yc0_gt, yc0_ad, yc0_da, yc0_sb, yc0_ml, yc0_lm, yc1_eq, yc1_eq2, yc1_le, yc1_ge, yc1_lt, yc1_gt, yc1_ad, yc1_da, yc1_sb, yc1_ml, yc1_lm, yc2_eq, yc2_eq2, yc2_le, yc2_ge, yc2_lt, yc2_gt, yc2_ad, yc2_da, yc2_sb, yc2_ml, yc2_lm, yc31_ge, ymodn, yI_1sl, yc2_dv, yn1_eq, yn1_lt, xgd_t, xlt_e, Option.bind_some, nI_add, pk_mul, pk_sub, pk_div, pk_rem, yI_and, yI_or, yI_xor, yI_nd, yI_nd2, yI_31, yI_shl, nI_leI, nI_ltI, nI_eq, nI_clamp, xinb_t, yP_z, yP_if, g2, if_neg, yI_1shl, g1 g hgc, x17, if_pos]
              exact hz
            · refine ⟨xwi (xwi m0 181 g (nI (gs g ||| 2 ^ p))) 180 (p + 1) (-1 : Int32), fun {z} hz => ?_, fun j hj => by rw [xwi_k (by decide)]; exact cells j hj, fun t => xwi_e _ _ _ _, fun q hq => by rw [xwi_i (by omega), xwi_k (by decide)], yfr_w fr (by decide)⟩
              apply bX12_laysChains_144_73_i
              simp (disch := omega) only [yl3, yl4, yl5, yl6, yl7, yl8, yl9, yl10, yl13, yl16, yl20, yl21, yl22, yl23, yl24, yl32, yl40, yl48, yl57, yl59, yl63, yl64, yl97, yl99, yl122, yl255, yl256, yl400, yl1000, yl2000, yl2048, yc0_eq, yc0_eq2, yc0_le, yc0_ge, yc0_lt, yc0_gt, yc0_ad, yc0_da, yc0_sb, yc0_ml, yc0_lm, yc1_eq, yc1_eq2, yc1_le, yc1_ge, yc1_lt, yc1_gt, yc1_ad, yc1_da, yc1_sb, yc1_ml, yc1_lm, yc2_eq, yc2_eq2, yc2_le, yc2_ge, yc2_lt, yc2_gt, yc2_ad, yc2_da, yc2_sb, yc2_ml, yc2_lm, yc31_ge, ymodn, yI_1sl, yc2_dv, yn1_eq, yn1_lt, xgd_t, xlt_e, Option.bind_some, nI_add, pk_mul, pk_sub, pk_div, pk_rem, yI_and, yI_or, yI_xor, yI_nd, yI_nd2, yI_31, yI_shl, nI_leI, nI_ltI, nI_eq, nI_clamp, xinb_t, yP_z, yP_if, g2, if_neg, yI_1shl, g1 g hgc, cc, yif_t hch]
              apply bX12_laysChains_144_118_i
              have x17 : (xwi m0 181 g (nI (gs g ||| 2 ^ p))).1 144 17 = nI n := by rw [xwi_k (by decide)]; exact gm.1
              simp (disch := omega) only [yl3, yl4, yl5, yl6, yl7, yl8, yl9, yl10, yl13, yl16, yl20, yl21, yl22, yl23, yl24, yl32, yl40, yl48, yl57, yl59, yl63, yl64, yl97, yl99, yl122, yl255, yl256, yl400, yl1000, yl2000, yl2048, yc0_eq, yc0_eq2, yc0_le, yc0_ge, yc0_lt, yc0_gt, yc0_ad, yc0_da, yc0_sb, yc0_ml, yc0_lm, yc1_eq, yc1_eq2, yc1_le, yc1_ge, yc1_lt, yc1_gt, yc1_ad, yc1_da, yc1_sb, yc1_ml, yc1_lm, yc2_eq, yc2_eq2, yc2_le, yc2_ge, yc2_lt, yc2_gt, yc2_ad, yc2_da, yc2_sb, yc2_ml, yc2_lm, yc31_ge, ymodn, yI_1sl, yc2_dv, yn1_eq, yn1_lt, xgd_t, xlt_e, Option.bind_some, nI_add, pk_mul, pk_sub, pk_div, pk_rem, yI_and, yI_or, yI_xor, yI_nd, yI_nd2, yI_31, yI_shl, nI_leI, nI_ltI, nI_eq, nI_clamp, xinb_t, yP_z, yP_if, g2, if_neg, yI_1shl, g1 g hgc, x17]
              exact hz
          have rec_ := ih (p + 1) (by omega) (ygu gs g p) m1 (yMN_r gm n5 (by decide) (by decide)) n2 n3 gs'
          by_cases hx1 : yEx R n c (p + 1) (ygu gs g p)
          · obtain ⟨m', e1, e2, e3, e4⟩ := rec_.1 hx1
            have eg : yfg R n c p gs = g := yfg_eq ⟨hgc, hcp, hx1⟩ g3
            refine ⟨fun _ => ⟨m', n1 e1, fun q q1 q2 => ?_, fun q hq => by rw [e3 q (by omega), n4 q (by omega)], yfr_t n5 e4⟩, fun hx => absurd ((yEx_s hsy hpn).mpr ⟨g, hgc, hcp, hx1⟩) hx⟩
            show m'.1 180 q = nI (if q = p then yfg R n c p gs else ylx R n c d (p + 1) (ygu gs (yfg R n c p gs) p) q)
            rw [eg]
            by_cases t : q = p
            · subst t
              rw [if_pos rfl, e3 q (by omega), n4 q (by omega), g2]
            · rw [if_neg t]
              exact e2 q (by omega) q2
          · obtain ⟨m2, e1, e2, e3, e4⟩ := rec_.2 hx1
            have fr2 : yfr [180, 181] m0 m2 := yfr_t n5 e4
            have s2 : m2.1 180 p = nI g := by rw [e3 p (by omega), n4 p (by omega), g2]
            have fr3 : yfr [180, 181] m0 (xwi (xwi m2 181 g (nI (gs g))) 180 p (nI (g + 1))) := yfr_w (yfr_w fr2 (by decide)) (by decide)
            have c3 : ∀ j, j < c → (xwi (xwi m2 181 g (nI (gs g))) 180 p (nI (g + 1))).1 181 j = nI (gs j) := by
              intro j hj
              rw [xwi_k (by decide)]
              by_cases t : j = g
              · subst t; rw [xwi_e]
              · rw [xwi_i t, e2 j hj, ygu_n t]
            have af := ihe (g + 1) (by omega) _ (yMN_r gm fr3 (by decide) (by decide)) c3 (xwi_e _ _ _ _) (fun j hj => by
              by_cases t : j = g
              · subst t; exact fun t => hx1 t.2
              · exact g3 j (by omega))
            have low : ∀ q, q < p → (xwi (xwi m2 181 g (nI (gs g))) 180 p (nI (g + 1))).1 180 q = m0.1 180 q := fun q hq => by
              rw [xwi_i (by omega), xwi_k (by decide), e3 q (by omega), n4 q (by omega)]
            have goOn : ∀ {z : xmm}, bX12_laysChains_144_73 (nI c) (nI p) (xwi (xwi m2 181 g (nI (gs g))) 180 p (nI (g + 1))) = some z → bX12_laysChains_144_73 (nI c) (nI p) m0 = some z := by
              intro z hz
              have mg := e2 g hgc
              rw [ygu_e] at mg
              have y17 := (yMN_r gm fr2 (by decide) (by decide)).1
              have s3 : (xwi m2 181 g (nI (gs g))).1 180 p = nI g := by rw [xwi_k (by decide)]; exact s2
              apply n1
              apply e1
              rw [yneg1]
              apply bX12_laysChains_144_29_i
              simp (disch := omega) only [yl3, yl4, yl5, yl6, yl7, yl8, yl9, yl10, yl13, yl16, yl20, yl21, yl22, yl23, yl24, yl32, yl40, yl48, yl57, yl59, yl63, yl64, yl97, yl99, yl122, yl255, yl256, yl400, yl1000, yl2000, yl2048, yc0_eq, yc0_eq2, yc0_le, yc0_ge, yc0_lt, yc0_gt, yc0_ad, yc0_da, yc0_sb, yc0_ml, yc0_lm, yc1_eq, yc1_eq2, yc1_le, yc1_ge, yc1_lt, yc1_gt, yc1_ad, yc1_da, yc1_sb, yc1_ml, yc1_lm, yc2_eq, yc2_eq2, yc2_le, yc2_ge, yc2_lt, yc2_gt, yc2_ad, yc2_da, yc2_sb, yc2_ml, yc2_lm, yc31_ge, ymodn, yI_1sl, yc2_dv, yn1_eq, yn1_lt, xgd_t, xlt_e, Option.bind_some, nI_add, pk_mul, pk_sub, pk_div, pk_rem, yI_and, yI_or, yI_xor, yI_nd, yI_nd2, yI_31, yI_shl, nI_leI, nI_ltI, nI_eq, nI_clamp, xinb_t, yP_z, yP_if, y17, if_neg, s2, mg, yI_1shl, yxor_pw hpg]
              apply bX12_laysChains_144_63_i
              simp (disch := omega) only [yl3, yl4, yl5, yl6, yl7, yl8, yl9, yl10, yl13, yl16, yl20, yl21, yl22, yl23, yl24, yl32, yl40, yl48, yl57, yl59, yl63, yl64, yl97, yl99, yl122, yl255, yl256, yl400, yl1000, yl2000, yl2048, yc0_eq, yc0_eq2, yc0_le, yc0_ge, yc0_lt, yc0_gt, yc0_ad, yc0_da, yc0_sb, yc0_ml, yc0_lm, yc1_eq, yc1_eq2, yc1_le, yc1_ge, yc1_lt, yc1_gt, yc1_ad, yc1_da, yc1_sb, yc1_ml, yc1_lm, yc2_eq, yc2_eq2, yc2_le, yc2_ge, yc2_lt, yc2_gt, yc2_ad, yc2_da, yc2_sb, yc2_ml, yc2_lm, yc31_ge, ymodn, yI_1sl, yc2_dv, yn1_eq, yn1_lt, xgd_t, xlt_e, Option.bind_some, nI_add, pk_mul, pk_sub, pk_div, pk_rem, yI_and, yI_or, yI_xor, yI_nd, yI_nd2, yI_31, yI_shl, nI_leI, nI_ltI, nI_eq, nI_clamp, xinb_t, yP_z, yP_if, s3]
              exact hz
            refine ⟨fun hx => ?_, fun hx => ?_⟩
            · obtain ⟨m', a1, a2, a3, a4⟩ := af.1 hx
              exact ⟨m', goOn a1, a2, fun q hq => by rw [a3 q hq, low q hq], yfr_t fr3 a4⟩
            · obtain ⟨m', a1, a2, a3, a4⟩ := af.2 hx
              exact ⟨m', fun {z} hz => goOn (a1 hz), a2, fun q hq => by rw [a3 q hq, low q hq], yfr_t fr3 a4⟩
        · have hch : ¬ ychn R (gs g ||| 2 ^ p) := fun t => hcp ((ychn_or hsy b2 hpg).mp t)
          have fr : yfr [180, 181] m0 (xwi m0 180 p (nI (g + 1))) := yfr_w yfr_r (by decide)
          have af := ihe (g + 1) (by omega) _ (yMN_r gm fr (by decide) (by decide)) (fun j hj => by rw [xwi_k (by decide)]; exact g1 j hj) (xwi_e _ _ _ _) (fun j hj => by
            by_cases t : j = g
            · subst t; exact fun t => hcp t.1
            · exact g3 j (by omega))
          have goOn : ∀ {z : xmm}, bX12_laysChains_144_73 (nI c) (nI p) (xwi m0 180 p (nI (g + 1))) = some z → bX12_laysChains_144_73 (nI c) (nI p) m0 = some z := by
            intro z hz
            apply bX12_laysChains_144_73_i
            simp (disch := omega) only [yl3, yl4, yl5, yl6, yl7, yl8, yl9, yl10, yl13, yl16, yl20, yl21, yl22, yl23, yl24, yl32, yl40, yl48, yl57, yl59, yl63, yl64, yl97, yl99, yl122, yl255, yl256, yl400, yl1000, yl2000, yl2048, yc0_eq, yc0_eq2, yc0_le, yc0_ge, yc0_lt, yc0_gt, yc0_ad, yc0_da, yc0_sb, yc0_ml, yc0_lm, yc1_eq, yc1_eq2, yc1_le, yc1_ge, yc1_lt, yc1_gt, yc1_ad, yc1_da, yc1_sb, yc1_ml, yc1_lm, yc2_eq, yc2_eq2, yc2_le, yc2_ge, yc2_lt, yc2_gt, yc2_ad, yc2_da, yc2_sb, yc2_ml, yc2_lm, yc31_ge, ymodn, yI_1sl, yc2_dv, yn1_eq, yn1_lt, xgd_t, xlt_e, Option.bind_some, nI_add, pk_mul, pk_sub, pk_div, pk_rem, yI_and, yI_or, yI_xor, yI_nd, yI_nd2, yI_31, yI_shl, nI_leI, nI_ltI, nI_eq, nI_clamp, xinb_t, yP_z, yP_if, g2, if_neg, yI_1shl, g1 g hgc, cc, yif_f hch]
            exact hz
          refine ⟨fun hx => ?_, fun hx => ?_⟩
          · obtain ⟨m', a1, a2, a3, a4⟩ := af.1 hx
            exact ⟨m', goOn a1, a2, fun q hq => by rw [a3 q hq, xwi_i (by omega)], yfr_t fr a4⟩
          · obtain ⟨m', a1, a2, a3, a4⟩ := af.2 hx
            exact ⟨m', fun {z} hz => goOn (a1 hz), a2, fun q hq => by rw [a3 q hq, xwi_i (by omega)], yfr_t fr a4⟩
    have fr : yfr [180, 181] m (xwi m 180 p (nI 0)) := yfr_w yfr_r (by decide)
    have l0 := loop c 0 (Nat.zero_add c) _ (yMN_r hm fr (by decide) (by decide)) (fun j hj => by rw [xwi_k (by decide)]; exact h1 j hj) (xwi_e _ _ _ _) (fun j hj => absurd hj (Nat.not_lt_zero j))
    have start : ∀ {z : xmm}, bX12_laysChains_144_73 (nI c) (nI p) (xwi m 180 p (nI 0)) = some z → bX12_laysChains_144_29 (nI c) (nI p) m = some z := by
      intro z hz
      have t0 : (-1 : Int32) < 0 := by decide
      have t1 : (-1 : Int32) + (1 : Int32) = nI 0 := by decide
      apply bX12_laysChains_144_29_i
      simp (disch := omega) only [yl3, yl4, yl5, yl6, yl7, yl8, yl9, yl10, yl13, yl16, yl20, yl21, yl22, yl23, yl24, yl32, yl40, yl48, yl57, yl59, yl63, yl64, yl97, yl99, yl122, yl255, yl256, yl400, yl1000, yl2000, yl2048, yc0_eq, yc0_eq2, yc0_le, yc0_ge, yc0_lt, yc0_gt, yc0_ad, yc0_da, yc0_sb, yc0_ml, yc0_lm, yc1_eq, yc1_eq2, yc1_le, yc1_ge, yc1_lt, yc1_gt, yc1_ad, yc1_da, yc1_sb, yc1_ml, yc1_lm, yc2_eq, yc2_eq2, yc2_le, yc2_ge, yc2_lt, yc2_gt, yc2_ad, yc2_da, yc2_sb, yc2_ml, yc2_lm, yc31_ge, ymodn, yI_1sl, yc2_dv, yn1_eq, yn1_lt, xgd_t, xlt_e, Option.bind_some, nI_add, pk_mul, pk_sub, pk_div, pk_rem, yI_and, yI_or, yI_xor, yI_nd, yI_nd2, yI_31, yI_shl, nI_leI, nI_ltI, nI_eq, nI_clamp, xinb_t, yP_z, yP_if, hm.1, if_neg, h2 hpn, if_pos t0]
      apply bX12_laysChains_144_63_i
      simp (disch := omega) only [yl3, yl4, yl5, yl6, yl7, yl8, yl9, yl10, yl13, yl16, yl20, yl21, yl22, yl23, yl24, yl32, yl40, yl48, yl57, yl59, yl63, yl64, yl97, yl99, yl122, yl255, yl256, yl400, yl1000, yl2000, yl2048, yc0_eq, yc0_eq2, yc0_le, yc0_ge, yc0_lt, yc0_gt, yc0_ad, yc0_da, yc0_sb, yc0_ml, yc0_lm, yc1_eq, yc1_eq2, yc1_le, yc1_ge, yc1_lt, yc1_gt, yc1_ad, yc1_da, yc1_sb, yc1_ml, yc1_lm, yc2_eq, yc2_eq2, yc2_le, yc2_ge, yc2_lt, yc2_gt, yc2_ad, yc2_da, yc2_sb, yc2_ml, yc2_lm, yc31_ge, ymodn, yI_1sl, yc2_dv, yn1_eq, yn1_lt, xgd_t, xlt_e, Option.bind_some, nI_add, pk_mul, pk_sub, pk_div, pk_rem, yI_and, yI_or, yI_xor, yI_nd, yI_nd2, yI_31, yI_shl, nI_leI, nI_ltI, nI_eq, nI_clamp, xinb_t, yP_z, yP_if, h2 hpn, t1]
      exact hz
    refine ⟨fun hx => ?_, fun hx => ?_⟩
    · obtain ⟨m', a1, a2, a3, a4⟩ := l0.1 hx
      exact ⟨m', start a1, a2, fun q hq => by rw [a3 q hq, xwi_i (by omega)], yfr_t fr a4⟩
    · obtain ⟨m', a1, a2, a3, a4⟩ := l0.2 hx
      exact ⟨m', fun {z} hz => start (a1 hz), a2, fun q hq => by rw [a3 q hq, xwi_i (by omega)], yfr_t fr a4⟩
theorem s_lc_2 {R : Nat → Nat} {n c : Nat} (hG : yGr n R) (hc : c ≤ 8) (hx : yEx R n c 0 (fun _ => 0)) : ∀ (d k : Nat) (m : xmm), k + d = c → yMN n R m → (∀ g, g < k → m.1 181 g = 0) → ∃ m', bX12_laysChains_144_2 (nI c) (nI k) m = some m' ∧ (∀ q, q < n → m'.1 180 q = nI (ylx R n c n 0 (fun _ => 0) q)) ∧ yfr [180, 181] m m' := by
  intro d
  induction d with
  | zero =>
    intro k m hk hm h1
    have e : k = c := by omega
    subst e
    have fr : yfr [180, 181] m (xwi m 180 0 (-1 : Int32)) := yfr_w yfr_r (by decide)
    have all : ∀ g, g < k → (xwi m 180 0 (-1 : Int32)).1 181 g = nI 0 := fun g hg => by
      rw [xwi_k (by decide)]
      exact h1 g hg
    obtain ⟨m', a1, a2, a3, a4⟩ := (s_lc hG hc n 0 (Nat.zero_add n) (fun _ => 0) _ (yMN_r hm fr (by decide) (by decide)) all (fun _ => xwi_e _ _ _ _) (fun _ => ⟨Nat.two_pow_pos n, fun p q _ hp => absurd hp yb_0, fun q hq => absurd hq yb_0⟩)).1 hx
    refine ⟨m', ?_, fun q hq => a2 q (Nat.zero_le q) hq, yfr_t fr a4⟩
    apply bX12_laysChains_144_2_i
    simp (disch := omega) only [yl3, yl4, yl5, yl6, yl7, yl8, yl9, yl10, yl13, yl16, yl20, yl21, yl22, yl23, yl24, yl32, yl40, yl48, yl57, yl59, yl63, yl64, yl97, yl99, yl122, yl255, yl256, yl400, yl1000, yl2000, yl2048, yc0_eq, yc0_eq2, yc0_le, yc0_ge, yc0_lt, yc0_gt, yc0_ad, yc0_da, yc0_sb, yc0_ml, yc0_lm, yc1_eq, yc1_eq2, yc1_le, yc1_ge, yc1_lt, yc1_gt, yc1_ad, yc1_da, yc1_sb, yc1_ml, yc1_lm, yc2_eq, yc2_eq2, yc2_le, yc2_ge, yc2_lt, yc2_gt, yc2_ad, yc2_da, yc2_sb, yc2_ml, yc2_lm, yc31_ge, ymodn, yI_1sl, yc2_dv, yn1_eq, yn1_lt, xgd_t, xlt_e, Option.bind_some, nI_add, pk_mul, pk_sub, pk_div, pk_rem, yI_and, yI_or, yI_xor, yI_nd, yI_nd2, yI_31, yI_shl, nI_leI, nI_ltI, nI_eq, nI_clamp, xinb_t, yP_z, yP_if, if_pos]
    exact a1
  | succ d ih =>
    intro k m hk hm h1
    have fr : yfr [180, 181] m (xwi m 181 k 0) := yfr_w yfr_r (by decide)
    obtain ⟨m', e1, e2, e3⟩ := ih (k + 1) (xwi m 181 k 0) (by omega) (yMN_r hm fr (by decide) (by decide)) (fun g hg => by
      by_cases e : g = k
      · subst e; rw [xwi_e]
      · rw [xwi_i e]; exact h1 g (by omega))
    refine ⟨m', ?_, e2, yfr_t fr e3⟩
    apply bX12_laysChains_144_2_i
    simp (disch := omega) only [yl3, yl4, yl5, yl6, yl7, yl8, yl9, yl10, yl13, yl16, yl20, yl21, yl22, yl23, yl24, yl32, yl40, yl48, yl57, yl59, yl63, yl64, yl97, yl99, yl122, yl255, yl256, yl400, yl1000, yl2000, yl2048, yc0_eq, yc0_eq2, yc0_le, yc0_ge, yc0_lt, yc0_gt, yc0_ad, yc0_da, yc0_sb, yc0_ml, yc0_lm, yc1_eq, yc1_eq2, yc1_le, yc1_ge, yc1_lt, yc1_gt, yc1_ad, yc1_da, yc1_sb, yc1_ml, yc1_lm, yc2_eq, yc2_eq2, yc2_le, yc2_ge, yc2_lt, yc2_gt, yc2_ad, yc2_da, yc2_sb, yc2_ml, yc2_lm, yc31_ge, ymodn, yI_1sl, yc2_dv, yn1_eq, yn1_lt, xgd_t, xlt_e, Option.bind_some, nI_add, pk_mul, pk_sub, pk_div, pk_rem, yI_and, yI_or, yI_xor, yI_nd, yI_nd2, yI_31, yI_shl, nI_leI, nI_ltI, nI_eq, nI_clamp, xinb_t, yP_z, yP_if, if_neg]
    exact e1
theorem s_mlc {R : Nat → Nat} {n : Nat} (hG : yGr n R) {m : xmm} (h : yMN n R m) : ∃ m', fX12_laysChains_144 (nI (ync R n)) m = some m' ∧ (∀ q, q < n → m'.1 180 q = nI (ycq R n q)) ∧ yfr [180, 181] m m' := by
  have hn := hG.1
  have hle := ync_le R n
  obtain ⟨m', e1, e2⟩ := s_lc_2 hG (by omega) (ync_s R n).1 (ync R n) 0 m (Nat.zero_add _) h (fun g hg => absurd hg (Nat.not_lt_zero g))
  refine ⟨m', ?_, e2⟩
  apply fX12_laysChains_144_i
  exact e1
