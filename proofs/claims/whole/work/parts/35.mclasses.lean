/-! the model's classes, counted -/
/-- the model's cells but those of a list, and fields of 144 but those of another, are as they were -/
def yfm (L J : List Nat) (m m' : xmm) : Prop := yfr (144 :: L) m m' ∧ ∀ j, j ∉ J → m'.1 144 j = m.1 144 j
theorem yfm_r {L J : List Nat} {m : xmm} : yfm L J m m := ⟨yfr_r, fun _ _ => rfl⟩
theorem yfm_t {L J : List Nat} {m m' m'' : xmm} (h : yfm L J m m') (h' : yfm L J m' m'') : yfm L J m m'' := ⟨yfr_t h.1 h'.1, fun j hj => (h'.2 j hj).trans (h.2 j hj)⟩
theorem yfm_m {L J L' J' : List Nat} {m m' : xmm} (h : yfm L J m m') (hl : ∀ k, k ∈ L → k ∈ L') (hj : ∀ k, k ∈ J → k ∈ J') : yfm L' J' m m' := ⟨yfr_m h.1 (fun k hk => by rcases List.mem_cons.mp hk with e | e; exact List.mem_cons.mpr (Or.inl e); exact List.mem_cons.mpr (Or.inr (hl k e))), fun j h1 => h.2 j fun e => h1 (hj j e)⟩
theorem yfm_w {L J : List Nat} {m m' : xmm} {k i : Nat} {v : Int32} (h : yfm L J m m') (hk : k ∈ L) (h4 : k ≠ 144) : yfm L J m (xwi m' k i v) := ⟨yfr_w h.1 (List.mem_cons_of_mem _ hk), fun j hj => by rw [xwi_k (Ne.symm h4)]; exact h.2 j hj⟩
theorem yfm_f {L J : List Nat} {m m' : xmm} {i : Nat} {v : Int32} (h : yfm L J m m') (hi : i ∈ J) : yfm L J m (xwi m' 144 i v) := ⟨yfr_w h.1 List.mem_cons_self, fun j hj => by rw [xwi_i (fun e => hj (by rw [e]; exact hi))]; exact h.2 j hj⟩
theorem yfm_1 {L J : List Nat} {m m' : xmm} (h : yfm L J m m') (k i : Nat) (hk : k ∉ 144 :: L) : m'.1 k i = m.1 k i := yfr_1 h.1 k i hk
theorem yfm_2 {L J : List Nat} {m m' : xmm} (h : yfm L J m m') (i : Nat) (hk : i ∉ J) : m'.1 144 i = m.1 144 i := h.2 i hk
theorem yfm_of {L J : List Nat} {m m' : xmm} (h : yfr L m m') (hn : 144 ∉ L) : yfm L J m m' := ⟨yfr_m h fun k hk => List.mem_cons_of_mem _ hk, fun j _ => yfr_1 h 144 j hn⟩
def ytn (k : Nat) : Nat := 8 * (k % 8) + k / 8
theorem ytn_lt {k : Nat} (h : k < 64) : ytn k < 64 := by unfold ytn; omega
theorem ytn_ytn {k : Nat} (h : k < 64) : ytn (ytn k) = k := by unfold ytn; omega
theorem ytn_an {k : Nat} (h : k < 64) : yan (ytn k) = yrv (yan k) := yan_rv h
theorem s_turned' {x : Nat} (h : x < 64) (m : xmm) : fX12_turned (nI x) m = some (nI (ytn x), m) := s_turned h m
theorem s_against' {x : Nat} (h : x < 64) (m : xmm) : fX11_against (nI x) m = some (nI (ytn x), m) := s_against h m
theorem s_misOdd_l {R : Nat → Nat} {x : Nat} {m : xmm} {f : Nat → Nat} {s : Nat} (hs : s ≤ 64) (h1 : m.1 144 31 = nI s) (h2 : ∀ j, j < s → m.1 160 j = nI (f j) ∧ f j < 64 ∧ ycn2 R x (f j)) (h3 : ∀ z, z < 64 → m.1 161 z = yif (ycn2 R x z) (nI (ydt (yad R) (yan x) (yan z))) (-1)) (h4 : ∀ z, z < 64 → ycn2 R x z → ydt (yad R) (yan x) (yan z) < 64) : ∀ (d k : Nat), k + d = s → bX12_isOdd_144_2 (nI k) m = some (yP (∃ j, k ≤ j ∧ j < s ∧ ycn2 R x (ytn (f j))), m) := by
  intro d
  induction d with
  | zero =>
    intro k hk
    apply bX12_isOdd_144_2_i
    have e : k = s := by omega
    subst e
    rw [yP_f (by rintro ⟨j, j1, j2, _⟩; omega)]
    simp (disch := omega) only [yl3, yl4, yl5, yl6, yl7, yl8, yl9, yl10, yl13, yl16, yl20, yl21, yl22, yl23, yl24, yl32, yl40, yl48, yl57, yl59, yl63, yl64, yl97, yl99, yl122, yl255, yl256, yl400, yl1000, yl2000, yl2048, yc0_eq, yc0_eq2, yc0_le, yc0_ge, yc0_lt, yc0_gt, yc0_ad, yc0_da, yc0_sb, yc0_ml, yc0_lm, yc1_eq, yc1_eq2, yc1_le, yc1_ge, yc1_lt, yc1_gt, yc1_ad, yc1_da, yc1_sb, yc1_ml, yc1_lm, yc2_eq, yc2_eq2, yc2_le, yc2_ge, yc2_lt, yc2_gt, yc2_ad, yc2_da, yc2_sb, yc2_ml, yc2_lm, yc31_ge, ymodn, yI_1sl, yc2_dv, yn1_eq, yn1_lt, xgd_t, xlt_e, Option.bind_some, nI_add, pk_mul, pk_sub, pk_div, pk_rem, yI_and, yI_or, yI_xor, yI_nd, yI_nd2, yI_31, yI_shl, nI_leI, nI_ltI, nI_eq, nI_clamp, xinb_t, yP_z, yP_if, h1, if_pos]
  | succ d ih =>
    intro k hk
    obtain ⟨q1, q2, q3⟩ := h2 k (by omega)
    have q4 := ytn_lt q2
    have q5 := h3 _ q4
    apply bX12_isOdd_144_2_i
    by_cases hc : ycn2 R x (ytn (f k))
    · rw [yif_t hc] at q5
      have := h4 _ q4 hc
      simp (disch := omega) only [yl3, yl4, yl5, yl6, yl7, yl8, yl9, yl10, yl13, yl16, yl20, yl21, yl22, yl23, yl24, yl32, yl40, yl48, yl57, yl59, yl63, yl64, yl97, yl99, yl122, yl255, yl256, yl400, yl1000, yl2000, yl2048, yc0_eq, yc0_eq2, yc0_le, yc0_ge, yc0_lt, yc0_gt, yc0_ad, yc0_da, yc0_sb, yc0_ml, yc0_lm, yc1_eq, yc1_eq2, yc1_le, yc1_ge, yc1_lt, yc1_gt, yc1_ad, yc1_da, yc1_sb, yc1_ml, yc1_lm, yc2_eq, yc2_eq2, yc2_le, yc2_ge, yc2_lt, yc2_gt, yc2_ad, yc2_da, yc2_sb, yc2_ml, yc2_lm, yc31_ge, ymodn, yI_1sl, yc2_dv, yn1_eq, yn1_lt, xgd_t, xlt_e, Option.bind_some, nI_add, pk_mul, pk_sub, pk_div, pk_rem, yI_and, yI_or, yI_xor, yI_nd, yI_nd2, yI_31, yI_shl, nI_leI, nI_ltI, nI_eq, nI_clamp, xinb_t, yP_z, yP_if, h1, if_neg, q1, s_turned', q5]
      rw [yP_t ⟨k, Nat.le_refl _, by omega, hc⟩]
    · rw [yif_f hc] at q5
      have n1 : (-1 : Int32) < 0 := by decide
      simp (disch := omega) only [yl3, yl4, yl5, yl6, yl7, yl8, yl9, yl10, yl13, yl16, yl20, yl21, yl22, yl23, yl24, yl32, yl40, yl48, yl57, yl59, yl63, yl64, yl97, yl99, yl122, yl255, yl256, yl400, yl1000, yl2000, yl2048, yc0_eq, yc0_eq2, yc0_le, yc0_ge, yc0_lt, yc0_gt, yc0_ad, yc0_da, yc0_sb, yc0_ml, yc0_lm, yc1_eq, yc1_eq2, yc1_le, yc1_ge, yc1_lt, yc1_gt, yc1_ad, yc1_da, yc1_sb, yc1_ml, yc1_lm, yc2_eq, yc2_eq2, yc2_le, yc2_ge, yc2_lt, yc2_gt, yc2_ad, yc2_da, yc2_sb, yc2_ml, yc2_lm, yc31_ge, ymodn, yI_1sl, yc2_dv, yn1_eq, yn1_lt, xgd_t, xlt_e, Option.bind_some, nI_add, pk_mul, pk_sub, pk_div, pk_rem, yI_and, yI_or, yI_xor, yI_nd, yI_nd2, yI_31, yI_shl, nI_leI, nI_ltI, nI_eq, nI_clamp, xinb_t, yP_z, yP_if, h1, if_neg, q1, s_turned', q5, n1, if_true]
      rw [ih (k + 1) (by omega)]
      congr 2
      apply yP_c
      constructor
      · rintro ⟨j, j1, j2⟩
        exact ⟨j, by omega, j2⟩
      · rintro ⟨j, j1, j2, j3⟩
        by_cases e : j = k
        · subst e; exact absurd j3 hc
        · exact ⟨j, by omega, j2, j3⟩
theorem s_misOdd {R : Nat → Nat} (hG : yGd R) {x : Nat} {m : xmm} (h64 : x < 64) (h : ySp 161 160 144 31 (yad R) x m) : fX12_isOdd_144 m = some (yP (yodd (yad R) (yan x)), m) := by
  obtain ⟨f, s, b1, b2, b3, b4, b5, b6, b7⟩ := h
  apply fX12_isOdd_144_i
  rw [show (0 : Int32) = nI 0 from rfl, s_misOdd_l b1 b2 b3 b6 b7 s 0 (by omega)]
  congr 2
  apply yP_c
  constructor
  · rintro ⟨j, _, j2, j3⟩
    have h1 := (b3 j j2).2.2
    have h2 : ycl (yad R) (yan x) (yrv (yan (f j))) := by rw [← ytn_an (b3 j j2).2.1]; exact j3
    exact yodd_of hG.2.1 h1 h2
  · intro h
    obtain ⟨j, j1, j2⟩ := b5 x h64 (ycl_r _ _)
    refine ⟨j, Nat.zero_le _, j1, ?_⟩
    rw [j2]
    show ycl _ _ (yan (ytn x))
    rw [ytn_an h64]
    exact h
theorem s_mlc_m {x v a : Nat} {f : Nat → Nat} {s : Nat} (hs : s ≤ 64) (hf : ∀ j, j < s → f j < 64) : ∀ (d i : Nat) (m : xmm), i + d = s → m.1 144 31 = nI s → (∀ j, j < s → m.1 160 j = nI (f j)) → ∃ m', (∀ {z : xmm}, bX12_laysClasses_144_33 v (nI (a + 1)) m' = some z → bX12_laysClasses_144_101 v (nI a) (nI i) m = some z) ∧ (∀ z, m'.1 162 z = yif (∃ j, i ≤ j ∧ j < s ∧ f j = z) 1 (m.1 162 z)) ∧ yfr [162] m m' := by
  intro d
  induction d with
  | zero =>
    intro i m hi h1 h2
    have e : i = s := by omega
    subst e
    refine ⟨m, fun {z} hz => ?_, fun z => (yif_f (by rintro ⟨j, j1, j2, _⟩; omega)).symm, yfr_r⟩
    apply bX12_laysClasses_144_101_i
    simp (disch := omega) only [yl3, yl4, yl5, yl6, yl7, yl8, yl9, yl10, yl13, yl16, yl20, yl21, yl22, yl23, yl24, yl32, yl40, yl48, yl57, yl59, yl63, yl64, yl97, yl99, yl122, yl255, yl256, yl400, yl1000, yl2000, yl2048, yc0_eq, yc0_eq2, yc0_le, yc0_ge, yc0_lt, yc0_gt, yc0_ad, yc0_da, yc0_sb, yc0_ml, yc0_lm, yc1_eq, yc1_eq2, yc1_le, yc1_ge, yc1_lt, yc1_gt, yc1_ad, yc1_da, yc1_sb, yc1_ml, yc1_lm, yc2_eq, yc2_eq2, yc2_le, yc2_ge, yc2_lt, yc2_gt, yc2_ad, yc2_da, yc2_sb, yc2_ml, yc2_lm, yc31_ge, ymodn, yI_1sl, yc2_dv, yn1_eq, yn1_lt, xgd_t, xlt_e, Option.bind_some, nI_add, pk_mul, pk_sub, pk_div, pk_rem, yI_and, yI_or, yI_xor, yI_nd, yI_nd2, yI_31, yI_shl, nI_leI, nI_ltI, nI_eq, nI_clamp, xinb_t, yP_z, yP_if, h1, if_pos]
    exact hz
  | succ d ih =>
    intro i m hi h1 h2
    have hfi := hf i (by omega)
    obtain ⟨m', e1, e2, e3⟩ := ih (i + 1) (xwi m 162 (f i) 1) (by omega) (by rw [xwi_k (by decide)]; exact h1) (fun j hj => by rw [xwi_k (by decide)]; exact h2 j hj)
    refine ⟨m', fun {z} hz => ?_, fun z => ?_, yfr_t (yfr_w yfr_r (by decide)) e3⟩
    · apply bX12_laysClasses_144_101_i
      simp (disch := omega) only [yl3, yl4, yl5, yl6, yl7, yl8, yl9, yl10, yl13, yl16, yl20, yl21, yl22, yl23, yl24, yl32, yl40, yl48, yl57, yl59, yl63, yl64, yl97, yl99, yl122, yl255, yl256, yl400, yl1000, yl2000, yl2048, yc0_eq, yc0_eq2, yc0_le, yc0_ge, yc0_lt, yc0_gt, yc0_ad, yc0_da, yc0_sb, yc0_ml, yc0_lm, yc1_eq, yc1_eq2, yc1_le, yc1_ge, yc1_lt, yc1_gt, yc1_ad, yc1_da, yc1_sb, yc1_ml, yc1_lm, yc2_eq, yc2_eq2, yc2_le, yc2_ge, yc2_lt, yc2_gt, yc2_ad, yc2_da, yc2_sb, yc2_ml, yc2_lm, yc31_ge, ymodn, yI_1sl, yc2_dv, yn1_eq, yn1_lt, xgd_t, xlt_e, Option.bind_some, nI_add, pk_mul, pk_sub, pk_div, pk_rem, yI_and, yI_or, yI_xor, yI_nd, yI_nd2, yI_31, yI_shl, nI_leI, nI_ltI, nI_eq, nI_clamp, xinb_t, yP_z, yP_if, if_neg, h1, h2 i (by omega)]
      exact e1 hz
    · rw [e2 z]
      by_cases h : ∃ j, i + 1 ≤ j ∧ j < s ∧ f j = z
      · obtain ⟨j, j1, j2, j3⟩ := h
        rw [yif_t ⟨j, j1, j2, j3⟩, yif_t ⟨j, by omega, j2, j3⟩]
      · rw [yif_f h]
        by_cases e : z = f i
        · subst e
          rw [xwi_e, yif_t ⟨i, Nat.le_refl _, by omega, rfl⟩]
        · rw [xwi_i e, yif_f]
          rintro ⟨j, j1, j2, j3⟩
          by_cases ej : j = i
          · subst ej; exact e j3.symm
          · exact h ⟨j, by omega, j2, j3⟩
theorem s_mlc_l {R : Nat → Nat} (hG : yGd R) {v : Nat} (hv : Nat.beq v 1999 = false) (hkd : xkd v = (1, 9)) (hn : v ∉ [144, 160, 161, 162]) : ∀ (d a : Nat), a + d = 64 → ∀ (m : xmm), yrw v R m → (∀ k, k < 64 → m.1 162 k = yP (∃ r, r < a ∧ yrp R r ∧ ycn2 R r k)) → m.1 144 32 = nI (yct (yrp R) a) → m.1 144 33 = nI (yct (fun k => yrp R k ∧ yodd (yad R) (yan k)) a) → ∃ m', bX12_laysClasses_144_33 v (nI a) m = some m' ∧ m'.1 144 32 = nI (yK R) ∧ m'.1 144 33 = nI (yKo R) ∧ yfm [160, 161, 162] [31, 32, 33] m m' := by
  intro d
  induction d with
  | zero =>
    intro a ha m hR hT h3 h4
    have e : a = 64 := by omega
    subst e
    refine ⟨m, ?_, h3, h4, yfm_r⟩
    apply bX12_laysClasses_144_33_i
    simp (disch := omega) only [yl3, yl4, yl5, yl6, yl7, yl8, yl9, yl10, yl13, yl16, yl20, yl21, yl22, yl23, yl24, yl32, yl40, yl48, yl57, yl59, yl63, yl64, yl97, yl99, yl122, yl255, yl256, yl400, yl1000, yl2000, yl2048, yc0_eq, yc0_eq2, yc0_le, yc0_ge, yc0_lt, yc0_gt, yc0_ad, yc0_da, yc0_sb, yc0_ml, yc0_lm, yc1_eq, yc1_eq2, yc1_le, yc1_ge, yc1_lt, yc1_gt, yc1_ad, yc1_da, yc1_sb, yc1_ml, yc1_lm, yc2_eq, yc2_eq2, yc2_le, yc2_ge, yc2_lt, yc2_gt, yc2_ad, yc2_da, yc2_sb, yc2_ml, yc2_lm, yc31_ge, ymodn, yI_1sl, yc2_dv, yn1_eq, yn1_lt, xgd_t, xlt_e, Option.bind_some, nI_add, pk_mul, pk_sub, pk_div, pk_rem, yI_and, yI_or, yI_xor, yI_nd, yI_nd2, yI_31, yI_shl, nI_leI, nI_ltI, nI_eq, nI_clamp, xinb_t, yP_z, yP_if, if_pos]
  | succ d ih =>
    intro a ha m hR hT h3 h4
    have b1 := yct_le (yrp R) a
    have b2 := yct_le (fun k => yrp R k ∧ yodd (yad R) (yan k)) a
    have a8 : a / 8 < 8 := by omega
    have isA := s_isArrow12 (a := a / 8) (b := a % 8) hv hkd (by omega) (by omega) (by omega) (hR _ a8) (by have := hG.1 _ a8; omega)
    have stay : ¬ yrp R a → ∃ m', bX12_laysClasses_144_33 v (nI (a + 1)) m = some m' ∧ m'.1 144 32 = nI (yK R) ∧ m'.1 144 33 = nI (yKo R) ∧ yfm [160, 161, 162] [31, 32, 33] m m' := by
      intro hn
      refine ih (a + 1) (by omega) m hR (fun k hk => ?_) (by rw [yct_s, yif_f hn]; exact h3) (by rw [yct_s, yif_f (fun e => hn e.1)]; exact h4)
      rw [hT k hk]
      apply yP_c
      constructor
      · rintro ⟨r, r1, r2⟩
        exact ⟨r, by omega, r2⟩
      · rintro ⟨r, r1, r2, r3⟩
        by_cases e : r = a
        · subst e; exact absurd r2 hn
        · exact ⟨r, by omega, r2, r3⟩
    have ha2 := hT a (by omega)
    by_cases hin : ∃ r, r < a ∧ yrp R r ∧ ycn2 R r a
    · rw [yP_t hin] at ha2
      obtain ⟨r, r1, r2, r3⟩ := hin
      obtain ⟨m', e1, e2⟩ := stay (fun e => e.2 r r1 r2.1 r3)
      refine ⟨m', ?_, e2⟩
      apply bX12_laysClasses_144_33_i
      have n1 : ¬ (1 : Int32) = 0 := by decide
      simp (disch := omega) only [yl3, yl4, yl5, yl6, yl7, yl8, yl9, yl10, yl13, yl16, yl20, yl21, yl22, yl23, yl24, yl32, yl40, yl48, yl57, yl59, yl63, yl64, yl97, yl99, yl122, yl255, yl256, yl400, yl1000, yl2000, yl2048, yc0_eq, yc0_eq2, yc0_le, yc0_ge, yc0_lt, yc0_gt, yc0_ad, yc0_da, yc0_sb, yc0_ml, yc0_lm, yc1_eq, yc1_eq2, yc1_le, yc1_ge, yc1_lt, yc1_gt, yc1_ad, yc1_da, yc1_sb, yc1_ml, yc1_lm, yc2_eq, yc2_eq2, yc2_le, yc2_ge, yc2_lt, yc2_gt, yc2_ad, yc2_da, yc2_sb, yc2_ml, yc2_lm, yc31_ge, ymodn, yI_1sl, yc2_dv, yn1_eq, yn1_lt, xgd_t, xlt_e, Option.bind_some, nI_add, pk_mul, pk_sub, pk_div, pk_rem, yI_and, yI_or, yI_xor, yI_nd, yI_nd2, yI_31, yI_shl, nI_leI, nI_ltI, nI_eq, nI_clamp, xinb_t, yP_z, yP_if, if_neg, ha2, n1, if_false]
      exact e1
    · rw [yP_f hin] at ha2
      by_cases harr : yar R a
      · have harr' : yb (R (a / 8)) (a % 8) := harr
        have hrp : yrp R a := ⟨harr, fun j hj hja hc => by
          obtain ⟨r, r1, r2, r3⟩ := yrep hG hja
          exact hin ⟨r, by omega, r2, ycl_t r3 hc⟩⟩
        have hnv : v ∉ [144, 160, 161] := fun e => hn (by simp only [List.mem_cons, List.not_mem_nil, or_false] at e ⊢; omega)
        obtain ⟨m1, a1, a2, a3, a4⟩ := s_laysClass hv hkd (by omega) hnv hG.1 hG.2.2 (x := a) (by omega) harr hR
        have odd1 := s_misOdd hG (by omega) (m := xwi m1 144 32 (nI (yct (yrp R) a + 1))) (x := a) (by
          obtain ⟨f, s, c1, c2, c3, c4, c5, c6, c7⟩ := a2
          exact ⟨f, s, c1, by rw [xwi_i (by decide)]; exact c2, fun j hj => by rw [xwi_k (by decide)]; exact c3 j hj, c4, c5, fun z hz => by rw [xwi_k (by decide)]; exact c6 z hz, c7⟩)
        obtain ⟨f, s, c1, c2, c3, c4, c5, c6, c7⟩ := a2
        have k32 : m1.1 144 32 = nI (yct (yrp R) a) := by rw [a4 32 (by decide)]; exact h3
        have k33 : m1.1 144 33 = nI (yct (fun k => yrp R k ∧ yodd (yad R) (yan k)) a) := by rw [a4 33 (by decide)]; exact h4
        have f1 : yfm [160, 161, 162] [31, 32, 33] m m1 := ⟨yfr_m a3 (by decide), fun j hj => a4 j fun e => hj (by rw [e]; decide)⟩
        -- the memory ahead of the marks
        have mid : ∃ m2, (∀ {z : xmm}, bX12_laysClasses_144_101 v (nI a) (nI 0) m2 = some z → bX12_laysClasses_144_33 v (nI a) m = some z) ∧ m2.1 144 32 = nI (yct (yrp R) (a + 1)) ∧ m2.1 144 33 = nI (yct (fun k => yrp R k ∧ yodd (yad R) (yan k)) (a + 1)) ∧ m2.1 144 31 = nI s ∧ (∀ j, j < s → m2.1 160 j = nI (f j)) ∧ (∀ k, m2.1 162 k = m.1 162 k) ∧ yfm [160, 161, 162] [31, 32, 33] m m2 := by
          rw [yct_s, yct_s, yif_t hrp]
          by_cases ho : yodd (yad R) (yan a)
          · rw [yP_t ho] at odd1
            rw [yif_t ⟨hrp, ho⟩]
            refine ⟨xwi (xwi m1 144 32 (nI (yct (yrp R) a + 1))) 144 33 (nI (yct (fun k => yrp R k ∧ yodd (yad R) (yan k)) a + 1)), fun {z} hz => ?_, ?_, ?_, ?_, ?_, ?_, yfm_f (yfm_f f1 (by decide)) (by decide)⟩
            · apply bX12_laysClasses_144_33_i
              have n1 : ¬ (1 : Int32) = 0 := by decide
              simp (disch := omega) only [yl3, yl4, yl5, yl6, yl7, yl8, yl9, yl10, yl13, yl16, yl20, yl21, yl22, yl23, yl24, yl32, yl40, yl48, yl57, yl59, yl63, yl64, yl97, yl99, yl122, yl255, yl256, yl400, yl1000, yl2000, yl2048, yc0_eq, yc0_eq2, yc0_le, yc0_ge, yc0_lt, yc0_gt, yc0_ad, yc0_da, yc0_sb, yc0_ml, yc0_lm, yc1_eq, yc1_eq2, yc1_le, yc1_ge, yc1_lt, yc1_gt, yc1_ad, yc1_da, yc1_sb, yc1_ml, yc1_lm, yc2_eq, yc2_eq2, yc2_le, yc2_ge, yc2_lt, yc2_gt, yc2_ad, yc2_da, yc2_sb, yc2_ml, yc2_lm, yc31_ge, ymodn, yI_1sl, yc2_dv, yn1_eq, yn1_lt, xgd_t, xlt_e, Option.bind_some, nI_add, pk_mul, pk_sub, pk_div, pk_rem, yI_and, yI_or, yI_xor, yI_nd, yI_nd2, yI_31, yI_shl, nI_leI, nI_ltI, nI_eq, nI_clamp, xinb_t, yP_z, yP_if, if_neg, ha2, if_true, hv, Bool.not_false, isA, yif_t harr', a1, k32, odd1, n1, if_false, xwi_i, k33]
              exact hz
            · rw [xwi_i (by decide), xwi_e]
            · rw [xwi_e]
            · rw [xwi_i (by decide), xwi_i (by decide)]; exact c2
            · intro j hj; rw [xwi_k (by decide), xwi_k (by decide)]; exact (c3 j hj).1
            · intro k; rw [xwi_k (by decide), xwi_k (by decide)]; exact yfr_1 a3 162 k (by decide)
          · rw [yP_f ho] at odd1
            rw [yif_f (fun e => ho e.2)]
            refine ⟨xwi m1 144 32 (nI (yct (yrp R) a + 1)), fun {z} hz => ?_, ?_, ?_, ?_, ?_, ?_, yfm_f f1 (by decide)⟩
            · apply bX12_laysClasses_144_33_i
              simp (disch := omega) only [yl3, yl4, yl5, yl6, yl7, yl8, yl9, yl10, yl13, yl16, yl20, yl21, yl22, yl23, yl24, yl32, yl40, yl48, yl57, yl59, yl63, yl64, yl97, yl99, yl122, yl255, yl256, yl400, yl1000, yl2000, yl2048, yc0_eq, yc0_eq2, yc0_le, yc0_ge, yc0_lt, yc0_gt, yc0_ad, yc0_da, yc0_sb, yc0_ml, yc0_lm, yc1_eq, yc1_eq2, yc1_le, yc1_ge, yc1_lt, yc1_gt, yc1_ad, yc1_da, yc1_sb, yc1_ml, yc1_lm, yc2_eq, yc2_eq2, yc2_le, yc2_ge, yc2_lt, yc2_gt, yc2_ad, yc2_da, yc2_sb, yc2_ml, yc2_lm, yc31_ge, ymodn, yI_1sl, yc2_dv, yn1_eq, yn1_lt, xgd_t, xlt_e, Option.bind_some, nI_add, pk_mul, pk_sub, pk_div, pk_rem, yI_and, yI_or, yI_xor, yI_nd, yI_nd2, yI_31, yI_shl, nI_leI, nI_ltI, nI_eq, nI_clamp, xinb_t, yP_z, yP_if, if_neg, ha2, if_true, hv, Bool.not_false, isA, yif_t harr', a1, k32, odd1]
              exact hz
            · rw [xwi_e]
            · rw [xwi_i (by decide)]; exact k33
            · rw [xwi_i (by decide)]; exact c2
            · intro j hj; rw [xwi_k (by decide)]; exact (c3 j hj).1
            · intro k; rw [xwi_k (by decide)]; exact yfr_1 a3 162 k (by decide)
        obtain ⟨m2, g1, g2, g3, g4, g5, g6, g7⟩ := mid
        obtain ⟨m3, i1, i2, i3⟩ := s_mlc_m (x := a) (v := v) (a := a) c1 (fun j hj => (c3 j hj).2.1) s 0 m2 (by omega) g4 g5
        obtain ⟨m', e1, e2, e3, e4⟩ := ih (a + 1) (by omega) m3 (fun p hp => by
            rw [yfr_1 i3 v p (fun e => hn (by simp only [List.mem_cons, List.not_mem_nil, or_false] at e ⊢; omega)), yfm_1 g7 v p (fun e => hn (by simp only [List.mem_cons, List.not_mem_nil, or_false] at e ⊢; omega))]
            exact hR p hp) (fun k hk => by
            rw [i2 k, g6 k, hT k hk]
            by_cases hc : ycn2 R a k
            · obtain ⟨j, j1, j2⟩ := c5 k hk hc
              rw [yif_t ⟨j, Nat.zero_le _, j1, j2⟩, yP_t ⟨a, by omega, hrp, hc⟩]
            · rw [yif_f]
              · apply yP_c
                constructor
                · rintro ⟨r, r1, r2⟩
                  exact ⟨r, by omega, r2⟩
                · rintro ⟨r, r1, r2, r3⟩
                  by_cases e : r = a
                  · subst e; exact absurd r3 hc
                  · exact ⟨r, by omega, r2, r3⟩
              · rintro ⟨j, _, j2, j3⟩
                apply hc
                have := (c3 j j2).2.2
                rw [j3] at this
                exact this) (by rw [yfr_1 i3 144 32 (by decide)]; exact g2) (by rw [yfr_1 i3 144 33 (by decide)]; exact g3)
        exact ⟨m', g1 (i1 e1), e2, e3, yfm_t (yfm_t g7 (yfm_m (J := []) (yfm_of i3 (by decide)) (by decide) (by decide))) e4⟩
      · have harr' : ¬ yb (R (a / 8)) (a % 8) := harr
        obtain ⟨m', e1, e2⟩ := stay (fun e => harr e.1)
        refine ⟨m', ?_, e2⟩
        apply bX12_laysClasses_144_33_i
        simp (disch := omega) only [yl3, yl4, yl5, yl6, yl7, yl8, yl9, yl10, yl13, yl16, yl20, yl21, yl22, yl23, yl24, yl32, yl40, yl48, yl57, yl59, yl63, yl64, yl97, yl99, yl122, yl255, yl256, yl400, yl1000, yl2000, yl2048, yc0_eq, yc0_eq2, yc0_le, yc0_ge, yc0_lt, yc0_gt, yc0_ad, yc0_da, yc0_sb, yc0_ml, yc0_lm, yc1_eq, yc1_eq2, yc1_le, yc1_ge, yc1_lt, yc1_gt, yc1_ad, yc1_da, yc1_sb, yc1_ml, yc1_lm, yc2_eq, yc2_eq2, yc2_le, yc2_ge, yc2_lt, yc2_gt, yc2_ad, yc2_da, yc2_sb, yc2_ml, yc2_lm, yc31_ge, ymodn, yI_1sl, yc2_dv, yn1_eq, yn1_lt, xgd_t, xlt_e, Option.bind_some, nI_add, pk_mul, pk_sub, pk_div, pk_rem, yI_and, yI_or, yI_xor, yI_nd, yI_nd2, yI_31, yI_shl, nI_leI, nI_ltI, nI_eq, nI_clamp, xinb_t, yP_z, yP_if, if_neg, ha2, if_true, hv, Bool.not_false, isA, yif_f harr']
        exact e1
theorem s_mlc_c {v : Nat} : ∀ (d k : Nat) (m : xmm), k + d = 64 → (∀ z, z < k → m.1 162 z = 0) → ∃ m0, (∀ {z : xmm}, bX12_laysClasses_144_12 v (nI 64) m0 = some z → bX12_laysClasses_144_12 v (nI k) m = some z) ∧ (∀ z, z < 64 → m0.1 162 z = 0) ∧ yfr [162] m m0 := by
  intro d
  induction d with
  | zero =>
    intro k m hk h
    have e : k = 64 := by omega
    subst e
    exact ⟨m, id, h, yfr_r⟩
  | succ d ih =>
    intro k m hk h
    obtain ⟨m0, e1, e2, e3⟩ := ih (k + 1) (xwi m 162 k 0) (by omega) (by
      intro z hz
      by_cases e : z = k
      · subst e; exact xwi_e _ _ _ _
      · rw [xwi_i e]; exact h z (by omega))
    refine ⟨m0, fun {z} hz => ?_, e2, yfr_t (yfr_w yfr_r (by decide)) e3⟩
    apply bX12_laysClasses_144_12_i
    simp (disch := omega) only [yl3, yl4, yl5, yl6, yl7, yl8, yl9, yl10, yl13, yl16, yl20, yl21, yl22, yl23, yl24, yl32, yl40, yl48, yl57, yl59, yl63, yl64, yl97, yl99, yl122, yl255, yl256, yl400, yl1000, yl2000, yl2048, yc0_eq, yc0_eq2, yc0_le, yc0_ge, yc0_lt, yc0_gt, yc0_ad, yc0_da, yc0_sb, yc0_ml, yc0_lm, yc1_eq, yc1_eq2, yc1_le, yc1_ge, yc1_lt, yc1_gt, yc1_ad, yc1_da, yc1_sb, yc1_ml, yc1_lm, yc2_eq, yc2_eq2, yc2_le, yc2_ge, yc2_lt, yc2_gt, yc2_ad, yc2_da, yc2_sb, yc2_ml, yc2_lm, yc31_ge, ymodn, yI_1sl, yc2_dv, yn1_eq, yn1_lt, xgd_t, xlt_e, Option.bind_some, nI_add, pk_mul, pk_sub, pk_div, pk_rem, yI_and, yI_or, yI_xor, yI_nd, yI_nd2, yI_31, yI_shl, nI_leI, nI_ltI, nI_eq, nI_clamp, xinb_t, yP_z, yP_if, if_neg]
    exact e1 hz
theorem s_laysClasses {R : Nat → Nat} (hG : yGd R) {v : Nat} (hv : Nat.beq v 1999 = false) (hkd : xkd v = (1, 9)) (hn : v ∉ [144, 160, 161, 162]) {m : xmm} (hR : yrw v R m) : ∃ m', fX12_laysClasses_144 v m = some m' ∧ m'.1 144 32 = nI (yK R) ∧ m'.1 144 33 = nI (yKo R) ∧ yfm [160, 161, 162] [31, 32, 33] m m' := by
  obtain ⟨m0, a1, a2, a3⟩ := s_mlc_c (v := v) 64 0 (xwi (xwi m 144 32 0) 144 33 0) rfl (fun z hz => absurd hz (Nat.not_lt_zero z))
  have fr : yfm [160, 161, 162] [31, 32, 33] m m0 := yfm_t (yfm_f (yfm_f yfm_r (by decide)) (by decide)) (yfm_m (J := []) (yfm_of a3 (by decide)) (by decide) (by decide))
  obtain ⟨m', e1, e2, e3, e4⟩ := s_mlc_l hG hv hkd hn 64 0 rfl m0 (fun p hp => by
    rw [yfm_1 fr v p (fun e => hn (by simp only [List.mem_cons, List.not_mem_nil, or_false] at e ⊢; omega))]; exact hR p hp) (fun k hk => by rw [a2 k hk, yP_f (by rintro ⟨r, r1, _⟩; exact Nat.not_lt_zero r r1)]) (by rw [yfr_1 a3 144 32 (by decide), xwi_i (by decide), xwi_e]; rfl) (by rw [yfr_1 a3 144 33 (by decide), xwi_e]; rfl)
  refine ⟨m', ?_, e2, e3, yfm_t fr e4⟩
  apply fX12_laysClasses_144_i
  apply a1
  apply bX12_laysClasses_144_12_i
  rw [if_pos (by decide)]
  exact e1
theorem s_misOrdered {R : Nat → Nat} (hG : yGd R) {v : Nat} (hv : Nat.beq v 1999 = false) (hkd : xkd v = (1, 9)) (hn : v ∉ [144, 160, 161, 162]) {m : xmm} (hR : yrw v R m) : ∃ m', fX12_isOrdered_144 v m = some (yP (yord (yad R)), m') ∧ yfm [160, 161, 162] [31, 32, 33] m m' := by
  obtain ⟨m', e1, e2, e3, e4⟩ := s_laysClasses hG hv hkd hn hR
  refine ⟨m', ?_, e4⟩
  apply fX12_isOrdered_144_i
  have b : yKo R ≤ 64 := yct_le _ 64
  rw [hv]
  simp only [Bool.not_false, xgd_t, e1, Option.bind_some, e3]
  by_cases h : yord (yad R)
  · rw [(yKo_0 hG).mpr h, yP_t h]; rfl
  · have : ¬ nI (yKo R) = 0 := fun e => h ((yKo_0 hG).mp ((yI_eq0 (by omega)).mp e))
    rw [if_neg this, yP_f h]
