/-! the class's search -/
def yad (R : Nat → Nat) : yG := fun a b => yb (R a) b
theorem s_reach_98 {g : yG} {x i : Nat} {H F : Nat → Prop} {f : Nat → Nat} {s : Nat} {m : xmm} (h : yBI g x i H F f s) (hm : yBM 99 100 98 2 g x F f s m) (hi : i < s) {z : Nat} (hz : z < 64) (hf : yfc g (yan (f i)) (yan z)) : ∃ m' F' f' s', fX6_reach_98 (nI z) (nI (ydt g (yan x) (yan (f i)) + 1)) m = some m' ∧ yBI g x i (fun y => H y ∨ y = z) F' f' s' ∧ yBM 99 100 98 2 g x F' f' s' m' ∧ yfr [98, 99, 100] m m' ∧ i < s' ∧ f' i = f i := by
  obtain ⟨q1, q2, q3⟩ := hm
  by_cases hF : F z
  · refine ⟨m, F, f, s, ?_, yBI_h h ?_, ⟨q1, q2, q3⟩, yfr_r, hi, rfl⟩
    · apply fX6_reach_98_i
      have hd : ydt g (yan x) (yan z) < 2 ^ 31 := by
        obtain ⟨_, p1, p2, p3, _⟩ := h
        obtain ⟨j, j1, j2⟩ := (p2 z hF).2.2
        have e1 := (p1 j j1).2.2
        have e2 := ypig 64 s f (fun j hj => (p1 j hj).1) p3
        rw [j2] at e1
        omega
      simp (disch := omega) only [yl3, yl4, yl5, yl6, yl7, yl8, yl9, yl10, yl13, yl16, yl20, yl21, yl22, yl23, yl24, yl32, yl40, yl48, yl57, yl59, yl63, yl64, yl97, yl99, yl122, yl255, yl256, yl400, yl1000, yl2000, yl2048, yc0_eq, yc0_eq2, yc0_le, yc0_ge, yc0_lt, yc0_gt, yc0_ad, yc0_da, yc0_sb, yc0_ml, yc0_lm, yc1_eq, yc1_eq2, yc1_le, yc1_ge, yc1_lt, yc1_gt, yc1_ad, yc1_da, yc1_sb, yc1_ml, yc1_lm, yc2_eq, yc2_eq2, yc2_le, yc2_ge, yc2_lt, yc2_gt, yc2_ad, yc2_da, yc2_sb, yc2_ml, yc2_lm, yc31_ge, ymodn, yI_1sl, yc2_dv, yn1_eq, yn1_lt, xgd_t, xlt_e, Option.bind_some, nI_add, pk_mul, pk_sub, pk_div, pk_rem, yI_and, yI_or, yI_xor, yI_nd, yI_nd2, yI_31, yI_shl, nI_leI, nI_ltI, nI_eq, nI_clamp, xinb_t, yP_z, yP_if, q1 z hz, yif_t hF, if_false]
    · rintro y _ (e | e) _
      · exact Or.inl e
      · subst e; exact Or.inr hF
  · have hs := yBI_lt h hz hF
    obtain ⟨d1, h'⟩ := yBI_add h hi hz hF hf
    refine ⟨xwi (xwi (xwi m 99 z (nI (ydt g (yan x) (yan (f i)) + 1))) 100 s (nI z)) 98 2 (nI (s + 1)), _, _, _, ?_, yBI_h h' ?_, ⟨?_, ?_, ?_⟩, ?_, by omega, yup_n (by omega)⟩
    · apply fX6_reach_98_i
      simp (disch := omega) only [yl3, yl4, yl5, yl6, yl7, yl8, yl9, yl10, yl13, yl16, yl20, yl21, yl22, yl23, yl24, yl32, yl40, yl48, yl57, yl59, yl63, yl64, yl97, yl99, yl122, yl255, yl256, yl400, yl1000, yl2000, yl2048, yc0_eq, yc0_eq2, yc0_le, yc0_ge, yc0_lt, yc0_gt, yc0_ad, yc0_da, yc0_sb, yc0_ml, yc0_lm, yc1_eq, yc1_eq2, yc1_le, yc1_ge, yc1_lt, yc1_gt, yc1_ad, yc1_da, yc1_sb, yc1_ml, yc1_lm, yc2_eq, yc2_eq2, yc2_le, yc2_ge, yc2_lt, yc2_gt, yc2_ad, yc2_da, yc2_sb, yc2_ml, yc2_lm, yc31_ge, ymodn, yI_1sl, yc2_dv, yn1_eq, yn1_lt, xgd_t, xlt_e, Option.bind_some, nI_add, pk_mul, pk_sub, pk_div, pk_rem, yI_and, yI_or, yI_xor, yI_nd, yI_nd2, yI_31, yI_shl, nI_leI, nI_ltI, nI_eq, nI_clamp, xinb_t, yP_z, yP_if, q1 z hz, q3, yif_f hF, if_true, if_neg, xwi_e, xwi_k]
    · rintro y _ (e | e) _
      · exact Or.inl e
      · subst e; exact Or.inr (Or.inr rfl)
    · intro y hy
      rw [xwi_k (by decide), xwi_k (by decide)]
      by_cases e : y = z
      · subst e
        rw [xwi_e, yif_t (Or.inr rfl), d1]
      · rw [xwi_i e, q1 y hy]
        exact yif_c ⟨Or.inl, fun h => h.elim id fun h => absurd h e⟩
    · intro j hj
      rw [xwi_k (by decide)]
      by_cases e : j = s
      · subst e
        rw [xwi_e, yup_e]
      · rw [xwi_i e, xwi_k (by decide), yup_n e]
        exact q2 j (by omega)
    · rw [xwi_e]
    · exact yfr_w (yfr_w (yfr_w yfr_r (by decide)) (by decide)) (by decide)
theorem s_rf_l_98 {R : Nat → Nat} {x i : Nat} {a b E T u : Nat} (ha : a < 8) (hb : b < 8) (hu : u = 8 * a + b) (hE : ∀ c, yb E c ↔ yb (R a) c ∧ ¬ yb (R b) c ∧ c ≠ b) (hT : ∀ c, yb T c ↔ yb (R b) c ∧ ¬ yb (R a) c ∧ c ≠ a) (hE8 : E < 256) (hT8 : T < 256) (hsy : ysy (yad R)) (hab : yb (R a) b) : ∀ (d k : Nat), k + d = 8 → ∀ (F : Nat → Prop) (f : Nat → Nat) (s : Nat) (m : xmm), yBI (yad R) x i (fun z => (z / 8 = a ∧ z % 8 < k) ∨ (z % 8 = b ∧ z / 8 < k)) F f s → yBM 99 100 98 2 (yad R) x F f s m → i < s → f i = u → ∃ m' F' f' s', bX6_reachForced_98_51 (nI u) (nI a) (nI b) (nI E) (nI T) (nI k) m = some m' ∧ yBI (yad R) x i (fun z => (z / 8 = a ∧ z % 8 < 8) ∨ (z % 8 = b ∧ z / 8 < 8)) F' f' s' ∧ yBM 99 100 98 2 (yad R) x F' f' s' m' ∧ yfr [98, 99, 100] m m' ∧ i < s' ∧ f' i = u := by
  intro d
  induction d with
  | zero =>
    intro k hk F f s m h hm hi hfi
    have e : k = 8 := by omega
    subst e
    refine ⟨m, F, f, s, ?_, h, hm, yfr_r, hi, hfi⟩
    apply bX6_reachForced_98_51_i
    rfl
  | succ d ih =>
    intro k hk F f s m h hm hi hfi
    have hua : yan u = (a, b) := by rw [hu]; exact yan_of hb
    -- the first half
    have half : ∃ m1 F1 f1 s1, (bX6_reachForced_98_86 (nI u) (nI a) (nI b) (nI E) (nI T) (nI k) m1 = none ∨ True) ∧ yBI (yad R) x i (fun z => ((z / 8 = a ∧ z % 8 < k) ∨ (z % 8 = b ∧ z / 8 < k)) ∨ z = 8 * a + k) F1 f1 s1 ∧ yBM 99 100 98 2 (yad R) x F1 f1 s1 m1 ∧ yfr [98, 99, 100] m m1 ∧ i < s1 ∧ f1 i = u ∧ ∀ {z : xmm}, bX6_reachForced_98_86 (nI u) (nI a) (nI b) (nI E) (nI T) (nI k) m1 = some z → bX6_reachForced_98_51 (nI u) (nI a) (nI b) (nI E) (nI T) (nI k) m = some z := by
      by_cases hc : yb E k
      · have hf : yfc (yad R) (yan (f i)) (yan (8 * a + k)) := by
          have := (hE k).mp hc
          rw [hfi, hua, yan_of (by omega)]
          exact ⟨hab, this.1, Or.inl ⟨rfl, this.2.2.symm, this.2.1⟩⟩
        obtain ⟨m1, F1, f1, s1, r1, r2, r3, r4, r5, r6⟩ := s_reach_98 h hm hi (z := 8 * a + k) (by omega) hf
        refine ⟨m1, F1, f1, s1, Or.inr trivial, r2, r3, r4, r5, r6.trans hfi, fun {z} hz => ?_⟩
        apply bX6_reachForced_98_51_i
        have q := hm.1 u (by omega)
        have Fu : F u := by rw [← hfi]; exact (h.2.1 i hi).2.1
        rw [yif_t Fu] at q
        rw [hfi] at r1
        simp (disch := omega) only [yl3, yl4, yl5, yl6, yl7, yl8, yl9, yl10, yl13, yl16, yl20, yl21, yl22, yl23, yl24, yl32, yl40, yl48, yl57, yl59, yl63, yl64, yl97, yl99, yl122, yl255, yl256, yl400, yl1000, yl2000, yl2048, yc0_eq, yc0_eq2, yc0_le, yc0_ge, yc0_lt, yc0_gt, yc0_ad, yc0_da, yc0_sb, yc0_ml, yc0_lm, yc1_eq, yc1_eq2, yc1_le, yc1_ge, yc1_lt, yc1_gt, yc1_ad, yc1_da, yc1_sb, yc1_ml, yc1_lm, yc2_eq, yc2_eq2, yc2_le, yc2_ge, yc2_lt, yc2_gt, yc2_ad, yc2_da, yc2_sb, yc2_ml, yc2_lm, yc31_ge, ymodn, yI_1sl, yc2_dv, yn1_eq, yn1_lt, xgd_t, xlt_e, Option.bind_some, nI_add, pk_mul, pk_sub, pk_div, pk_rem, yI_and, yI_or, yI_xor, yI_nd, yI_nd2, yI_31, yI_shl, nI_leI, nI_ltI, nI_eq, nI_clamp, xinb_t, yP_z, yP_if, if_neg, s_contains, s_arrowFrom, yif_t hc, q, r1]
        exact hz
      · refine ⟨m, F, f, s, Or.inr trivial, yBI_h h ?_, hm, yfr_r, hi, hfi, fun {z} hz => ?_⟩
        · rintro z hz (e | e) hf
          · exact Or.inl e
          · subst e
            rw [hfi, hua, yan_of (by omega)] at hf
            refine absurd ((hE k).mpr ?_) hc
            obtain ⟨f1, f2, ⟨g1, g2, g3⟩ | ⟨g1, g2, g3⟩⟩ := hf
            · exact ⟨f2, g3, g2.symm⟩
            · exact absurd rfl g2
        · apply bX6_reachForced_98_51_i
          simp (disch := omega) only [yl3, yl4, yl5, yl6, yl7, yl8, yl9, yl10, yl13, yl16, yl20, yl21, yl22, yl23, yl24, yl32, yl40, yl48, yl57, yl59, yl63, yl64, yl97, yl99, yl122, yl255, yl256, yl400, yl1000, yl2000, yl2048, yc0_eq, yc0_eq2, yc0_le, yc0_ge, yc0_lt, yc0_gt, yc0_ad, yc0_da, yc0_sb, yc0_ml, yc0_lm, yc1_eq, yc1_eq2, yc1_le, yc1_ge, yc1_lt, yc1_gt, yc1_ad, yc1_da, yc1_sb, yc1_ml, yc1_lm, yc2_eq, yc2_eq2, yc2_le, yc2_ge, yc2_lt, yc2_gt, yc2_ad, yc2_da, yc2_sb, yc2_ml, yc2_lm, yc31_ge, ymodn, yI_1sl, yc2_dv, yn1_eq, yn1_lt, xgd_t, xlt_e, Option.bind_some, nI_add, pk_mul, pk_sub, pk_div, pk_rem, yI_and, yI_or, yI_xor, yI_nd, yI_nd2, yI_31, yI_shl, nI_leI, nI_ltI, nI_eq, nI_clamp, xinb_t, yP_z, yP_if, if_neg, s_contains, yif_f hc]
          exact hz
    obtain ⟨m1, F1, f1, s1, _, b1, b2, b3, b4, b5, b6⟩ := half
    have half2 : ∃ m2 F2 f2 s2, yBI (yad R) x i (fun z => (z / 8 = a ∧ z % 8 < k + 1) ∨ (z % 8 = b ∧ z / 8 < k + 1)) F2 f2 s2 ∧ yBM 99 100 98 2 (yad R) x F2 f2 s2 m2 ∧ yfr [98, 99, 100] m1 m2 ∧ i < s2 ∧ f2 i = u ∧ ∀ {z : xmm}, bX6_reachForced_98_51 (nI u) (nI a) (nI b) (nI E) (nI T) (nI (k + 1)) m2 = some z → bX6_reachForced_98_86 (nI u) (nI a) (nI b) (nI E) (nI T) (nI k) m1 = some z := by
      have num : ∀ z, z < 64 → ((z / 8 = a ∧ z % 8 < k + 1) ∨ (z % 8 = b ∧ z / 8 < k + 1)) → ((((z / 8 = a ∧ z % 8 < k) ∨ (z % 8 = b ∧ z / 8 < k)) ∨ z = 8 * a + k) ∨ z = 8 * k + b) := by
        intro z hz h
        omega
      by_cases hc : yb T k
      · have hf : yfc (yad R) (yan (f1 i)) (yan (8 * k + b)) := by
          have := (hT k).mp hc
          rw [b5, hua, yan_of hb]
          exact ⟨hab, hsy.1 _ _ this.1, Or.inr ⟨rfl, this.2.2.symm, this.2.1⟩⟩
        obtain ⟨m2, F2, f2, s2, r1, r2, r3, r4, r5, r6⟩ := s_reach_98 b1 b2 b4 (z := 8 * k + b) (by omega) hf
        refine ⟨m2, F2, f2, s2, yBI_h r2 ?_, r3, r4, r5, r6.trans b5, fun {z} hz => ?_⟩
        · intro z hz hh _
          exact Or.inl (num z hz hh)
        · apply bX6_reachForced_98_86_i
          have q := b2.1 u (by omega)
          have Fu : F1 u := by rw [← b5]; exact (b1.2.1 i b4).2.1
          rw [yif_t Fu] at q
          rw [b5] at r1
          simp (disch := omega) only [yl3, yl4, yl5, yl6, yl7, yl8, yl9, yl10, yl13, yl16, yl20, yl21, yl22, yl23, yl24, yl32, yl40, yl48, yl57, yl59, yl63, yl64, yl97, yl99, yl122, yl255, yl256, yl400, yl1000, yl2000, yl2048, yc0_eq, yc0_eq2, yc0_le, yc0_ge, yc0_lt, yc0_gt, yc0_ad, yc0_da, yc0_sb, yc0_ml, yc0_lm, yc1_eq, yc1_eq2, yc1_le, yc1_ge, yc1_lt, yc1_gt, yc1_ad, yc1_da, yc1_sb, yc1_ml, yc1_lm, yc2_eq, yc2_eq2, yc2_le, yc2_ge, yc2_lt, yc2_gt, yc2_ad, yc2_da, yc2_sb, yc2_ml, yc2_lm, yc31_ge, ymodn, yI_1sl, yc2_dv, yn1_eq, yn1_lt, xgd_t, xlt_e, Option.bind_some, nI_add, pk_mul, pk_sub, pk_div, pk_rem, yI_and, yI_or, yI_xor, yI_nd, yI_nd2, yI_31, yI_shl, nI_leI, nI_ltI, nI_eq, nI_clamp, xinb_t, yP_z, yP_if, if_neg, s_contains, s_arrowFrom, yif_t hc, q, r1]
          exact hz
      · refine ⟨m1, F1, f1, s1, yBI_h b1 ?_, b2, yfr_r, b4, b5, fun {z} hz => ?_⟩
        · intro z hz hh hf
          rcases num z hz hh with e | e
          · exact Or.inl e
          · subst e
            rw [b5, hua, yan_of hb] at hf
            refine absurd ((hT k).mpr ?_) hc
            obtain ⟨f1, f2, ⟨g1, g2, g3⟩ | ⟨g1, g2, g3⟩⟩ := hf
            · exact absurd rfl g2
            · exact ⟨hsy.1 _ _ f2, g3, g2.symm⟩
        · apply bX6_reachForced_98_86_i
          simp (disch := omega) only [yl3, yl4, yl5, yl6, yl7, yl8, yl9, yl10, yl13, yl16, yl20, yl21, yl22, yl23, yl24, yl32, yl40, yl48, yl57, yl59, yl63, yl64, yl97, yl99, yl122, yl255, yl256, yl400, yl1000, yl2000, yl2048, yc0_eq, yc0_eq2, yc0_le, yc0_ge, yc0_lt, yc0_gt, yc0_ad, yc0_da, yc0_sb, yc0_ml, yc0_lm, yc1_eq, yc1_eq2, yc1_le, yc1_ge, yc1_lt, yc1_gt, yc1_ad, yc1_da, yc1_sb, yc1_ml, yc1_lm, yc2_eq, yc2_eq2, yc2_le, yc2_ge, yc2_lt, yc2_gt, yc2_ad, yc2_da, yc2_sb, yc2_ml, yc2_lm, yc31_ge, ymodn, yI_1sl, yc2_dv, yn1_eq, yn1_lt, xgd_t, xlt_e, Option.bind_some, nI_add, pk_mul, pk_sub, pk_div, pk_rem, yI_and, yI_or, yI_xor, yI_nd, yI_nd2, yI_31, yI_shl, nI_leI, nI_ltI, nI_eq, nI_clamp, xinb_t, yP_z, yP_if, if_neg, s_contains, yif_f hc]
          exact hz
    obtain ⟨m2, F2, f2, s2, c1, c2, c3, c4, c5, c6⟩ := half2
    obtain ⟨m', F', f', s', e1, e2, e3, e4, e5, e6⟩ := ih (k + 1) (by omega) F2 f2 s2 m2 c1 c2 c4 c5
    exact ⟨m', F', f', s', b6 (c6 e1), e2, e3, yfr_t b3 (yfr_t c3 e4), e5, e6⟩
theorem s_rf_98 {R : Nat → Nat} {x i v : Nat} (hv : Nat.beq v 1999 = false) (hk : xkd v = (1, 8)) (hR8 : ∀ p, p < 8 → R p < 256) (hsy : ysy (yad R)) (h8 : yg8 (yad R)) (hx : yad R (yan x).1 (yan x).2) {F : Nat → Prop} {f : Nat → Nat} {s : Nat} {m : xmm} (hR : yrw v R m) (h : yBI (yad R) x i (fun _ => False) F f s) (hm : yBM 99 100 98 2 (yad R) x F f s m) (hi : i < s) : ∃ m' F' f' s', fX6_reachForced_98 v (nI (f i)) m = some m' ∧ yBI (yad R) x (i + 1) (fun _ => False) F' f' s' ∧ yBM 99 100 98 2 (yad R) x F' f' s' m' ∧ yfr [98, 99, 100] m m' := by
  have hu : f i < 64 := (h.2.1 i hi).1
  have hua : yad R (f i / 8) (f i % 8) := ycl_e (h.2.2.1 _ (h.2.1 i hi).2.1).2.1 hx
  have ha : f i / 8 < 8 := by omega
  have hb : f i % 8 < 8 := by omega
  have ra := hR8 _ ha
  have rb := hR8 _ hb
  have sp : ∀ A B c d : Nat, yb (ynd (ynd A B) (2 ^ c)) d ↔ yb A d ∧ ¬ yb B d ∧ d ≠ c := by
    intro A B c d
    rw [yb_nd, yb_nd, yb_pw, and_assoc]
  obtain ⟨m', F', f', s', e1, e2, e3, e4, e5, e6⟩ := s_rf_l_98 (x := x) (i := i) (a := f i / 8) (b := f i % 8) (u := f i) (E := ynd (ynd (R (f i / 8)) (R (f i % 8))) (2 ^ (f i % 8))) (T := ynd (ynd (R (f i % 8)) (R (f i / 8))) (2 ^ (f i / 8))) ha hb (by omega) (fun c => sp _ _ _ c) (fun c => sp _ _ _ c) (ynd_le _ _ 8 (ynd_le _ _ 8 ra)) (ynd_le _ _ 8 (ynd_le _ _ 8 rb)) hsy hua 8 0 (by omega) F f s m (yBI_h h fun z _ hh _ => by omega) hm hi rfl
  refine ⟨m', F', f', s', ?_, yBI_n h8 e2 e5 hx ?_, e3, e4⟩
  · apply fX6_reachForced_98_i
    simp (disch := omega) only [yl3, yl4, yl5, yl6, yl7, yl8, yl9, yl10, yl13, yl16, yl20, yl21, yl22, yl23, yl24, yl32, yl40, yl48, yl57, yl59, yl63, yl64, yl97, yl99, yl122, yl255, yl256, yl400, yl1000, yl2000, yl2048, yc0_eq, yc0_eq2, yc0_le, yc0_ge, yc0_lt, yc0_gt, yc0_ad, yc0_da, yc0_sb, yc0_ml, yc0_lm, yc1_eq, yc1_eq2, yc1_le, yc1_ge, yc1_lt, yc1_gt, yc1_ad, yc1_da, yc1_sb, yc1_ml, yc1_lm, yc2_eq, yc2_eq2, yc2_le, yc2_ge, yc2_lt, yc2_gt, yc2_ad, yc2_da, yc2_sb, yc2_ml, yc2_lm, yc31_ge, ymodn, yI_1sl, yc2_dv, yn1_eq, yn1_lt, xgd_t, xlt_e, Option.bind_some, nI_add, pk_mul, pk_sub, pk_div, pk_rem, yI_and, yI_or, yI_xor, yI_nd, yI_nd2, yI_31, yI_shl, nI_leI, nI_ltI, nI_eq, nI_clamp, xinb_t, yP_z, yP_if, hv, Bool.not_false, xia_t hk, hR _ ha, hR _ hb]
    exact e1
  · intro z hz hf
    rw [e6] at hf
    obtain ⟨_, _, ⟨g1, _, _⟩ | ⟨g1, _, _⟩⟩ := hf
    · exact Or.inl ⟨g1.symm, by omega⟩
    · exact Or.inr ⟨g1.symm, by omega⟩
theorem s_spread_l_98 {R : Nat → Nat} {x v : Nat} (hv : Nat.beq v 1999 = false) (hk : xkd v = (1, 8)) (hn : v ∉ [98, 99, 100]) (hR8 : ∀ p, p < 8 → R p < 256) (hsy : ysy (yad R)) (h8 : yg8 (yad R)) (hx : yad R (yan x).1 (yan x).2) : ∀ (d i : Nat), i + d = 64 → ∀ (F : Nat → Prop) (f : Nat → Nat) (s : Nat) (m : xmm), yrw v R m → yBI (yad R) x i (fun _ => False) F f s → yBM 99 100 98 2 (yad R) x F f s m → ∃ m', bX6_spread_98_34 v (nI i) m = some m' ∧ ySp 99 100 98 2 (yad R) x m' ∧ yfr [98, 99, 100] m m' := by
  intro d
  induction d with
  | zero =>
    intro i hi F f s m hR h hm
    have hs : s ≤ 64 := ypig 64 s f (fun j hj => (h.2.1 j hj).1) h.2.2.2.1
    refine ⟨m, ?_, ySp_of h8 h (by omega) hx hm, yfr_r⟩
    apply bX6_spread_98_34_i
    simp (disch := omega) only [yl3, yl4, yl5, yl6, yl7, yl8, yl9, yl10, yl13, yl16, yl20, yl21, yl22, yl23, yl24, yl32, yl40, yl48, yl57, yl59, yl63, yl64, yl97, yl99, yl122, yl255, yl256, yl400, yl1000, yl2000, yl2048, yc0_eq, yc0_eq2, yc0_le, yc0_ge, yc0_lt, yc0_gt, yc0_ad, yc0_da, yc0_sb, yc0_ml, yc0_lm, yc1_eq, yc1_eq2, yc1_le, yc1_ge, yc1_lt, yc1_gt, yc1_ad, yc1_da, yc1_sb, yc1_ml, yc1_lm, yc2_eq, yc2_eq2, yc2_le, yc2_ge, yc2_lt, yc2_gt, yc2_ad, yc2_da, yc2_sb, yc2_ml, yc2_lm, yc31_ge, ymodn, yI_1sl, yc2_dv, yn1_eq, yn1_lt, xgd_t, xlt_e, Option.bind_some, nI_add, pk_mul, pk_sub, pk_div, pk_rem, yI_and, yI_or, yI_xor, yI_nd, yI_nd2, yI_31, yI_shl, nI_leI, nI_ltI, nI_eq, nI_clamp, xinb_t, yP_z, yP_if, hm.2.2, if_pos]
  | succ d ih =>
    intro i hi F f s m hR h hm
    have hs : s ≤ 64 := ypig 64 s f (fun j hj => (h.2.1 j hj).1) h.2.2.2.1
    by_cases his : i < s
    · obtain ⟨m1, F1, f1, s1, r1, r2, r3, r4⟩ := s_rf_98 hv hk hR8 hsy h8 hx hR h hm his
      obtain ⟨m', e1, e2, e3⟩ := ih (i + 1) (by omega) F1 f1 s1 m1 (fun p hp => by rw [yfr_1 r4 v p hn]; exact hR p hp) r2 r3
      refine ⟨m', ?_, e2, yfr_t r4 e3⟩
      apply bX6_spread_98_34_i
      simp (disch := omega) only [yl3, yl4, yl5, yl6, yl7, yl8, yl9, yl10, yl13, yl16, yl20, yl21, yl22, yl23, yl24, yl32, yl40, yl48, yl57, yl59, yl63, yl64, yl97, yl99, yl122, yl255, yl256, yl400, yl1000, yl2000, yl2048, yc0_eq, yc0_eq2, yc0_le, yc0_ge, yc0_lt, yc0_gt, yc0_ad, yc0_da, yc0_sb, yc0_ml, yc0_lm, yc1_eq, yc1_eq2, yc1_le, yc1_ge, yc1_lt, yc1_gt, yc1_ad, yc1_da, yc1_sb, yc1_ml, yc1_lm, yc2_eq, yc2_eq2, yc2_le, yc2_ge, yc2_lt, yc2_gt, yc2_ad, yc2_da, yc2_sb, yc2_ml, yc2_lm, yc31_ge, ymodn, yI_1sl, yc2_dv, yn1_eq, yn1_lt, xgd_t, xlt_e, Option.bind_some, nI_add, pk_mul, pk_sub, pk_div, pk_rem, yI_and, yI_or, yI_xor, yI_nd, yI_nd2, yI_31, yI_shl, nI_leI, nI_ltI, nI_eq, nI_clamp, xinb_t, yP_z, yP_if, hm.2.2, if_neg, hv, Bool.not_false, hm.2.1 i his, r1, e1]
    · refine ⟨m, ?_, ySp_of h8 h (by omega) hx hm, yfr_r⟩
      apply bX6_spread_98_34_i
      simp (disch := omega) only [yl3, yl4, yl5, yl6, yl7, yl8, yl9, yl10, yl13, yl16, yl20, yl21, yl22, yl23, yl24, yl32, yl40, yl48, yl57, yl59, yl63, yl64, yl97, yl99, yl122, yl255, yl256, yl400, yl1000, yl2000, yl2048, yc0_eq, yc0_eq2, yc0_le, yc0_ge, yc0_lt, yc0_gt, yc0_ad, yc0_da, yc0_sb, yc0_ml, yc0_lm, yc1_eq, yc1_eq2, yc1_le, yc1_ge, yc1_lt, yc1_gt, yc1_ad, yc1_da, yc1_sb, yc1_ml, yc1_lm, yc2_eq, yc2_eq2, yc2_le, yc2_ge, yc2_lt, yc2_gt, yc2_ad, yc2_da, yc2_sb, yc2_ml, yc2_lm, yc31_ge, ymodn, yI_1sl, yc2_dv, yn1_eq, yn1_lt, xgd_t, xlt_e, Option.bind_some, nI_add, pk_mul, pk_sub, pk_div, pk_rem, yI_and, yI_or, yI_xor, yI_nd, yI_nd2, yI_31, yI_shl, nI_leI, nI_ltI, nI_eq, nI_clamp, xinb_t, yP_z, yP_if, hm.2.2, if_pos]
theorem s_spread_c_98 {v x : Nat} : ∀ (d k : Nat) (m : xmm), k + d = 64 → (∀ z, z < k → m.1 99 z = -1) → ∃ m0, (∀ {z : xmm}, bX6_spread_98_2 v (nI x) (nI 64) m0 = some z → bX6_spread_98_2 v (nI x) (nI k) m = some z) ∧ (∀ z, z < 64 → m0.1 99 z = -1) ∧ yfr [98, 99, 100] m m0 := by
  intro d
  induction d with
  | zero =>
    intro k m hk h
    have e : k = 64 := by omega
    subst e
    exact ⟨m, id, h, yfr_r⟩
  | succ d ih =>
    intro k m hk h
    obtain ⟨m0, e1, e2, e3⟩ := ih (k + 1) (xwi m 99 k (-1)) (by omega) (by
      intro z hz
      by_cases e : z = k
      · subst e; exact xwi_e _ _ _ _
      · rw [xwi_i e]; exact h z (by omega))
    refine ⟨m0, fun {z} hz => ?_, e2, yfr_t (yfr_w yfr_r (by decide)) e3⟩
    apply bX6_spread_98_2_i
    simp (disch := omega) only [yl3, yl4, yl5, yl6, yl7, yl8, yl9, yl10, yl13, yl16, yl20, yl21, yl22, yl23, yl24, yl32, yl40, yl48, yl57, yl59, yl63, yl64, yl97, yl99, yl122, yl255, yl256, yl400, yl1000, yl2000, yl2048, yc0_eq, yc0_eq2, yc0_le, yc0_ge, yc0_lt, yc0_gt, yc0_ad, yc0_da, yc0_sb, yc0_ml, yc0_lm, yc1_eq, yc1_eq2, yc1_le, yc1_ge, yc1_lt, yc1_gt, yc1_ad, yc1_da, yc1_sb, yc1_ml, yc1_lm, yc2_eq, yc2_eq2, yc2_le, yc2_ge, yc2_lt, yc2_gt, yc2_ad, yc2_da, yc2_sb, yc2_ml, yc2_lm, yc31_ge, ymodn, yI_1sl, yc2_dv, yn1_eq, yn1_lt, xgd_t, xlt_e, Option.bind_some, nI_add, pk_mul, pk_sub, pk_div, pk_rem, yI_and, yI_or, yI_xor, yI_nd, yI_nd2, yI_31, yI_shl, nI_leI, nI_ltI, nI_eq, nI_clamp, xinb_t, yP_z, yP_if, if_neg]
    exact e1 hz
theorem s_spread_98 {R : Nat → Nat} {x v : Nat} (hv : Nat.beq v 1999 = false) (hk : xkd v = (1, 8)) (hn : v ∉ [98, 99, 100]) (hR8 : ∀ p, p < 8 → R p < 256) (hsy : ysy (yad R)) (h8 : yg8 (yad R)) (h64 : x < 64) (hx : yad R (yan x).1 (yan x).2) {m : xmm} (hR : yrw v R m) : ∃ m', fX6_spread_98 v (nI x) m = some m' ∧ ySp 99 100 98 2 (yad R) x m' ∧ yfr [98, 99, 100] m m' := by
  obtain ⟨m0, a1, a2, a3⟩ := s_spread_c_98 (v := v) (x := x) 64 0 m rfl (fun z hz => absurd hz (Nat.not_lt_zero z))
  have hm : yBM 99 100 98 2 (yad R) x (fun z => z = x) (fun _ => x) 1 (xwi (xwi (xwi (xwi m0 98 2 0) 99 x 0) 100 0 (nI x)) 98 2 (nI 1)) := by
    refine ⟨fun z hz => ?_, fun j hj => ?_, ?_⟩
    · rw [xwi_k (by decide), xwi_k (by decide)]
      by_cases e : z = x
      · subst e
        rw [xwi_e, yif_t rfl, ydt_self]; rfl
      · rw [xwi_i e, xwi_k (by decide), yif_f e]
        exact a2 z hz
    · have e : j = 0 := by omega
      subst e
      rw [xwi_k (by decide), xwi_e]
    · rw [xwi_e]
  have f1 : yfr [98, 99, 100] m (xwi (xwi (xwi (xwi m0 98 2 0) 99 x 0) 100 0 (nI x)) 98 2 (nI 1)) := yfr_w (yfr_w (yfr_w (yfr_w a3 (by decide)) (by decide)) (by decide)) (by decide)
  obtain ⟨m', e1, e2, e3⟩ := s_spread_l_98 hv hk hn hR8 hsy h8 hx 64 0 rfl _ _ _ _ (fun p hp => by rw [yfr_1 f1 v p hn]; exact hR p hp) (yBI_0 (yad R) h64) hm
  refine ⟨m', ?_, e2, yfr_t f1 e3⟩
  apply fX6_spread_98_i
  apply a1
  apply bX6_spread_98_2_i
  rw [if_pos (by decide)]
  have hr : fX6_reach_98 (nI x) 0 (xwi m0 98 2 0) = some (xwi (xwi (xwi (xwi m0 98 2 0) 99 x 0) 100 0 (nI x)) 98 2 (nI 1)) := by
    apply fX6_reach_98_i
    have hz : (xwi m0 98 2 0).1 99 x = -1 := by rw [xwi_k (by decide)]; exact a2 x h64
    have hc : (0 : Int32).toNatClampNeg = 0 := rfl
    have hb : xinb 64 (0 : Int32) = true := rfl
    have ha : (0 : Int32) + 1 = nI 1 := rfl
    have hd : ¬ (64 : Int32) ≤ 0 := by decide
    simp (disch := omega) only [xgd_t, xlt_e, xinb_t, nI_clamp, hz, hc, hb, ha, if_true, xwi_e, xwi_k, if_neg hd]
  rw [xlt_e, hr, Option.bind_some]
  exact e1
theorem s_reach_104 {g : yG} {x i : Nat} {H F : Nat → Prop} {f : Nat → Nat} {s : Nat} {m : xmm} (h : yBI g x i H F f s) (hm : yBM 105 106 104 2 g x F f s m) (hi : i < s) {z : Nat} (hz : z < 64) (hf : yfc g (yan (f i)) (yan z)) : ∃ m' F' f' s', fX6_reach_104 (nI z) (nI (ydt g (yan x) (yan (f i)) + 1)) m = some m' ∧ yBI g x i (fun y => H y ∨ y = z) F' f' s' ∧ yBM 105 106 104 2 g x F' f' s' m' ∧ yfr [104, 105, 106] m m' ∧ i < s' ∧ f' i = f i := by
  obtain ⟨q1, q2, q3⟩ := hm
  by_cases hF : F z
  · refine ⟨m, F, f, s, ?_, yBI_h h ?_, ⟨q1, q2, q3⟩, yfr_r, hi, rfl⟩
    · apply fX6_reach_104_i
      have hd : ydt g (yan x) (yan z) < 2 ^ 31 := by
        obtain ⟨_, p1, p2, p3, _⟩ := h
        obtain ⟨j, j1, j2⟩ := (p2 z hF).2.2
        have e1 := (p1 j j1).2.2
        have e2 := ypig 64 s f (fun j hj => (p1 j hj).1) p3
        rw [j2] at e1
        omega
      simp (disch := omega) only [yl3, yl4, yl5, yl6, yl7, yl8, yl9, yl10, yl13, yl16, yl20, yl21, yl22, yl23, yl24, yl32, yl40, yl48, yl57, yl59, yl63, yl64, yl97, yl99, yl122, yl255, yl256, yl400, yl1000, yl2000, yl2048, yc0_eq, yc0_eq2, yc0_le, yc0_ge, yc0_lt, yc0_gt, yc0_ad, yc0_da, yc0_sb, yc0_ml, yc0_lm, yc1_eq, yc1_eq2, yc1_le, yc1_ge, yc1_lt, yc1_gt, yc1_ad, yc1_da, yc1_sb, yc1_ml, yc1_lm, yc2_eq, yc2_eq2, yc2_le, yc2_ge, yc2_lt, yc2_gt, yc2_ad, yc2_da, yc2_sb, yc2_ml, yc2_lm, yc31_ge, ymodn, yI_1sl, yc2_dv, yn1_eq, yn1_lt, xgd_t, xlt_e, Option.bind_some, nI_add, pk_mul, pk_sub, pk_div, pk_rem, yI_and, yI_or, yI_xor, yI_nd, yI_nd2, yI_31, yI_shl, nI_leI, nI_ltI, nI_eq, nI_clamp, xinb_t, yP_z, yP_if, q1 z hz, yif_t hF, if_false]
    · rintro y _ (e | e) _
      · exact Or.inl e
      · subst e; exact Or.inr hF
  · have hs := yBI_lt h hz hF
    obtain ⟨d1, h'⟩ := yBI_add h hi hz hF hf
    refine ⟨xwi (xwi (xwi m 105 z (nI (ydt g (yan x) (yan (f i)) + 1))) 106 s (nI z)) 104 2 (nI (s + 1)), _, _, _, ?_, yBI_h h' ?_, ⟨?_, ?_, ?_⟩, ?_, by omega, yup_n (by omega)⟩
    · apply fX6_reach_104_i
      simp (disch := omega) only [yl3, yl4, yl5, yl6, yl7, yl8, yl9, yl10, yl13, yl16, yl20, yl21, yl22, yl23, yl24, yl32, yl40, yl48, yl57, yl59, yl63, yl64, yl97, yl99, yl122, yl255, yl256, yl400, yl1000, yl2000, yl2048, yc0_eq, yc0_eq2, yc0_le, yc0_ge, yc0_lt, yc0_gt, yc0_ad, yc0_da, yc0_sb, yc0_ml, yc0_lm, yc1_eq, yc1_eq2, yc1_le, yc1_ge, yc1_lt, yc1_gt, yc1_ad, yc1_da, yc1_sb, yc1_ml, yc1_lm, yc2_eq, yc2_eq2, yc2_le, yc2_ge, yc2_lt, yc2_gt, yc2_ad, yc2_da, yc2_sb, yc2_ml, yc2_lm, yc31_ge, ymodn, yI_1sl, yc2_dv, yn1_eq, yn1_lt, xgd_t, xlt_e, Option.bind_some, nI_add, pk_mul, pk_sub, pk_div, pk_rem, yI_and, yI_or, yI_xor, yI_nd, yI_nd2, yI_31, yI_shl, nI_leI, nI_ltI, nI_eq, nI_clamp, xinb_t, yP_z, yP_if, q1 z hz, q3, yif_f hF, if_true, if_neg, xwi_e, xwi_k]
    · rintro y _ (e | e) _
      · exact Or.inl e
      · subst e; exact Or.inr (Or.inr rfl)
    · intro y hy
      rw [xwi_k (by decide), xwi_k (by decide)]
      by_cases e : y = z
      · subst e
        rw [xwi_e, yif_t (Or.inr rfl), d1]
      · rw [xwi_i e, q1 y hy]
        exact yif_c ⟨Or.inl, fun h => h.elim id fun h => absurd h e⟩
    · intro j hj
      rw [xwi_k (by decide)]
      by_cases e : j = s
      · subst e
        rw [xwi_e, yup_e]
      · rw [xwi_i e, xwi_k (by decide), yup_n e]
        exact q2 j (by omega)
    · rw [xwi_e]
    · exact yfr_w (yfr_w (yfr_w yfr_r (by decide)) (by decide)) (by decide)
theorem s_rf_l_104 {R : Nat → Nat} {x i : Nat} {a b E T u : Nat} (ha : a < 8) (hb : b < 8) (hu : u = 8 * a + b) (hE : ∀ c, yb E c ↔ yb (R a) c ∧ ¬ yb (R b) c ∧ c ≠ b) (hT : ∀ c, yb T c ↔ yb (R b) c ∧ ¬ yb (R a) c ∧ c ≠ a) (hE8 : E < 256) (hT8 : T < 256) (hsy : ysy (yad R)) (hab : yb (R a) b) : ∀ (d k : Nat), k + d = 8 → ∀ (F : Nat → Prop) (f : Nat → Nat) (s : Nat) (m : xmm), yBI (yad R) x i (fun z => (z / 8 = a ∧ z % 8 < k) ∨ (z % 8 = b ∧ z / 8 < k)) F f s → yBM 105 106 104 2 (yad R) x F f s m → i < s → f i = u → ∃ m' F' f' s', bX6_reachForced_104_51 (nI u) (nI a) (nI b) (nI E) (nI T) (nI k) m = some m' ∧ yBI (yad R) x i (fun z => (z / 8 = a ∧ z % 8 < 8) ∨ (z % 8 = b ∧ z / 8 < 8)) F' f' s' ∧ yBM 105 106 104 2 (yad R) x F' f' s' m' ∧ yfr [104, 105, 106] m m' ∧ i < s' ∧ f' i = u := by
  intro d
  induction d with
  | zero =>
    intro k hk F f s m h hm hi hfi
    have e : k = 8 := by omega
    subst e
    refine ⟨m, F, f, s, ?_, h, hm, yfr_r, hi, hfi⟩
    apply bX6_reachForced_104_51_i
    rfl
  | succ d ih =>
    intro k hk F f s m h hm hi hfi
    have hua : yan u = (a, b) := by rw [hu]; exact yan_of hb
    -- the first half
    have half : ∃ m1 F1 f1 s1, (bX6_reachForced_104_86 (nI u) (nI a) (nI b) (nI E) (nI T) (nI k) m1 = none ∨ True) ∧ yBI (yad R) x i (fun z => ((z / 8 = a ∧ z % 8 < k) ∨ (z % 8 = b ∧ z / 8 < k)) ∨ z = 8 * a + k) F1 f1 s1 ∧ yBM 105 106 104 2 (yad R) x F1 f1 s1 m1 ∧ yfr [104, 105, 106] m m1 ∧ i < s1 ∧ f1 i = u ∧ ∀ {z : xmm}, bX6_reachForced_104_86 (nI u) (nI a) (nI b) (nI E) (nI T) (nI k) m1 = some z → bX6_reachForced_104_51 (nI u) (nI a) (nI b) (nI E) (nI T) (nI k) m = some z := by
      by_cases hc : yb E k
      · have hf : yfc (yad R) (yan (f i)) (yan (8 * a + k)) := by
          have := (hE k).mp hc
          rw [hfi, hua, yan_of (by omega)]
          exact ⟨hab, this.1, Or.inl ⟨rfl, this.2.2.symm, this.2.1⟩⟩
        obtain ⟨m1, F1, f1, s1, r1, r2, r3, r4, r5, r6⟩ := s_reach_104 h hm hi (z := 8 * a + k) (by omega) hf
        refine ⟨m1, F1, f1, s1, Or.inr trivial, r2, r3, r4, r5, r6.trans hfi, fun {z} hz => ?_⟩
        apply bX6_reachForced_104_51_i
        have q := hm.1 u (by omega)
        have Fu : F u := by rw [← hfi]; exact (h.2.1 i hi).2.1
        rw [yif_t Fu] at q
        rw [hfi] at r1
        simp (disch := omega) only [yl3, yl4, yl5, yl6, yl7, yl8, yl9, yl10, yl13, yl16, yl20, yl21, yl22, yl23, yl24, yl32, yl40, yl48, yl57, yl59, yl63, yl64, yl97, yl99, yl122, yl255, yl256, yl400, yl1000, yl2000, yl2048, yc0_eq, yc0_eq2, yc0_le, yc0_ge, yc0_lt, yc0_gt, yc0_ad, yc0_da, yc0_sb, yc0_ml, yc0_lm, yc1_eq, yc1_eq2, yc1_le, yc1_ge, yc1_lt, yc1_gt, yc1_ad, yc1_da, yc1_sb, yc1_ml, yc1_lm, yc2_eq, yc2_eq2, yc2_le, yc2_ge, yc2_lt, yc2_gt, yc2_ad, yc2_da, yc2_sb, yc2_ml, yc2_lm, yc31_ge, ymodn, yI_1sl, yc2_dv, yn1_eq, yn1_lt, xgd_t, xlt_e, Option.bind_some, nI_add, pk_mul, pk_sub, pk_div, pk_rem, yI_and, yI_or, yI_xor, yI_nd, yI_nd2, yI_31, yI_shl, nI_leI, nI_ltI, nI_eq, nI_clamp, xinb_t, yP_z, yP_if, if_neg, s_contains, s_arrowFrom, yif_t hc, q, r1]
        exact hz
      · refine ⟨m, F, f, s, Or.inr trivial, yBI_h h ?_, hm, yfr_r, hi, hfi, fun {z} hz => ?_⟩
        · rintro z hz (e | e) hf
          · exact Or.inl e
          · subst e
            rw [hfi, hua, yan_of (by omega)] at hf
            refine absurd ((hE k).mpr ?_) hc
            obtain ⟨f1, f2, ⟨g1, g2, g3⟩ | ⟨g1, g2, g3⟩⟩ := hf
            · exact ⟨f2, g3, g2.symm⟩
            · exact absurd rfl g2
        · apply bX6_reachForced_104_51_i
          simp (disch := omega) only [yl3, yl4, yl5, yl6, yl7, yl8, yl9, yl10, yl13, yl16, yl20, yl21, yl22, yl23, yl24, yl32, yl40, yl48, yl57, yl59, yl63, yl64, yl97, yl99, yl122, yl255, yl256, yl400, yl1000, yl2000, yl2048, yc0_eq, yc0_eq2, yc0_le, yc0_ge, yc0_lt, yc0_gt, yc0_ad, yc0_da, yc0_sb, yc0_ml, yc0_lm, yc1_eq, yc1_eq2, yc1_le, yc1_ge, yc1_lt, yc1_gt, yc1_ad, yc1_da, yc1_sb, yc1_ml, yc1_lm, yc2_eq, yc2_eq2, yc2_le, yc2_ge, yc2_lt, yc2_gt, yc2_ad, yc2_da, yc2_sb, yc2_ml, yc2_lm, yc31_ge, ymodn, yI_1sl, yc2_dv, yn1_eq, yn1_lt, xgd_t, xlt_e, Option.bind_some, nI_add, pk_mul, pk_sub, pk_div, pk_rem, yI_and, yI_or, yI_xor, yI_nd, yI_nd2, yI_31, yI_shl, nI_leI, nI_ltI, nI_eq, nI_clamp, xinb_t, yP_z, yP_if, if_neg, s_contains, yif_f hc]
          exact hz
    obtain ⟨m1, F1, f1, s1, _, b1, b2, b3, b4, b5, b6⟩ := half
    have half2 : ∃ m2 F2 f2 s2, yBI (yad R) x i (fun z => (z / 8 = a ∧ z % 8 < k + 1) ∨ (z % 8 = b ∧ z / 8 < k + 1)) F2 f2 s2 ∧ yBM 105 106 104 2 (yad R) x F2 f2 s2 m2 ∧ yfr [104, 105, 106] m1 m2 ∧ i < s2 ∧ f2 i = u ∧ ∀ {z : xmm}, bX6_reachForced_104_51 (nI u) (nI a) (nI b) (nI E) (nI T) (nI (k + 1)) m2 = some z → bX6_reachForced_104_86 (nI u) (nI a) (nI b) (nI E) (nI T) (nI k) m1 = some z := by
      have num : ∀ z, z < 64 → ((z / 8 = a ∧ z % 8 < k + 1) ∨ (z % 8 = b ∧ z / 8 < k + 1)) → ((((z / 8 = a ∧ z % 8 < k) ∨ (z % 8 = b ∧ z / 8 < k)) ∨ z = 8 * a + k) ∨ z = 8 * k + b) := by
        intro z hz h
        omega
      by_cases hc : yb T k
      · have hf : yfc (yad R) (yan (f1 i)) (yan (8 * k + b)) := by
          have := (hT k).mp hc
          rw [b5, hua, yan_of hb]
          exact ⟨hab, hsy.1 _ _ this.1, Or.inr ⟨rfl, this.2.2.symm, this.2.1⟩⟩
        obtain ⟨m2, F2, f2, s2, r1, r2, r3, r4, r5, r6⟩ := s_reach_104 b1 b2 b4 (z := 8 * k + b) (by omega) hf
        refine ⟨m2, F2, f2, s2, yBI_h r2 ?_, r3, r4, r5, r6.trans b5, fun {z} hz => ?_⟩
        · intro z hz hh _
          exact Or.inl (num z hz hh)
        · apply bX6_reachForced_104_86_i
          have q := b2.1 u (by omega)
          have Fu : F1 u := by rw [← b5]; exact (b1.2.1 i b4).2.1
          rw [yif_t Fu] at q
          rw [b5] at r1
          simp (disch := omega) only [yl3, yl4, yl5, yl6, yl7, yl8, yl9, yl10, yl13, yl16, yl20, yl21, yl22, yl23, yl24, yl32, yl40, yl48, yl57, yl59, yl63, yl64, yl97, yl99, yl122, yl255, yl256, yl400, yl1000, yl2000, yl2048, yc0_eq, yc0_eq2, yc0_le, yc0_ge, yc0_lt, yc0_gt, yc0_ad, yc0_da, yc0_sb, yc0_ml, yc0_lm, yc1_eq, yc1_eq2, yc1_le, yc1_ge, yc1_lt, yc1_gt, yc1_ad, yc1_da, yc1_sb, yc1_ml, yc1_lm, yc2_eq, yc2_eq2, yc2_le, yc2_ge, yc2_lt, yc2_gt, yc2_ad, yc2_da, yc2_sb, yc2_ml, yc2_lm, yc31_ge, ymodn, yI_1sl, yc2_dv, yn1_eq, yn1_lt, xgd_t, xlt_e, Option.bind_some, nI_add, pk_mul, pk_sub, pk_div, pk_rem, yI_and, yI_or, yI_xor, yI_nd, yI_nd2, yI_31, yI_shl, nI_leI, nI_ltI, nI_eq, nI_clamp, xinb_t, yP_z, yP_if, if_neg, s_contains, s_arrowFrom, yif_t hc, q, r1]
          exact hz
      · refine ⟨m1, F1, f1, s1, yBI_h b1 ?_, b2, yfr_r, b4, b5, fun {z} hz => ?_⟩
        · intro z hz hh hf
          rcases num z hz hh with e | e
          · exact Or.inl e
          · subst e
            rw [b5, hua, yan_of hb] at hf
            refine absurd ((hT k).mpr ?_) hc
            obtain ⟨f1, f2, ⟨g1, g2, g3⟩ | ⟨g1, g2, g3⟩⟩ := hf
            · exact absurd rfl g2
            · exact ⟨hsy.1 _ _ f2, g3, g2.symm⟩
        · apply bX6_reachForced_104_86_i
          simp (disch := omega) only [yl3, yl4, yl5, yl6, yl7, yl8, yl9, yl10, yl13, yl16, yl20, yl21, yl22, yl23, yl24, yl32, yl40, yl48, yl57, yl59, yl63, yl64, yl97, yl99, yl122, yl255, yl256, yl400, yl1000, yl2000, yl2048, yc0_eq, yc0_eq2, yc0_le, yc0_ge, yc0_lt, yc0_gt, yc0_ad, yc0_da, yc0_sb, yc0_ml, yc0_lm, yc1_eq, yc1_eq2, yc1_le, yc1_ge, yc1_lt, yc1_gt, yc1_ad, yc1_da, yc1_sb, yc1_ml, yc1_lm, yc2_eq, yc2_eq2, yc2_le, yc2_ge, yc2_lt, yc2_gt, yc2_ad, yc2_da, yc2_sb, yc2_ml, yc2_lm, yc31_ge, ymodn, yI_1sl, yc2_dv, yn1_eq, yn1_lt, xgd_t, xlt_e, Option.bind_some, nI_add, pk_mul, pk_sub, pk_div, pk_rem, yI_and, yI_or, yI_xor, yI_nd, yI_nd2, yI_31, yI_shl, nI_leI, nI_ltI, nI_eq, nI_clamp, xinb_t, yP_z, yP_if, if_neg, s_contains, yif_f hc]
          exact hz
    obtain ⟨m2, F2, f2, s2, c1, c2, c3, c4, c5, c6⟩ := half2
    obtain ⟨m', F', f', s', e1, e2, e3, e4, e5, e6⟩ := ih (k + 1) (by omega) F2 f2 s2 m2 c1 c2 c4 c5
    exact ⟨m', F', f', s', b6 (c6 e1), e2, e3, yfr_t b3 (yfr_t c3 e4), e5, e6⟩
theorem s_rf_104 {R : Nat → Nat} {x i v : Nat} (hv : Nat.beq v 1999 = false) (hk : xkd v = (1, 8)) (hR8 : ∀ p, p < 8 → R p < 256) (hsy : ysy (yad R)) (h8 : yg8 (yad R)) (hx : yad R (yan x).1 (yan x).2) {F : Nat → Prop} {f : Nat → Nat} {s : Nat} {m : xmm} (hR : yrw v R m) (h : yBI (yad R) x i (fun _ => False) F f s) (hm : yBM 105 106 104 2 (yad R) x F f s m) (hi : i < s) : ∃ m' F' f' s', fX6_reachForced_104 v (nI (f i)) m = some m' ∧ yBI (yad R) x (i + 1) (fun _ => False) F' f' s' ∧ yBM 105 106 104 2 (yad R) x F' f' s' m' ∧ yfr [104, 105, 106] m m' := by
  have hu : f i < 64 := (h.2.1 i hi).1
  have hua : yad R (f i / 8) (f i % 8) := ycl_e (h.2.2.1 _ (h.2.1 i hi).2.1).2.1 hx
  have ha : f i / 8 < 8 := by omega
  have hb : f i % 8 < 8 := by omega
  have ra := hR8 _ ha
  have rb := hR8 _ hb
  have sp : ∀ A B c d : Nat, yb (ynd (ynd A B) (2 ^ c)) d ↔ yb A d ∧ ¬ yb B d ∧ d ≠ c := by
    intro A B c d
    rw [yb_nd, yb_nd, yb_pw, and_assoc]
  obtain ⟨m', F', f', s', e1, e2, e3, e4, e5, e6⟩ := s_rf_l_104 (x := x) (i := i) (a := f i / 8) (b := f i % 8) (u := f i) (E := ynd (ynd (R (f i / 8)) (R (f i % 8))) (2 ^ (f i % 8))) (T := ynd (ynd (R (f i % 8)) (R (f i / 8))) (2 ^ (f i / 8))) ha hb (by omega) (fun c => sp _ _ _ c) (fun c => sp _ _ _ c) (ynd_le _ _ 8 (ynd_le _ _ 8 ra)) (ynd_le _ _ 8 (ynd_le _ _ 8 rb)) hsy hua 8 0 (by omega) F f s m (yBI_h h fun z _ hh _ => by omega) hm hi rfl
  refine ⟨m', F', f', s', ?_, yBI_n h8 e2 e5 hx ?_, e3, e4⟩
  · apply fX6_reachForced_104_i
    simp (disch := omega) only [yl3, yl4, yl5, yl6, yl7, yl8, yl9, yl10, yl13, yl16, yl20, yl21, yl22, yl23, yl24, yl32, yl40, yl48, yl57, yl59, yl63, yl64, yl97, yl99, yl122, yl255, yl256, yl400, yl1000, yl2000, yl2048, yc0_eq, yc0_eq2, yc0_le, yc0_ge, yc0_lt, yc0_gt, yc0_ad, yc0_da, yc0_sb, yc0_ml, yc0_lm, yc1_eq, yc1_eq2, yc1_le, yc1_ge, yc1_lt, yc1_gt, yc1_ad, yc1_da, yc1_sb, yc1_ml, yc1_lm, yc2_eq, yc2_eq2, yc2_le, yc2_ge, yc2_lt, yc2_gt, yc2_ad, yc2_da, yc2_sb, yc2_ml, yc2_lm, yc31_ge, ymodn, yI_1sl, yc2_dv, yn1_eq, yn1_lt, xgd_t, xlt_e, Option.bind_some, nI_add, pk_mul, pk_sub, pk_div, pk_rem, yI_and, yI_or, yI_xor, yI_nd, yI_nd2, yI_31, yI_shl, nI_leI, nI_ltI, nI_eq, nI_clamp, xinb_t, yP_z, yP_if, hv, Bool.not_false, xia_t hk, hR _ ha, hR _ hb]
    exact e1
  · intro z hz hf
    rw [e6] at hf
    obtain ⟨_, _, ⟨g1, _, _⟩ | ⟨g1, _, _⟩⟩ := hf
    · exact Or.inl ⟨g1.symm, by omega⟩
    · exact Or.inr ⟨g1.symm, by omega⟩
theorem s_spread_l_104 {R : Nat → Nat} {x v : Nat} (hv : Nat.beq v 1999 = false) (hk : xkd v = (1, 8)) (hn : v ∉ [104, 105, 106]) (hR8 : ∀ p, p < 8 → R p < 256) (hsy : ysy (yad R)) (h8 : yg8 (yad R)) (hx : yad R (yan x).1 (yan x).2) : ∀ (d i : Nat), i + d = 64 → ∀ (F : Nat → Prop) (f : Nat → Nat) (s : Nat) (m : xmm), yrw v R m → yBI (yad R) x i (fun _ => False) F f s → yBM 105 106 104 2 (yad R) x F f s m → ∃ m', bX6_spread_104_34 v (nI i) m = some m' ∧ ySp 105 106 104 2 (yad R) x m' ∧ yfr [104, 105, 106] m m' := by
  intro d
  induction d with
  | zero =>
    intro i hi F f s m hR h hm
    have hs : s ≤ 64 := ypig 64 s f (fun j hj => (h.2.1 j hj).1) h.2.2.2.1
    refine ⟨m, ?_, ySp_of h8 h (by omega) hx hm, yfr_r⟩
    apply bX6_spread_104_34_i
    simp (disch := omega) only [yl3, yl4, yl5, yl6, yl7, yl8, yl9, yl10, yl13, yl16, yl20, yl21, yl22, yl23, yl24, yl32, yl40, yl48, yl57, yl59, yl63, yl64, yl97, yl99, yl122, yl255, yl256, yl400, yl1000, yl2000, yl2048, yc0_eq, yc0_eq2, yc0_le, yc0_ge, yc0_lt, yc0_gt, yc0_ad, yc0_da, yc0_sb, yc0_ml, yc0_lm, yc1_eq, yc1_eq2, yc1_le, yc1_ge, yc1_lt, yc1_gt, yc1_ad, yc1_da, yc1_sb, yc1_ml, yc1_lm, yc2_eq, yc2_eq2, yc2_le, yc2_ge, yc2_lt, yc2_gt, yc2_ad, yc2_da, yc2_sb, yc2_ml, yc2_lm, yc31_ge, ymodn, yI_1sl, yc2_dv, yn1_eq, yn1_lt, xgd_t, xlt_e, Option.bind_some, nI_add, pk_mul, pk_sub, pk_div, pk_rem, yI_and, yI_or, yI_xor, yI_nd, yI_nd2, yI_31, yI_shl, nI_leI, nI_ltI, nI_eq, nI_clamp, xinb_t, yP_z, yP_if, hm.2.2, if_pos]
  | succ d ih =>
    intro i hi F f s m hR h hm
    have hs : s ≤ 64 := ypig 64 s f (fun j hj => (h.2.1 j hj).1) h.2.2.2.1
    by_cases his : i < s
    · obtain ⟨m1, F1, f1, s1, r1, r2, r3, r4⟩ := s_rf_104 hv hk hR8 hsy h8 hx hR h hm his
      obtain ⟨m', e1, e2, e3⟩ := ih (i + 1) (by omega) F1 f1 s1 m1 (fun p hp => by rw [yfr_1 r4 v p hn]; exact hR p hp) r2 r3
      refine ⟨m', ?_, e2, yfr_t r4 e3⟩
      apply bX6_spread_104_34_i
      simp (disch := omega) only [yl3, yl4, yl5, yl6, yl7, yl8, yl9, yl10, yl13, yl16, yl20, yl21, yl22, yl23, yl24, yl32, yl40, yl48, yl57, yl59, yl63, yl64, yl97, yl99, yl122, yl255, yl256, yl400, yl1000, yl2000, yl2048, yc0_eq, yc0_eq2, yc0_le, yc0_ge, yc0_lt, yc0_gt, yc0_ad, yc0_da, yc0_sb, yc0_ml, yc0_lm, yc1_eq, yc1_eq2, yc1_le, yc1_ge, yc1_lt, yc1_gt, yc1_ad, yc1_da, yc1_sb, yc1_ml, yc1_lm, yc2_eq, yc2_eq2, yc2_le, yc2_ge, yc2_lt, yc2_gt, yc2_ad, yc2_da, yc2_sb, yc2_ml, yc2_lm, yc31_ge, ymodn, yI_1sl, yc2_dv, yn1_eq, yn1_lt, xgd_t, xlt_e, Option.bind_some, nI_add, pk_mul, pk_sub, pk_div, pk_rem, yI_and, yI_or, yI_xor, yI_nd, yI_nd2, yI_31, yI_shl, nI_leI, nI_ltI, nI_eq, nI_clamp, xinb_t, yP_z, yP_if, hm.2.2, if_neg, hv, Bool.not_false, hm.2.1 i his, r1, e1]
    · refine ⟨m, ?_, ySp_of h8 h (by omega) hx hm, yfr_r⟩
      apply bX6_spread_104_34_i
      simp (disch := omega) only [yl3, yl4, yl5, yl6, yl7, yl8, yl9, yl10, yl13, yl16, yl20, yl21, yl22, yl23, yl24, yl32, yl40, yl48, yl57, yl59, yl63, yl64, yl97, yl99, yl122, yl255, yl256, yl400, yl1000, yl2000, yl2048, yc0_eq, yc0_eq2, yc0_le, yc0_ge, yc0_lt, yc0_gt, yc0_ad, yc0_da, yc0_sb, yc0_ml, yc0_lm, yc1_eq, yc1_eq2, yc1_le, yc1_ge, yc1_lt, yc1_gt, yc1_ad, yc1_da, yc1_sb, yc1_ml, yc1_lm, yc2_eq, yc2_eq2, yc2_le, yc2_ge, yc2_lt, yc2_gt, yc2_ad, yc2_da, yc2_sb, yc2_ml, yc2_lm, yc31_ge, ymodn, yI_1sl, yc2_dv, yn1_eq, yn1_lt, xgd_t, xlt_e, Option.bind_some, nI_add, pk_mul, pk_sub, pk_div, pk_rem, yI_and, yI_or, yI_xor, yI_nd, yI_nd2, yI_31, yI_shl, nI_leI, nI_ltI, nI_eq, nI_clamp, xinb_t, yP_z, yP_if, hm.2.2, if_pos]
theorem s_spread_c_104 {v x : Nat} : ∀ (d k : Nat) (m : xmm), k + d = 64 → (∀ z, z < k → m.1 105 z = -1) → ∃ m0, (∀ {z : xmm}, bX6_spread_104_2 v (nI x) (nI 64) m0 = some z → bX6_spread_104_2 v (nI x) (nI k) m = some z) ∧ (∀ z, z < 64 → m0.1 105 z = -1) ∧ yfr [104, 105, 106] m m0 := by
  intro d
  induction d with
  | zero =>
    intro k m hk h
    have e : k = 64 := by omega
    subst e
    exact ⟨m, id, h, yfr_r⟩
  | succ d ih =>
    intro k m hk h
    obtain ⟨m0, e1, e2, e3⟩ := ih (k + 1) (xwi m 105 k (-1)) (by omega) (by
      intro z hz
      by_cases e : z = k
      · subst e; exact xwi_e _ _ _ _
      · rw [xwi_i e]; exact h z (by omega))
    refine ⟨m0, fun {z} hz => ?_, e2, yfr_t (yfr_w yfr_r (by decide)) e3⟩
    apply bX6_spread_104_2_i
    simp (disch := omega) only [yl3, yl4, yl5, yl6, yl7, yl8, yl9, yl10, yl13, yl16, yl20, yl21, yl22, yl23, yl24, yl32, yl40, yl48, yl57, yl59, yl63, yl64, yl97, yl99, yl122, yl255, yl256, yl400, yl1000, yl2000, yl2048, yc0_eq, yc0_eq2, yc0_le, yc0_ge, yc0_lt, yc0_gt, yc0_ad, yc0_da, yc0_sb, yc0_ml, yc0_lm, yc1_eq, yc1_eq2, yc1_le, yc1_ge, yc1_lt, yc1_gt, yc1_ad, yc1_da, yc1_sb, yc1_ml, yc1_lm, yc2_eq, yc2_eq2, yc2_le, yc2_ge, yc2_lt, yc2_gt, yc2_ad, yc2_da, yc2_sb, yc2_ml, yc2_lm, yc31_ge, ymodn, yI_1sl, yc2_dv, yn1_eq, yn1_lt, xgd_t, xlt_e, Option.bind_some, nI_add, pk_mul, pk_sub, pk_div, pk_rem, yI_and, yI_or, yI_xor, yI_nd, yI_nd2, yI_31, yI_shl, nI_leI, nI_ltI, nI_eq, nI_clamp, xinb_t, yP_z, yP_if, if_neg]
    exact e1 hz
theorem s_spread_104 {R : Nat → Nat} {x v : Nat} (hv : Nat.beq v 1999 = false) (hk : xkd v = (1, 8)) (hn : v ∉ [104, 105, 106]) (hR8 : ∀ p, p < 8 → R p < 256) (hsy : ysy (yad R)) (h8 : yg8 (yad R)) (h64 : x < 64) (hx : yad R (yan x).1 (yan x).2) {m : xmm} (hR : yrw v R m) : ∃ m', fX6_spread_104 v (nI x) m = some m' ∧ ySp 105 106 104 2 (yad R) x m' ∧ yfr [104, 105, 106] m m' := by
  obtain ⟨m0, a1, a2, a3⟩ := s_spread_c_104 (v := v) (x := x) 64 0 m rfl (fun z hz => absurd hz (Nat.not_lt_zero z))
  have hm : yBM 105 106 104 2 (yad R) x (fun z => z = x) (fun _ => x) 1 (xwi (xwi (xwi (xwi m0 104 2 0) 105 x 0) 106 0 (nI x)) 104 2 (nI 1)) := by
    refine ⟨fun z hz => ?_, fun j hj => ?_, ?_⟩
    · rw [xwi_k (by decide), xwi_k (by decide)]
      by_cases e : z = x
      · subst e
        rw [xwi_e, yif_t rfl, ydt_self]; rfl
      · rw [xwi_i e, xwi_k (by decide), yif_f e]
        exact a2 z hz
    · have e : j = 0 := by omega
      subst e
      rw [xwi_k (by decide), xwi_e]
    · rw [xwi_e]
  have f1 : yfr [104, 105, 106] m (xwi (xwi (xwi (xwi m0 104 2 0) 105 x 0) 106 0 (nI x)) 104 2 (nI 1)) := yfr_w (yfr_w (yfr_w (yfr_w a3 (by decide)) (by decide)) (by decide)) (by decide)
  obtain ⟨m', e1, e2, e3⟩ := s_spread_l_104 hv hk hn hR8 hsy h8 hx 64 0 rfl _ _ _ _ (fun p hp => by rw [yfr_1 f1 v p hn]; exact hR p hp) (yBI_0 (yad R) h64) hm
  refine ⟨m', ?_, e2, yfr_t f1 e3⟩
  apply fX6_spread_104_i
  apply a1
  apply bX6_spread_104_2_i
  rw [if_pos (by decide)]
  have hr : fX6_reach_104 (nI x) 0 (xwi m0 104 2 0) = some (xwi (xwi (xwi (xwi m0 104 2 0) 105 x 0) 106 0 (nI x)) 104 2 (nI 1)) := by
    apply fX6_reach_104_i
    have hz : (xwi m0 104 2 0).1 105 x = -1 := by rw [xwi_k (by decide)]; exact a2 x h64
    have hc : (0 : Int32).toNatClampNeg = 0 := rfl
    have hb : xinb 64 (0 : Int32) = true := rfl
    have ha : (0 : Int32) + 1 = nI 1 := rfl
    have hd : ¬ (64 : Int32) ≤ 0 := by decide
    simp (disch := omega) only [xgd_t, xlt_e, xinb_t, nI_clamp, hz, hc, hb, ha, if_true, xwi_e, xwi_k, if_neg hd]
  rw [xlt_e, hr, Option.bind_some]
  exact e1
theorem s_reach_110 {g : yG} {x i : Nat} {H F : Nat → Prop} {f : Nat → Nat} {s : Nat} {m : xmm} (h : yBI g x i H F f s) (hm : yBM 111 112 110 2 g x F f s m) (hi : i < s) {z : Nat} (hz : z < 64) (hf : yfc g (yan (f i)) (yan z)) : ∃ m' F' f' s', fX6_reach_110 (nI z) (nI (ydt g (yan x) (yan (f i)) + 1)) m = some m' ∧ yBI g x i (fun y => H y ∨ y = z) F' f' s' ∧ yBM 111 112 110 2 g x F' f' s' m' ∧ yfr [110, 111, 112] m m' ∧ i < s' ∧ f' i = f i := by
  obtain ⟨q1, q2, q3⟩ := hm
  by_cases hF : F z
  · refine ⟨m, F, f, s, ?_, yBI_h h ?_, ⟨q1, q2, q3⟩, yfr_r, hi, rfl⟩
    · apply fX6_reach_110_i
      have hd : ydt g (yan x) (yan z) < 2 ^ 31 := by
        obtain ⟨_, p1, p2, p3, _⟩ := h
        obtain ⟨j, j1, j2⟩ := (p2 z hF).2.2
        have e1 := (p1 j j1).2.2
        have e2 := ypig 64 s f (fun j hj => (p1 j hj).1) p3
        rw [j2] at e1
        omega
      simp (disch := omega) only [yl3, yl4, yl5, yl6, yl7, yl8, yl9, yl10, yl13, yl16, yl20, yl21, yl22, yl23, yl24, yl32, yl40, yl48, yl57, yl59, yl63, yl64, yl97, yl99, yl122, yl255, yl256, yl400, yl1000, yl2000, yl2048, yc0_eq, yc0_eq2, yc0_le, yc0_ge, yc0_lt, yc0_gt, yc0_ad, yc0_da, yc0_sb, yc0_ml, yc0_lm, yc1_eq, yc1_eq2, yc1_le, yc1_ge, yc1_lt, yc1_gt, yc1_ad, yc1_da, yc1_sb, yc1_ml, yc1_lm, yc2_eq, yc2_eq2, yc2_le, yc2_ge, yc2_lt, yc2_gt, yc2_ad, yc2_da, yc2_sb, yc2_ml, yc2_lm, yc31_ge, ymodn, yI_1sl, yc2_dv, yn1_eq, yn1_lt, xgd_t, xlt_e, Option.bind_some, nI_add, pk_mul, pk_sub, pk_div, pk_rem, yI_and, yI_or, yI_xor, yI_nd, yI_nd2, yI_31, yI_shl, nI_leI, nI_ltI, nI_eq, nI_clamp, xinb_t, yP_z, yP_if, q1 z hz, yif_t hF, if_false]
    · rintro y _ (e | e) _
      · exact Or.inl e
      · subst e; exact Or.inr hF
  · have hs := yBI_lt h hz hF
    obtain ⟨d1, h'⟩ := yBI_add h hi hz hF hf
    refine ⟨xwi (xwi (xwi m 111 z (nI (ydt g (yan x) (yan (f i)) + 1))) 112 s (nI z)) 110 2 (nI (s + 1)), _, _, _, ?_, yBI_h h' ?_, ⟨?_, ?_, ?_⟩, ?_, by omega, yup_n (by omega)⟩
    · apply fX6_reach_110_i
      simp (disch := omega) only [yl3, yl4, yl5, yl6, yl7, yl8, yl9, yl10, yl13, yl16, yl20, yl21, yl22, yl23, yl24, yl32, yl40, yl48, yl57, yl59, yl63, yl64, yl97, yl99, yl122, yl255, yl256, yl400, yl1000, yl2000, yl2048, yc0_eq, yc0_eq2, yc0_le, yc0_ge, yc0_lt, yc0_gt, yc0_ad, yc0_da, yc0_sb, yc0_ml, yc0_lm, yc1_eq, yc1_eq2, yc1_le, yc1_ge, yc1_lt, yc1_gt, yc1_ad, yc1_da, yc1_sb, yc1_ml, yc1_lm, yc2_eq, yc2_eq2, yc2_le, yc2_ge, yc2_lt, yc2_gt, yc2_ad, yc2_da, yc2_sb, yc2_ml, yc2_lm, yc31_ge, ymodn, yI_1sl, yc2_dv, yn1_eq, yn1_lt, xgd_t, xlt_e, Option.bind_some, nI_add, pk_mul, pk_sub, pk_div, pk_rem, yI_and, yI_or, yI_xor, yI_nd, yI_nd2, yI_31, yI_shl, nI_leI, nI_ltI, nI_eq, nI_clamp, xinb_t, yP_z, yP_if, q1 z hz, q3, yif_f hF, if_true, if_neg, xwi_e, xwi_k]
    · rintro y _ (e | e) _
      · exact Or.inl e
      · subst e; exact Or.inr (Or.inr rfl)
    · intro y hy
      rw [xwi_k (by decide), xwi_k (by decide)]
      by_cases e : y = z
      · subst e
        rw [xwi_e, yif_t (Or.inr rfl), d1]
      · rw [xwi_i e, q1 y hy]
        exact yif_c ⟨Or.inl, fun h => h.elim id fun h => absurd h e⟩
    · intro j hj
      rw [xwi_k (by decide)]
      by_cases e : j = s
      · subst e
        rw [xwi_e, yup_e]
      · rw [xwi_i e, xwi_k (by decide), yup_n e]
        exact q2 j (by omega)
    · rw [xwi_e]
    · exact yfr_w (yfr_w (yfr_w yfr_r (by decide)) (by decide)) (by decide)
theorem s_rf_l_110 {R : Nat → Nat} {x i : Nat} {a b E T u : Nat} (ha : a < 8) (hb : b < 8) (hu : u = 8 * a + b) (hE : ∀ c, yb E c ↔ yb (R a) c ∧ ¬ yb (R b) c ∧ c ≠ b) (hT : ∀ c, yb T c ↔ yb (R b) c ∧ ¬ yb (R a) c ∧ c ≠ a) (hE8 : E < 256) (hT8 : T < 256) (hsy : ysy (yad R)) (hab : yb (R a) b) : ∀ (d k : Nat), k + d = 8 → ∀ (F : Nat → Prop) (f : Nat → Nat) (s : Nat) (m : xmm), yBI (yad R) x i (fun z => (z / 8 = a ∧ z % 8 < k) ∨ (z % 8 = b ∧ z / 8 < k)) F f s → yBM 111 112 110 2 (yad R) x F f s m → i < s → f i = u → ∃ m' F' f' s', bX6_reachForced_110_51 (nI u) (nI a) (nI b) (nI E) (nI T) (nI k) m = some m' ∧ yBI (yad R) x i (fun z => (z / 8 = a ∧ z % 8 < 8) ∨ (z % 8 = b ∧ z / 8 < 8)) F' f' s' ∧ yBM 111 112 110 2 (yad R) x F' f' s' m' ∧ yfr [110, 111, 112] m m' ∧ i < s' ∧ f' i = u := by
  intro d
  induction d with
  | zero =>
    intro k hk F f s m h hm hi hfi
    have e : k = 8 := by omega
    subst e
    refine ⟨m, F, f, s, ?_, h, hm, yfr_r, hi, hfi⟩
    apply bX6_reachForced_110_51_i
    rfl
  | succ d ih =>
    intro k hk F f s m h hm hi hfi
    have hua : yan u = (a, b) := by rw [hu]; exact yan_of hb
    -- the first half
    have half : ∃ m1 F1 f1 s1, (bX6_reachForced_110_86 (nI u) (nI a) (nI b) (nI E) (nI T) (nI k) m1 = none ∨ True) ∧ yBI (yad R) x i (fun z => ((z / 8 = a ∧ z % 8 < k) ∨ (z % 8 = b ∧ z / 8 < k)) ∨ z = 8 * a + k) F1 f1 s1 ∧ yBM 111 112 110 2 (yad R) x F1 f1 s1 m1 ∧ yfr [110, 111, 112] m m1 ∧ i < s1 ∧ f1 i = u ∧ ∀ {z : xmm}, bX6_reachForced_110_86 (nI u) (nI a) (nI b) (nI E) (nI T) (nI k) m1 = some z → bX6_reachForced_110_51 (nI u) (nI a) (nI b) (nI E) (nI T) (nI k) m = some z := by
      by_cases hc : yb E k
      · have hf : yfc (yad R) (yan (f i)) (yan (8 * a + k)) := by
          have := (hE k).mp hc
          rw [hfi, hua, yan_of (by omega)]
          exact ⟨hab, this.1, Or.inl ⟨rfl, this.2.2.symm, this.2.1⟩⟩
        obtain ⟨m1, F1, f1, s1, r1, r2, r3, r4, r5, r6⟩ := s_reach_110 h hm hi (z := 8 * a + k) (by omega) hf
        refine ⟨m1, F1, f1, s1, Or.inr trivial, r2, r3, r4, r5, r6.trans hfi, fun {z} hz => ?_⟩
        apply bX6_reachForced_110_51_i
        have q := hm.1 u (by omega)
        have Fu : F u := by rw [← hfi]; exact (h.2.1 i hi).2.1
        rw [yif_t Fu] at q
        rw [hfi] at r1
        simp (disch := omega) only [yl3, yl4, yl5, yl6, yl7, yl8, yl9, yl10, yl13, yl16, yl20, yl21, yl22, yl23, yl24, yl32, yl40, yl48, yl57, yl59, yl63, yl64, yl97, yl99, yl122, yl255, yl256, yl400, yl1000, yl2000, yl2048, yc0_eq, yc0_eq2, yc0_le, yc0_ge, yc0_lt, yc0_gt, yc0_ad, yc0_da, yc0_sb, yc0_ml, yc0_lm, yc1_eq, yc1_eq2, yc1_le, yc1_ge, yc1_lt, yc1_gt, yc1_ad, yc1_da, yc1_sb, yc1_ml, yc1_lm, yc2_eq, yc2_eq2, yc2_le, yc2_ge, yc2_lt, yc2_gt, yc2_ad, yc2_da, yc2_sb, yc2_ml, yc2_lm, yc31_ge, ymodn, yI_1sl, yc2_dv, yn1_eq, yn1_lt, xgd_t, xlt_e, Option.bind_some, nI_add, pk_mul, pk_sub, pk_div, pk_rem, yI_and, yI_or, yI_xor, yI_nd, yI_nd2, yI_31, yI_shl, nI_leI, nI_ltI, nI_eq, nI_clamp, xinb_t, yP_z, yP_if, if_neg, s_contains, s_arrowFrom, yif_t hc, q, r1]
        exact hz
      · refine ⟨m, F, f, s, Or.inr trivial, yBI_h h ?_, hm, yfr_r, hi, hfi, fun {z} hz => ?_⟩
        · rintro z hz (e | e) hf
          · exact Or.inl e
          · subst e
            rw [hfi, hua, yan_of (by omega)] at hf
            refine absurd ((hE k).mpr ?_) hc
            obtain ⟨f1, f2, ⟨g1, g2, g3⟩ | ⟨g1, g2, g3⟩⟩ := hf
            · exact ⟨f2, g3, g2.symm⟩
            · exact absurd rfl g2
        · apply bX6_reachForced_110_51_i
          simp (disch := omega) only [yl3, yl4, yl5, yl6, yl7, yl8, yl9, yl10, yl13, yl16, yl20, yl21, yl22, yl23, yl24, yl32, yl40, yl48, yl57, yl59, yl63, yl64, yl97, yl99, yl122, yl255, yl256, yl400, yl1000, yl2000, yl2048, yc0_eq, yc0_eq2, yc0_le, yc0_ge, yc0_lt, yc0_gt, yc0_ad, yc0_da, yc0_sb, yc0_ml, yc0_lm, yc1_eq, yc1_eq2, yc1_le, yc1_ge, yc1_lt, yc1_gt, yc1_ad, yc1_da, yc1_sb, yc1_ml, yc1_lm, yc2_eq, yc2_eq2, yc2_le, yc2_ge, yc2_lt, yc2_gt, yc2_ad, yc2_da, yc2_sb, yc2_ml, yc2_lm, yc31_ge, ymodn, yI_1sl, yc2_dv, yn1_eq, yn1_lt, xgd_t, xlt_e, Option.bind_some, nI_add, pk_mul, pk_sub, pk_div, pk_rem, yI_and, yI_or, yI_xor, yI_nd, yI_nd2, yI_31, yI_shl, nI_leI, nI_ltI, nI_eq, nI_clamp, xinb_t, yP_z, yP_if, if_neg, s_contains, yif_f hc]
          exact hz
    obtain ⟨m1, F1, f1, s1, _, b1, b2, b3, b4, b5, b6⟩ := half
    have half2 : ∃ m2 F2 f2 s2, yBI (yad R) x i (fun z => (z / 8 = a ∧ z % 8 < k + 1) ∨ (z % 8 = b ∧ z / 8 < k + 1)) F2 f2 s2 ∧ yBM 111 112 110 2 (yad R) x F2 f2 s2 m2 ∧ yfr [110, 111, 112] m1 m2 ∧ i < s2 ∧ f2 i = u ∧ ∀ {z : xmm}, bX6_reachForced_110_51 (nI u) (nI a) (nI b) (nI E) (nI T) (nI (k + 1)) m2 = some z → bX6_reachForced_110_86 (nI u) (nI a) (nI b) (nI E) (nI T) (nI k) m1 = some z := by
      have num : ∀ z, z < 64 → ((z / 8 = a ∧ z % 8 < k + 1) ∨ (z % 8 = b ∧ z / 8 < k + 1)) → ((((z / 8 = a ∧ z % 8 < k) ∨ (z % 8 = b ∧ z / 8 < k)) ∨ z = 8 * a + k) ∨ z = 8 * k + b) := by
        intro z hz h
        omega
      by_cases hc : yb T k
      · have hf : yfc (yad R) (yan (f1 i)) (yan (8 * k + b)) := by
          have := (hT k).mp hc
          rw [b5, hua, yan_of hb]
          exact ⟨hab, hsy.1 _ _ this.1, Or.inr ⟨rfl, this.2.2.symm, this.2.1⟩⟩
        obtain ⟨m2, F2, f2, s2, r1, r2, r3, r4, r5, r6⟩ := s_reach_110 b1 b2 b4 (z := 8 * k + b) (by omega) hf
        refine ⟨m2, F2, f2, s2, yBI_h r2 ?_, r3, r4, r5, r6.trans b5, fun {z} hz => ?_⟩
        · intro z hz hh _
          exact Or.inl (num z hz hh)
        · apply bX6_reachForced_110_86_i
          have q := b2.1 u (by omega)
          have Fu : F1 u := by rw [← b5]; exact (b1.2.1 i b4).2.1
          rw [yif_t Fu] at q
          rw [b5] at r1
          simp (disch := omega) only [yl3, yl4, yl5, yl6, yl7, yl8, yl9, yl10, yl13, yl16, yl20, yl21, yl22, yl23, yl24, yl32, yl40, yl48, yl57, yl59, yl63, yl64, yl97, yl99, yl122, yl255, yl256, yl400, yl1000, yl2000, yl2048, yc0_eq, yc0_eq2, yc0_le, yc0_ge, yc0_lt, yc0_gt, yc0_ad, yc0_da, yc0_sb, yc0_ml, yc0_lm, yc1_eq, yc1_eq2, yc1_le, yc1_ge, yc1_lt, yc1_gt, yc1_ad, yc1_da, yc1_sb, yc1_ml, yc1_lm, yc2_eq, yc2_eq2, yc2_le, yc2_ge, yc2_lt, yc2_gt, yc2_ad, yc2_da, yc2_sb, yc2_ml, yc2_lm, yc31_ge, ymodn, yI_1sl, yc2_dv, yn1_eq, yn1_lt, xgd_t, xlt_e, Option.bind_some, nI_add, pk_mul, pk_sub, pk_div, pk_rem, yI_and, yI_or, yI_xor, yI_nd, yI_nd2, yI_31, yI_shl, nI_leI, nI_ltI, nI_eq, nI_clamp, xinb_t, yP_z, yP_if, if_neg, s_contains, s_arrowFrom, yif_t hc, q, r1]
          exact hz
      · refine ⟨m1, F1, f1, s1, yBI_h b1 ?_, b2, yfr_r, b4, b5, fun {z} hz => ?_⟩
        · intro z hz hh hf
          rcases num z hz hh with e | e
          · exact Or.inl e
          · subst e
            rw [b5, hua, yan_of hb] at hf
            refine absurd ((hT k).mpr ?_) hc
            obtain ⟨f1, f2, ⟨g1, g2, g3⟩ | ⟨g1, g2, g3⟩⟩ := hf
            · exact absurd rfl g2
            · exact ⟨hsy.1 _ _ f2, g3, g2.symm⟩
        · apply bX6_reachForced_110_86_i
          simp (disch := omega) only [yl3, yl4, yl5, yl6, yl7, yl8, yl9, yl10, yl13, yl16, yl20, yl21, yl22, yl23, yl24, yl32, yl40, yl48, yl57, yl59, yl63, yl64, yl97, yl99, yl122, yl255, yl256, yl400, yl1000, yl2000, yl2048, yc0_eq, yc0_eq2, yc0_le, yc0_ge, yc0_lt, yc0_gt, yc0_ad, yc0_da, yc0_sb, yc0_ml, yc0_lm, yc1_eq, yc1_eq2, yc1_le, yc1_ge, yc1_lt, yc1_gt, yc1_ad, yc1_da, yc1_sb, yc1_ml, yc1_lm, yc2_eq, yc2_eq2, yc2_le, yc2_ge, yc2_lt, yc2_gt, yc2_ad, yc2_da, yc2_sb, yc2_ml, yc2_lm, yc31_ge, ymodn, yI_1sl, yc2_dv, yn1_eq, yn1_lt, xgd_t, xlt_e, Option.bind_some, nI_add, pk_mul, pk_sub, pk_div, pk_rem, yI_and, yI_or, yI_xor, yI_nd, yI_nd2, yI_31, yI_shl, nI_leI, nI_ltI, nI_eq, nI_clamp, xinb_t, yP_z, yP_if, if_neg, s_contains, yif_f hc]
          exact hz
    obtain ⟨m2, F2, f2, s2, c1, c2, c3, c4, c5, c6⟩ := half2
    obtain ⟨m', F', f', s', e1, e2, e3, e4, e5, e6⟩ := ih (k + 1) (by omega) F2 f2 s2 m2 c1 c2 c4 c5
    exact ⟨m', F', f', s', b6 (c6 e1), e2, e3, yfr_t b3 (yfr_t c3 e4), e5, e6⟩
theorem s_rf_110 {R : Nat → Nat} {x i v : Nat} (hv : Nat.beq v 1999 = false) (hk : xkd v = (1, 8)) (hR8 : ∀ p, p < 8 → R p < 256) (hsy : ysy (yad R)) (h8 : yg8 (yad R)) (hx : yad R (yan x).1 (yan x).2) {F : Nat → Prop} {f : Nat → Nat} {s : Nat} {m : xmm} (hR : yrw v R m) (h : yBI (yad R) x i (fun _ => False) F f s) (hm : yBM 111 112 110 2 (yad R) x F f s m) (hi : i < s) : ∃ m' F' f' s', fX6_reachForced_110 v (nI (f i)) m = some m' ∧ yBI (yad R) x (i + 1) (fun _ => False) F' f' s' ∧ yBM 111 112 110 2 (yad R) x F' f' s' m' ∧ yfr [110, 111, 112] m m' := by
  have hu : f i < 64 := (h.2.1 i hi).1
  have hua : yad R (f i / 8) (f i % 8) := ycl_e (h.2.2.1 _ (h.2.1 i hi).2.1).2.1 hx
  have ha : f i / 8 < 8 := by omega
  have hb : f i % 8 < 8 := by omega
  have ra := hR8 _ ha
  have rb := hR8 _ hb
  have sp : ∀ A B c d : Nat, yb (ynd (ynd A B) (2 ^ c)) d ↔ yb A d ∧ ¬ yb B d ∧ d ≠ c := by
    intro A B c d
    rw [yb_nd, yb_nd, yb_pw, and_assoc]
  obtain ⟨m', F', f', s', e1, e2, e3, e4, e5, e6⟩ := s_rf_l_110 (x := x) (i := i) (a := f i / 8) (b := f i % 8) (u := f i) (E := ynd (ynd (R (f i / 8)) (R (f i % 8))) (2 ^ (f i % 8))) (T := ynd (ynd (R (f i % 8)) (R (f i / 8))) (2 ^ (f i / 8))) ha hb (by omega) (fun c => sp _ _ _ c) (fun c => sp _ _ _ c) (ynd_le _ _ 8 (ynd_le _ _ 8 ra)) (ynd_le _ _ 8 (ynd_le _ _ 8 rb)) hsy hua 8 0 (by omega) F f s m (yBI_h h fun z _ hh _ => by omega) hm hi rfl
  refine ⟨m', F', f', s', ?_, yBI_n h8 e2 e5 hx ?_, e3, e4⟩
  · apply fX6_reachForced_110_i
    simp (disch := omega) only [yl3, yl4, yl5, yl6, yl7, yl8, yl9, yl10, yl13, yl16, yl20, yl21, yl22, yl23, yl24, yl32, yl40, yl48, yl57, yl59, yl63, yl64, yl97, yl99, yl122, yl255, yl256, yl400, yl1000, yl2000, yl2048, yc0_eq, yc0_eq2, yc0_le, yc0_ge, yc0_lt, yc0_gt, yc0_ad, yc0_da, yc0_sb, yc0_ml, yc0_lm, yc1_eq, yc1_eq2, yc1_le, yc1_ge, yc1_lt, yc1_gt, yc1_ad, yc1_da, yc1_sb, yc1_ml, yc1_lm, yc2_eq, yc2_eq2, yc2_le, yc2_ge, yc2_lt, yc2_gt, yc2_ad, yc2_da, yc2_sb, yc2_ml, yc2_lm, yc31_ge, ymodn, yI_1sl, yc2_dv, yn1_eq, yn1_lt, xgd_t, xlt_e, Option.bind_some, nI_add, pk_mul, pk_sub, pk_div, pk_rem, yI_and, yI_or, yI_xor, yI_nd, yI_nd2, yI_31, yI_shl, nI_leI, nI_ltI, nI_eq, nI_clamp, xinb_t, yP_z, yP_if, hv, Bool.not_false, xia_t hk, hR _ ha, hR _ hb]
    exact e1
  · intro z hz hf
    rw [e6] at hf
    obtain ⟨_, _, ⟨g1, _, _⟩ | ⟨g1, _, _⟩⟩ := hf
    · exact Or.inl ⟨g1.symm, by omega⟩
    · exact Or.inr ⟨g1.symm, by omega⟩
theorem s_spread_l_110 {R : Nat → Nat} {x v : Nat} (hv : Nat.beq v 1999 = false) (hk : xkd v = (1, 8)) (hn : v ∉ [110, 111, 112]) (hR8 : ∀ p, p < 8 → R p < 256) (hsy : ysy (yad R)) (h8 : yg8 (yad R)) (hx : yad R (yan x).1 (yan x).2) : ∀ (d i : Nat), i + d = 64 → ∀ (F : Nat → Prop) (f : Nat → Nat) (s : Nat) (m : xmm), yrw v R m → yBI (yad R) x i (fun _ => False) F f s → yBM 111 112 110 2 (yad R) x F f s m → ∃ m', bX6_spread_110_34 v (nI i) m = some m' ∧ ySp 111 112 110 2 (yad R) x m' ∧ yfr [110, 111, 112] m m' := by
  intro d
  induction d with
  | zero =>
    intro i hi F f s m hR h hm
    have hs : s ≤ 64 := ypig 64 s f (fun j hj => (h.2.1 j hj).1) h.2.2.2.1
    refine ⟨m, ?_, ySp_of h8 h (by omega) hx hm, yfr_r⟩
    apply bX6_spread_110_34_i
    simp (disch := omega) only [yl3, yl4, yl5, yl6, yl7, yl8, yl9, yl10, yl13, yl16, yl20, yl21, yl22, yl23, yl24, yl32, yl40, yl48, yl57, yl59, yl63, yl64, yl97, yl99, yl122, yl255, yl256, yl400, yl1000, yl2000, yl2048, yc0_eq, yc0_eq2, yc0_le, yc0_ge, yc0_lt, yc0_gt, yc0_ad, yc0_da, yc0_sb, yc0_ml, yc0_lm, yc1_eq, yc1_eq2, yc1_le, yc1_ge, yc1_lt, yc1_gt, yc1_ad, yc1_da, yc1_sb, yc1_ml, yc1_lm, yc2_eq, yc2_eq2, yc2_le, yc2_ge, yc2_lt, yc2_gt, yc2_ad, yc2_da, yc2_sb, yc2_ml, yc2_lm, yc31_ge, ymodn, yI_1sl, yc2_dv, yn1_eq, yn1_lt, xgd_t, xlt_e, Option.bind_some, nI_add, pk_mul, pk_sub, pk_div, pk_rem, yI_and, yI_or, yI_xor, yI_nd, yI_nd2, yI_31, yI_shl, nI_leI, nI_ltI, nI_eq, nI_clamp, xinb_t, yP_z, yP_if, hm.2.2, if_pos]
  | succ d ih =>
    intro i hi F f s m hR h hm
    have hs : s ≤ 64 := ypig 64 s f (fun j hj => (h.2.1 j hj).1) h.2.2.2.1
    by_cases his : i < s
    · obtain ⟨m1, F1, f1, s1, r1, r2, r3, r4⟩ := s_rf_110 hv hk hR8 hsy h8 hx hR h hm his
      obtain ⟨m', e1, e2, e3⟩ := ih (i + 1) (by omega) F1 f1 s1 m1 (fun p hp => by rw [yfr_1 r4 v p hn]; exact hR p hp) r2 r3
      refine ⟨m', ?_, e2, yfr_t r4 e3⟩
      apply bX6_spread_110_34_i
      simp (disch := omega) only [yl3, yl4, yl5, yl6, yl7, yl8, yl9, yl10, yl13, yl16, yl20, yl21, yl22, yl23, yl24, yl32, yl40, yl48, yl57, yl59, yl63, yl64, yl97, yl99, yl122, yl255, yl256, yl400, yl1000, yl2000, yl2048, yc0_eq, yc0_eq2, yc0_le, yc0_ge, yc0_lt, yc0_gt, yc0_ad, yc0_da, yc0_sb, yc0_ml, yc0_lm, yc1_eq, yc1_eq2, yc1_le, yc1_ge, yc1_lt, yc1_gt, yc1_ad, yc1_da, yc1_sb, yc1_ml, yc1_lm, yc2_eq, yc2_eq2, yc2_le, yc2_ge, yc2_lt, yc2_gt, yc2_ad, yc2_da, yc2_sb, yc2_ml, yc2_lm, yc31_ge, ymodn, yI_1sl, yc2_dv, yn1_eq, yn1_lt, xgd_t, xlt_e, Option.bind_some, nI_add, pk_mul, pk_sub, pk_div, pk_rem, yI_and, yI_or, yI_xor, yI_nd, yI_nd2, yI_31, yI_shl, nI_leI, nI_ltI, nI_eq, nI_clamp, xinb_t, yP_z, yP_if, hm.2.2, if_neg, hv, Bool.not_false, hm.2.1 i his, r1, e1]
    · refine ⟨m, ?_, ySp_of h8 h (by omega) hx hm, yfr_r⟩
      apply bX6_spread_110_34_i
      simp (disch := omega) only [yl3, yl4, yl5, yl6, yl7, yl8, yl9, yl10, yl13, yl16, yl20, yl21, yl22, yl23, yl24, yl32, yl40, yl48, yl57, yl59, yl63, yl64, yl97, yl99, yl122, yl255, yl256, yl400, yl1000, yl2000, yl2048, yc0_eq, yc0_eq2, yc0_le, yc0_ge, yc0_lt, yc0_gt, yc0_ad, yc0_da, yc0_sb, yc0_ml, yc0_lm, yc1_eq, yc1_eq2, yc1_le, yc1_ge, yc1_lt, yc1_gt, yc1_ad, yc1_da, yc1_sb, yc1_ml, yc1_lm, yc2_eq, yc2_eq2, yc2_le, yc2_ge, yc2_lt, yc2_gt, yc2_ad, yc2_da, yc2_sb, yc2_ml, yc2_lm, yc31_ge, ymodn, yI_1sl, yc2_dv, yn1_eq, yn1_lt, xgd_t, xlt_e, Option.bind_some, nI_add, pk_mul, pk_sub, pk_div, pk_rem, yI_and, yI_or, yI_xor, yI_nd, yI_nd2, yI_31, yI_shl, nI_leI, nI_ltI, nI_eq, nI_clamp, xinb_t, yP_z, yP_if, hm.2.2, if_pos]
theorem s_spread_c_110 {v x : Nat} : ∀ (d k : Nat) (m : xmm), k + d = 64 → (∀ z, z < k → m.1 111 z = -1) → ∃ m0, (∀ {z : xmm}, bX6_spread_110_2 v (nI x) (nI 64) m0 = some z → bX6_spread_110_2 v (nI x) (nI k) m = some z) ∧ (∀ z, z < 64 → m0.1 111 z = -1) ∧ yfr [110, 111, 112] m m0 := by
  intro d
  induction d with
  | zero =>
    intro k m hk h
    have e : k = 64 := by omega
    subst e
    exact ⟨m, id, h, yfr_r⟩
  | succ d ih =>
    intro k m hk h
    obtain ⟨m0, e1, e2, e3⟩ := ih (k + 1) (xwi m 111 k (-1)) (by omega) (by
      intro z hz
      by_cases e : z = k
      · subst e; exact xwi_e _ _ _ _
      · rw [xwi_i e]; exact h z (by omega))
    refine ⟨m0, fun {z} hz => ?_, e2, yfr_t (yfr_w yfr_r (by decide)) e3⟩
    apply bX6_spread_110_2_i
    simp (disch := omega) only [yl3, yl4, yl5, yl6, yl7, yl8, yl9, yl10, yl13, yl16, yl20, yl21, yl22, yl23, yl24, yl32, yl40, yl48, yl57, yl59, yl63, yl64, yl97, yl99, yl122, yl255, yl256, yl400, yl1000, yl2000, yl2048, yc0_eq, yc0_eq2, yc0_le, yc0_ge, yc0_lt, yc0_gt, yc0_ad, yc0_da, yc0_sb, yc0_ml, yc0_lm, yc1_eq, yc1_eq2, yc1_le, yc1_ge, yc1_lt, yc1_gt, yc1_ad, yc1_da, yc1_sb, yc1_ml, yc1_lm, yc2_eq, yc2_eq2, yc2_le, yc2_ge, yc2_lt, yc2_gt, yc2_ad, yc2_da, yc2_sb, yc2_ml, yc2_lm, yc31_ge, ymodn, yI_1sl, yc2_dv, yn1_eq, yn1_lt, xgd_t, xlt_e, Option.bind_some, nI_add, pk_mul, pk_sub, pk_div, pk_rem, yI_and, yI_or, yI_xor, yI_nd, yI_nd2, yI_31, yI_shl, nI_leI, nI_ltI, nI_eq, nI_clamp, xinb_t, yP_z, yP_if, if_neg]
    exact e1 hz
theorem s_spread_110 {R : Nat → Nat} {x v : Nat} (hv : Nat.beq v 1999 = false) (hk : xkd v = (1, 8)) (hn : v ∉ [110, 111, 112]) (hR8 : ∀ p, p < 8 → R p < 256) (hsy : ysy (yad R)) (h8 : yg8 (yad R)) (h64 : x < 64) (hx : yad R (yan x).1 (yan x).2) {m : xmm} (hR : yrw v R m) : ∃ m', fX6_spread_110 v (nI x) m = some m' ∧ ySp 111 112 110 2 (yad R) x m' ∧ yfr [110, 111, 112] m m' := by
  obtain ⟨m0, a1, a2, a3⟩ := s_spread_c_110 (v := v) (x := x) 64 0 m rfl (fun z hz => absurd hz (Nat.not_lt_zero z))
  have hm : yBM 111 112 110 2 (yad R) x (fun z => z = x) (fun _ => x) 1 (xwi (xwi (xwi (xwi m0 110 2 0) 111 x 0) 112 0 (nI x)) 110 2 (nI 1)) := by
    refine ⟨fun z hz => ?_, fun j hj => ?_, ?_⟩
    · rw [xwi_k (by decide), xwi_k (by decide)]
      by_cases e : z = x
      · subst e
        rw [xwi_e, yif_t rfl, ydt_self]; rfl
      · rw [xwi_i e, xwi_k (by decide), yif_f e]
        exact a2 z hz
    · have e : j = 0 := by omega
      subst e
      rw [xwi_k (by decide), xwi_e]
    · rw [xwi_e]
  have f1 : yfr [110, 111, 112] m (xwi (xwi (xwi (xwi m0 110 2 0) 111 x 0) 112 0 (nI x)) 110 2 (nI 1)) := yfr_w (yfr_w (yfr_w (yfr_w a3 (by decide)) (by decide)) (by decide)) (by decide)
  obtain ⟨m', e1, e2, e3⟩ := s_spread_l_110 hv hk hn hR8 hsy h8 hx 64 0 rfl _ _ _ _ (fun p hp => by rw [yfr_1 f1 v p hn]; exact hR p hp) (yBI_0 (yad R) h64) hm
  refine ⟨m', ?_, e2, yfr_t f1 e3⟩
  apply fX6_spread_110_i
  apply a1
  apply bX6_spread_110_2_i
  rw [if_pos (by decide)]
  have hr : fX6_reach_110 (nI x) 0 (xwi m0 110 2 0) = some (xwi (xwi (xwi (xwi m0 110 2 0) 111 x 0) 112 0 (nI x)) 110 2 (nI 1)) := by
    apply fX6_reach_110_i
    have hz : (xwi m0 110 2 0).1 111 x = -1 := by rw [xwi_k (by decide)]; exact a2 x h64
    have hc : (0 : Int32).toNatClampNeg = 0 := rfl
    have hb : xinb 64 (0 : Int32) = true := rfl
    have ha : (0 : Int32) + 1 = nI 1 := rfl
    have hd : ¬ (64 : Int32) ≤ 0 := by decide
    simp (disch := omega) only [xgd_t, xlt_e, xinb_t, nI_clamp, hz, hc, hb, ha, if_true, xwi_e, xwi_k, if_neg hd]
  rw [xlt_e, hr, Option.bind_some]
  exact e1
theorem s_reach_117 {g : yG} {x i : Nat} {H F : Nat → Prop} {f : Nat → Nat} {s : Nat} {m : xmm} (h : yBI g x i H F f s) (hm : yBM 118 119 117 2 g x F f s m) (hi : i < s) {z : Nat} (hz : z < 64) (hf : yfc g (yan (f i)) (yan z)) : ∃ m' F' f' s', fX6_reach_117 (nI z) (nI (ydt g (yan x) (yan (f i)) + 1)) m = some m' ∧ yBI g x i (fun y => H y ∨ y = z) F' f' s' ∧ yBM 118 119 117 2 g x F' f' s' m' ∧ yfr [117, 118, 119] m m' ∧ i < s' ∧ f' i = f i := by
  obtain ⟨q1, q2, q3⟩ := hm
  by_cases hF : F z
  · refine ⟨m, F, f, s, ?_, yBI_h h ?_, ⟨q1, q2, q3⟩, yfr_r, hi, rfl⟩
    · apply fX6_reach_117_i
      have hd : ydt g (yan x) (yan z) < 2 ^ 31 := by
        obtain ⟨_, p1, p2, p3, _⟩ := h
        obtain ⟨j, j1, j2⟩ := (p2 z hF).2.2
        have e1 := (p1 j j1).2.2
        have e2 := ypig 64 s f (fun j hj => (p1 j hj).1) p3
        rw [j2] at e1
        omega
      simp (disch := omega) only [yl3, yl4, yl5, yl6, yl7, yl8, yl9, yl10, yl13, yl16, yl20, yl21, yl22, yl23, yl24, yl32, yl40, yl48, yl57, yl59, yl63, yl64, yl97, yl99, yl122, yl255, yl256, yl400, yl1000, yl2000, yl2048, yc0_eq, yc0_eq2, yc0_le, yc0_ge, yc0_lt, yc0_gt, yc0_ad, yc0_da, yc0_sb, yc0_ml, yc0_lm, yc1_eq, yc1_eq2, yc1_le, yc1_ge, yc1_lt, yc1_gt, yc1_ad, yc1_da, yc1_sb, yc1_ml, yc1_lm, yc2_eq, yc2_eq2, yc2_le, yc2_ge, yc2_lt, yc2_gt, yc2_ad, yc2_da, yc2_sb, yc2_ml, yc2_lm, yc31_ge, ymodn, yI_1sl, yc2_dv, yn1_eq, yn1_lt, xgd_t, xlt_e, Option.bind_some, nI_add, pk_mul, pk_sub, pk_div, pk_rem, yI_and, yI_or, yI_xor, yI_nd, yI_nd2, yI_31, yI_shl, nI_leI, nI_ltI, nI_eq, nI_clamp, xinb_t, yP_z, yP_if, q1 z hz, yif_t hF, if_false]
    · rintro y _ (e | e) _
      · exact Or.inl e
      · subst e; exact Or.inr hF
  · have hs := yBI_lt h hz hF
    obtain ⟨d1, h'⟩ := yBI_add h hi hz hF hf
    refine ⟨xwi (xwi (xwi m 118 z (nI (ydt g (yan x) (yan (f i)) + 1))) 119 s (nI z)) 117 2 (nI (s + 1)), _, _, _, ?_, yBI_h h' ?_, ⟨?_, ?_, ?_⟩, ?_, by omega, yup_n (by omega)⟩
    · apply fX6_reach_117_i
      simp (disch := omega) only [yl3, yl4, yl5, yl6, yl7, yl8, yl9, yl10, yl13, yl16, yl20, yl21, yl22, yl23, yl24, yl32, yl40, yl48, yl57, yl59, yl63, yl64, yl97, yl99, yl122, yl255, yl256, yl400, yl1000, yl2000, yl2048, yc0_eq, yc0_eq2, yc0_le, yc0_ge, yc0_lt, yc0_gt, yc0_ad, yc0_da, yc0_sb, yc0_ml, yc0_lm, yc1_eq, yc1_eq2, yc1_le, yc1_ge, yc1_lt, yc1_gt, yc1_ad, yc1_da, yc1_sb, yc1_ml, yc1_lm, yc2_eq, yc2_eq2, yc2_le, yc2_ge, yc2_lt, yc2_gt, yc2_ad, yc2_da, yc2_sb, yc2_ml, yc2_lm, yc31_ge, ymodn, yI_1sl, yc2_dv, yn1_eq, yn1_lt, xgd_t, xlt_e, Option.bind_some, nI_add, pk_mul, pk_sub, pk_div, pk_rem, yI_and, yI_or, yI_xor, yI_nd, yI_nd2, yI_31, yI_shl, nI_leI, nI_ltI, nI_eq, nI_clamp, xinb_t, yP_z, yP_if, q1 z hz, q3, yif_f hF, if_true, if_neg, xwi_e, xwi_k]
    · rintro y _ (e | e) _
      · exact Or.inl e
      · subst e; exact Or.inr (Or.inr rfl)
    · intro y hy
      rw [xwi_k (by decide), xwi_k (by decide)]
      by_cases e : y = z
      · subst e
        rw [xwi_e, yif_t (Or.inr rfl), d1]
      · rw [xwi_i e, q1 y hy]
        exact yif_c ⟨Or.inl, fun h => h.elim id fun h => absurd h e⟩
    · intro j hj
      rw [xwi_k (by decide)]
      by_cases e : j = s
      · subst e
        rw [xwi_e, yup_e]
      · rw [xwi_i e, xwi_k (by decide), yup_n e]
        exact q2 j (by omega)
    · rw [xwi_e]
    · exact yfr_w (yfr_w (yfr_w yfr_r (by decide)) (by decide)) (by decide)
theorem s_rf_l_117 {R : Nat → Nat} {x i : Nat} {a b E T u : Nat} (ha : a < 8) (hb : b < 8) (hu : u = 8 * a + b) (hE : ∀ c, yb E c ↔ yb (R a) c ∧ ¬ yb (R b) c ∧ c ≠ b) (hT : ∀ c, yb T c ↔ yb (R b) c ∧ ¬ yb (R a) c ∧ c ≠ a) (hE8 : E < 256) (hT8 : T < 256) (hsy : ysy (yad R)) (hab : yb (R a) b) : ∀ (d k : Nat), k + d = 8 → ∀ (F : Nat → Prop) (f : Nat → Nat) (s : Nat) (m : xmm), yBI (yad R) x i (fun z => (z / 8 = a ∧ z % 8 < k) ∨ (z % 8 = b ∧ z / 8 < k)) F f s → yBM 118 119 117 2 (yad R) x F f s m → i < s → f i = u → ∃ m' F' f' s', bX6_reachForced_117_51 (nI u) (nI a) (nI b) (nI E) (nI T) (nI k) m = some m' ∧ yBI (yad R) x i (fun z => (z / 8 = a ∧ z % 8 < 8) ∨ (z % 8 = b ∧ z / 8 < 8)) F' f' s' ∧ yBM 118 119 117 2 (yad R) x F' f' s' m' ∧ yfr [117, 118, 119] m m' ∧ i < s' ∧ f' i = u := by
  intro d
  induction d with
  | zero =>
    intro k hk F f s m h hm hi hfi
    have e : k = 8 := by omega
    subst e
    refine ⟨m, F, f, s, ?_, h, hm, yfr_r, hi, hfi⟩
    apply bX6_reachForced_117_51_i
    rfl
  | succ d ih =>
    intro k hk F f s m h hm hi hfi
    have hua : yan u = (a, b) := by rw [hu]; exact yan_of hb
    -- the first half
    have half : ∃ m1 F1 f1 s1, (bX6_reachForced_117_86 (nI u) (nI a) (nI b) (nI E) (nI T) (nI k) m1 = none ∨ True) ∧ yBI (yad R) x i (fun z => ((z / 8 = a ∧ z % 8 < k) ∨ (z % 8 = b ∧ z / 8 < k)) ∨ z = 8 * a + k) F1 f1 s1 ∧ yBM 118 119 117 2 (yad R) x F1 f1 s1 m1 ∧ yfr [117, 118, 119] m m1 ∧ i < s1 ∧ f1 i = u ∧ ∀ {z : xmm}, bX6_reachForced_117_86 (nI u) (nI a) (nI b) (nI E) (nI T) (nI k) m1 = some z → bX6_reachForced_117_51 (nI u) (nI a) (nI b) (nI E) (nI T) (nI k) m = some z := by
      by_cases hc : yb E k
      · have hf : yfc (yad R) (yan (f i)) (yan (8 * a + k)) := by
          have := (hE k).mp hc
          rw [hfi, hua, yan_of (by omega)]
          exact ⟨hab, this.1, Or.inl ⟨rfl, this.2.2.symm, this.2.1⟩⟩
        obtain ⟨m1, F1, f1, s1, r1, r2, r3, r4, r5, r6⟩ := s_reach_117 h hm hi (z := 8 * a + k) (by omega) hf
        refine ⟨m1, F1, f1, s1, Or.inr trivial, r2, r3, r4, r5, r6.trans hfi, fun {z} hz => ?_⟩
        apply bX6_reachForced_117_51_i
        have q := hm.1 u (by omega)
        have Fu : F u := by rw [← hfi]; exact (h.2.1 i hi).2.1
        rw [yif_t Fu] at q
        rw [hfi] at r1
        simp (disch := omega) only [yl3, yl4, yl5, yl6, yl7, yl8, yl9, yl10, yl13, yl16, yl20, yl21, yl22, yl23, yl24, yl32, yl40, yl48, yl57, yl59, yl63, yl64, yl97, yl99, yl122, yl255, yl256, yl400, yl1000, yl2000, yl2048, yc0_eq, yc0_eq2, yc0_le, yc0_ge, yc0_lt, yc0_gt, yc0_ad, yc0_da, yc0_sb, yc0_ml, yc0_lm, yc1_eq, yc1_eq2, yc1_le, yc1_ge, yc1_lt, yc1_gt, yc1_ad, yc1_da, yc1_sb, yc1_ml, yc1_lm, yc2_eq, yc2_eq2, yc2_le, yc2_ge, yc2_lt, yc2_gt, yc2_ad, yc2_da, yc2_sb, yc2_ml, yc2_lm, yc31_ge, ymodn, yI_1sl, yc2_dv, yn1_eq, yn1_lt, xgd_t, xlt_e, Option.bind_some, nI_add, pk_mul, pk_sub, pk_div, pk_rem, yI_and, yI_or, yI_xor, yI_nd, yI_nd2, yI_31, yI_shl, nI_leI, nI_ltI, nI_eq, nI_clamp, xinb_t, yP_z, yP_if, if_neg, s_contains, s_arrowFrom, yif_t hc, q, r1]
        exact hz
      · refine ⟨m, F, f, s, Or.inr trivial, yBI_h h ?_, hm, yfr_r, hi, hfi, fun {z} hz => ?_⟩
        · rintro z hz (e | e) hf
          · exact Or.inl e
          · subst e
            rw [hfi, hua, yan_of (by omega)] at hf
            refine absurd ((hE k).mpr ?_) hc
            obtain ⟨f1, f2, ⟨g1, g2, g3⟩ | ⟨g1, g2, g3⟩⟩ := hf
            · exact ⟨f2, g3, g2.symm⟩
            · exact absurd rfl g2
        · apply bX6_reachForced_117_51_i
          simp (disch := omega) only [yl3, yl4, yl5, yl6, yl7, yl8, yl9, yl10, yl13, yl16, yl20, yl21, yl22, yl23, yl24, yl32, yl40, yl48, yl57, yl59, yl63, yl64, yl97, yl99, yl122, yl255, yl256, yl400, yl1000, yl2000, yl2048, yc0_eq, yc0_eq2, yc0_le, yc0_ge, yc0_lt, yc0_gt, yc0_ad, yc0_da, yc0_sb, yc0_ml, yc0_lm, yc1_eq, yc1_eq2, yc1_le, yc1_ge, yc1_lt, yc1_gt, yc1_ad, yc1_da, yc1_sb, yc1_ml, yc1_lm, yc2_eq, yc2_eq2, yc2_le, yc2_ge, yc2_lt, yc2_gt, yc2_ad, yc2_da, yc2_sb, yc2_ml, yc2_lm, yc31_ge, ymodn, yI_1sl, yc2_dv, yn1_eq, yn1_lt, xgd_t, xlt_e, Option.bind_some, nI_add, pk_mul, pk_sub, pk_div, pk_rem, yI_and, yI_or, yI_xor, yI_nd, yI_nd2, yI_31, yI_shl, nI_leI, nI_ltI, nI_eq, nI_clamp, xinb_t, yP_z, yP_if, if_neg, s_contains, yif_f hc]
          exact hz
    obtain ⟨m1, F1, f1, s1, _, b1, b2, b3, b4, b5, b6⟩ := half
    have half2 : ∃ m2 F2 f2 s2, yBI (yad R) x i (fun z => (z / 8 = a ∧ z % 8 < k + 1) ∨ (z % 8 = b ∧ z / 8 < k + 1)) F2 f2 s2 ∧ yBM 118 119 117 2 (yad R) x F2 f2 s2 m2 ∧ yfr [117, 118, 119] m1 m2 ∧ i < s2 ∧ f2 i = u ∧ ∀ {z : xmm}, bX6_reachForced_117_51 (nI u) (nI a) (nI b) (nI E) (nI T) (nI (k + 1)) m2 = some z → bX6_reachForced_117_86 (nI u) (nI a) (nI b) (nI E) (nI T) (nI k) m1 = some z := by
      have num : ∀ z, z < 64 → ((z / 8 = a ∧ z % 8 < k + 1) ∨ (z % 8 = b ∧ z / 8 < k + 1)) → ((((z / 8 = a ∧ z % 8 < k) ∨ (z % 8 = b ∧ z / 8 < k)) ∨ z = 8 * a + k) ∨ z = 8 * k + b) := by
        intro z hz h
        omega
      by_cases hc : yb T k
      · have hf : yfc (yad R) (yan (f1 i)) (yan (8 * k + b)) := by
          have := (hT k).mp hc
          rw [b5, hua, yan_of hb]
          exact ⟨hab, hsy.1 _ _ this.1, Or.inr ⟨rfl, this.2.2.symm, this.2.1⟩⟩
        obtain ⟨m2, F2, f2, s2, r1, r2, r3, r4, r5, r6⟩ := s_reach_117 b1 b2 b4 (z := 8 * k + b) (by omega) hf
        refine ⟨m2, F2, f2, s2, yBI_h r2 ?_, r3, r4, r5, r6.trans b5, fun {z} hz => ?_⟩
        · intro z hz hh _
          exact Or.inl (num z hz hh)
        · apply bX6_reachForced_117_86_i
          have q := b2.1 u (by omega)
          have Fu : F1 u := by rw [← b5]; exact (b1.2.1 i b4).2.1
          rw [yif_t Fu] at q
          rw [b5] at r1
          simp (disch := omega) only [yl3, yl4, yl5, yl6, yl7, yl8, yl9, yl10, yl13, yl16, yl20, yl21, yl22, yl23, yl24, yl32, yl40, yl48, yl57, yl59, yl63, yl64, yl97, yl99, yl122, yl255, yl256, yl400, yl1000, yl2000, yl2048, yc0_eq, yc0_eq2, yc0_le, yc0_ge, yc0_lt, yc0_gt, yc0_ad, yc0_da, yc0_sb, yc0_ml, yc0_lm, yc1_eq, yc1_eq2, yc1_le, yc1_ge, yc1_lt, yc1_gt, yc1_ad, yc1_da, yc1_sb, yc1_ml, yc1_lm, yc2_eq, yc2_eq2, yc2_le, yc2_ge, yc2_lt, yc2_gt, yc2_ad, yc2_da, yc2_sb, yc2_ml, yc2_lm, yc31_ge, ymodn, yI_1sl, yc2_dv, yn1_eq, yn1_lt, xgd_t, xlt_e, Option.bind_some, nI_add, pk_mul, pk_sub, pk_div, pk_rem, yI_and, yI_or, yI_xor, yI_nd, yI_nd2, yI_31, yI_shl, nI_leI, nI_ltI, nI_eq, nI_clamp, xinb_t, yP_z, yP_if, if_neg, s_contains, s_arrowFrom, yif_t hc, q, r1]
          exact hz
      · refine ⟨m1, F1, f1, s1, yBI_h b1 ?_, b2, yfr_r, b4, b5, fun {z} hz => ?_⟩
        · intro z hz hh hf
          rcases num z hz hh with e | e
          · exact Or.inl e
          · subst e
            rw [b5, hua, yan_of hb] at hf
            refine absurd ((hT k).mpr ?_) hc
            obtain ⟨f1, f2, ⟨g1, g2, g3⟩ | ⟨g1, g2, g3⟩⟩ := hf
            · exact absurd rfl g2
            · exact ⟨hsy.1 _ _ f2, g3, g2.symm⟩
        · apply bX6_reachForced_117_86_i
          simp (disch := omega) only [yl3, yl4, yl5, yl6, yl7, yl8, yl9, yl10, yl13, yl16, yl20, yl21, yl22, yl23, yl24, yl32, yl40, yl48, yl57, yl59, yl63, yl64, yl97, yl99, yl122, yl255, yl256, yl400, yl1000, yl2000, yl2048, yc0_eq, yc0_eq2, yc0_le, yc0_ge, yc0_lt, yc0_gt, yc0_ad, yc0_da, yc0_sb, yc0_ml, yc0_lm, yc1_eq, yc1_eq2, yc1_le, yc1_ge, yc1_lt, yc1_gt, yc1_ad, yc1_da, yc1_sb, yc1_ml, yc1_lm, yc2_eq, yc2_eq2, yc2_le, yc2_ge, yc2_lt, yc2_gt, yc2_ad, yc2_da, yc2_sb, yc2_ml, yc2_lm, yc31_ge, ymodn, yI_1sl, yc2_dv, yn1_eq, yn1_lt, xgd_t, xlt_e, Option.bind_some, nI_add, pk_mul, pk_sub, pk_div, pk_rem, yI_and, yI_or, yI_xor, yI_nd, yI_nd2, yI_31, yI_shl, nI_leI, nI_ltI, nI_eq, nI_clamp, xinb_t, yP_z, yP_if, if_neg, s_contains, yif_f hc]
          exact hz
    obtain ⟨m2, F2, f2, s2, c1, c2, c3, c4, c5, c6⟩ := half2
    obtain ⟨m', F', f', s', e1, e2, e3, e4, e5, e6⟩ := ih (k + 1) (by omega) F2 f2 s2 m2 c1 c2 c4 c5
    exact ⟨m', F', f', s', b6 (c6 e1), e2, e3, yfr_t b3 (yfr_t c3 e4), e5, e6⟩
theorem s_rf_117 {R : Nat → Nat} {x i v : Nat} (hv : Nat.beq v 1999 = false) (hk : xkd v = (1, 8)) (hR8 : ∀ p, p < 8 → R p < 256) (hsy : ysy (yad R)) (h8 : yg8 (yad R)) (hx : yad R (yan x).1 (yan x).2) {F : Nat → Prop} {f : Nat → Nat} {s : Nat} {m : xmm} (hR : yrw v R m) (h : yBI (yad R) x i (fun _ => False) F f s) (hm : yBM 118 119 117 2 (yad R) x F f s m) (hi : i < s) : ∃ m' F' f' s', fX6_reachForced_117 v (nI (f i)) m = some m' ∧ yBI (yad R) x (i + 1) (fun _ => False) F' f' s' ∧ yBM 118 119 117 2 (yad R) x F' f' s' m' ∧ yfr [117, 118, 119] m m' := by
  have hu : f i < 64 := (h.2.1 i hi).1
  have hua : yad R (f i / 8) (f i % 8) := ycl_e (h.2.2.1 _ (h.2.1 i hi).2.1).2.1 hx
  have ha : f i / 8 < 8 := by omega
  have hb : f i % 8 < 8 := by omega
  have ra := hR8 _ ha
  have rb := hR8 _ hb
  have sp : ∀ A B c d : Nat, yb (ynd (ynd A B) (2 ^ c)) d ↔ yb A d ∧ ¬ yb B d ∧ d ≠ c := by
    intro A B c d
    rw [yb_nd, yb_nd, yb_pw, and_assoc]
  obtain ⟨m', F', f', s', e1, e2, e3, e4, e5, e6⟩ := s_rf_l_117 (x := x) (i := i) (a := f i / 8) (b := f i % 8) (u := f i) (E := ynd (ynd (R (f i / 8)) (R (f i % 8))) (2 ^ (f i % 8))) (T := ynd (ynd (R (f i % 8)) (R (f i / 8))) (2 ^ (f i / 8))) ha hb (by omega) (fun c => sp _ _ _ c) (fun c => sp _ _ _ c) (ynd_le _ _ 8 (ynd_le _ _ 8 ra)) (ynd_le _ _ 8 (ynd_le _ _ 8 rb)) hsy hua 8 0 (by omega) F f s m (yBI_h h fun z _ hh _ => by omega) hm hi rfl
  refine ⟨m', F', f', s', ?_, yBI_n h8 e2 e5 hx ?_, e3, e4⟩
  · apply fX6_reachForced_117_i
    simp (disch := omega) only [yl3, yl4, yl5, yl6, yl7, yl8, yl9, yl10, yl13, yl16, yl20, yl21, yl22, yl23, yl24, yl32, yl40, yl48, yl57, yl59, yl63, yl64, yl97, yl99, yl122, yl255, yl256, yl400, yl1000, yl2000, yl2048, yc0_eq, yc0_eq2, yc0_le, yc0_ge, yc0_lt, yc0_gt, yc0_ad, yc0_da, yc0_sb, yc0_ml, yc0_lm, yc1_eq, yc1_eq2, yc1_le, yc1_ge, yc1_lt, yc1_gt, yc1_ad, yc1_da, yc1_sb, yc1_ml, yc1_lm, yc2_eq, yc2_eq2, yc2_le, yc2_ge, yc2_lt, yc2_gt, yc2_ad, yc2_da, yc2_sb, yc2_ml, yc2_lm, yc31_ge, ymodn, yI_1sl, yc2_dv, yn1_eq, yn1_lt, xgd_t, xlt_e, Option.bind_some, nI_add, pk_mul, pk_sub, pk_div, pk_rem, yI_and, yI_or, yI_xor, yI_nd, yI_nd2, yI_31, yI_shl, nI_leI, nI_ltI, nI_eq, nI_clamp, xinb_t, yP_z, yP_if, hv, Bool.not_false, xia_t hk, hR _ ha, hR _ hb]
    exact e1
  · intro z hz hf
    rw [e6] at hf
    obtain ⟨_, _, ⟨g1, _, _⟩ | ⟨g1, _, _⟩⟩ := hf
    · exact Or.inl ⟨g1.symm, by omega⟩
    · exact Or.inr ⟨g1.symm, by omega⟩
theorem s_spread_l_117 {R : Nat → Nat} {x v : Nat} (hv : Nat.beq v 1999 = false) (hk : xkd v = (1, 8)) (hn : v ∉ [117, 118, 119]) (hR8 : ∀ p, p < 8 → R p < 256) (hsy : ysy (yad R)) (h8 : yg8 (yad R)) (hx : yad R (yan x).1 (yan x).2) : ∀ (d i : Nat), i + d = 64 → ∀ (F : Nat → Prop) (f : Nat → Nat) (s : Nat) (m : xmm), yrw v R m → yBI (yad R) x i (fun _ => False) F f s → yBM 118 119 117 2 (yad R) x F f s m → ∃ m', bX6_spread_117_34 v (nI i) m = some m' ∧ ySp 118 119 117 2 (yad R) x m' ∧ yfr [117, 118, 119] m m' := by
  intro d
  induction d with
  | zero =>
    intro i hi F f s m hR h hm
    have hs : s ≤ 64 := ypig 64 s f (fun j hj => (h.2.1 j hj).1) h.2.2.2.1
    refine ⟨m, ?_, ySp_of h8 h (by omega) hx hm, yfr_r⟩
    apply bX6_spread_117_34_i
    simp (disch := omega) only [yl3, yl4, yl5, yl6, yl7, yl8, yl9, yl10, yl13, yl16, yl20, yl21, yl22, yl23, yl24, yl32, yl40, yl48, yl57, yl59, yl63, yl64, yl97, yl99, yl122, yl255, yl256, yl400, yl1000, yl2000, yl2048, yc0_eq, yc0_eq2, yc0_le, yc0_ge, yc0_lt, yc0_gt, yc0_ad, yc0_da, yc0_sb, yc0_ml, yc0_lm, yc1_eq, yc1_eq2, yc1_le, yc1_ge, yc1_lt, yc1_gt, yc1_ad, yc1_da, yc1_sb, yc1_ml, yc1_lm, yc2_eq, yc2_eq2, yc2_le, yc2_ge, yc2_lt, yc2_gt, yc2_ad, yc2_da, yc2_sb, yc2_ml, yc2_lm, yc31_ge, ymodn, yI_1sl, yc2_dv, yn1_eq, yn1_lt, xgd_t, xlt_e, Option.bind_some, nI_add, pk_mul, pk_sub, pk_div, pk_rem, yI_and, yI_or, yI_xor, yI_nd, yI_nd2, yI_31, yI_shl, nI_leI, nI_ltI, nI_eq, nI_clamp, xinb_t, yP_z, yP_if, hm.2.2, if_pos]
  | succ d ih =>
    intro i hi F f s m hR h hm
    have hs : s ≤ 64 := ypig 64 s f (fun j hj => (h.2.1 j hj).1) h.2.2.2.1
    by_cases his : i < s
    · obtain ⟨m1, F1, f1, s1, r1, r2, r3, r4⟩ := s_rf_117 hv hk hR8 hsy h8 hx hR h hm his
      obtain ⟨m', e1, e2, e3⟩ := ih (i + 1) (by omega) F1 f1 s1 m1 (fun p hp => by rw [yfr_1 r4 v p hn]; exact hR p hp) r2 r3
      refine ⟨m', ?_, e2, yfr_t r4 e3⟩
      apply bX6_spread_117_34_i
      simp (disch := omega) only [yl3, yl4, yl5, yl6, yl7, yl8, yl9, yl10, yl13, yl16, yl20, yl21, yl22, yl23, yl24, yl32, yl40, yl48, yl57, yl59, yl63, yl64, yl97, yl99, yl122, yl255, yl256, yl400, yl1000, yl2000, yl2048, yc0_eq, yc0_eq2, yc0_le, yc0_ge, yc0_lt, yc0_gt, yc0_ad, yc0_da, yc0_sb, yc0_ml, yc0_lm, yc1_eq, yc1_eq2, yc1_le, yc1_ge, yc1_lt, yc1_gt, yc1_ad, yc1_da, yc1_sb, yc1_ml, yc1_lm, yc2_eq, yc2_eq2, yc2_le, yc2_ge, yc2_lt, yc2_gt, yc2_ad, yc2_da, yc2_sb, yc2_ml, yc2_lm, yc31_ge, ymodn, yI_1sl, yc2_dv, yn1_eq, yn1_lt, xgd_t, xlt_e, Option.bind_some, nI_add, pk_mul, pk_sub, pk_div, pk_rem, yI_and, yI_or, yI_xor, yI_nd, yI_nd2, yI_31, yI_shl, nI_leI, nI_ltI, nI_eq, nI_clamp, xinb_t, yP_z, yP_if, hm.2.2, if_neg, hv, Bool.not_false, hm.2.1 i his, r1, e1]
    · refine ⟨m, ?_, ySp_of h8 h (by omega) hx hm, yfr_r⟩
      apply bX6_spread_117_34_i
      simp (disch := omega) only [yl3, yl4, yl5, yl6, yl7, yl8, yl9, yl10, yl13, yl16, yl20, yl21, yl22, yl23, yl24, yl32, yl40, yl48, yl57, yl59, yl63, yl64, yl97, yl99, yl122, yl255, yl256, yl400, yl1000, yl2000, yl2048, yc0_eq, yc0_eq2, yc0_le, yc0_ge, yc0_lt, yc0_gt, yc0_ad, yc0_da, yc0_sb, yc0_ml, yc0_lm, yc1_eq, yc1_eq2, yc1_le, yc1_ge, yc1_lt, yc1_gt, yc1_ad, yc1_da, yc1_sb, yc1_ml, yc1_lm, yc2_eq, yc2_eq2, yc2_le, yc2_ge, yc2_lt, yc2_gt, yc2_ad, yc2_da, yc2_sb, yc2_ml, yc2_lm, yc31_ge, ymodn, yI_1sl, yc2_dv, yn1_eq, yn1_lt, xgd_t, xlt_e, Option.bind_some, nI_add, pk_mul, pk_sub, pk_div, pk_rem, yI_and, yI_or, yI_xor, yI_nd, yI_nd2, yI_31, yI_shl, nI_leI, nI_ltI, nI_eq, nI_clamp, xinb_t, yP_z, yP_if, hm.2.2, if_pos]
theorem s_spread_c_117 {v x : Nat} : ∀ (d k : Nat) (m : xmm), k + d = 64 → (∀ z, z < k → m.1 118 z = -1) → ∃ m0, (∀ {z : xmm}, bX6_spread_117_2 v (nI x) (nI 64) m0 = some z → bX6_spread_117_2 v (nI x) (nI k) m = some z) ∧ (∀ z, z < 64 → m0.1 118 z = -1) ∧ yfr [117, 118, 119] m m0 := by
  intro d
  induction d with
  | zero =>
    intro k m hk h
    have e : k = 64 := by omega
    subst e
    exact ⟨m, id, h, yfr_r⟩
  | succ d ih =>
    intro k m hk h
    obtain ⟨m0, e1, e2, e3⟩ := ih (k + 1) (xwi m 118 k (-1)) (by omega) (by
      intro z hz
      by_cases e : z = k
      · subst e; exact xwi_e _ _ _ _
      · rw [xwi_i e]; exact h z (by omega))
    refine ⟨m0, fun {z} hz => ?_, e2, yfr_t (yfr_w yfr_r (by decide)) e3⟩
    apply bX6_spread_117_2_i
    simp (disch := omega) only [yl3, yl4, yl5, yl6, yl7, yl8, yl9, yl10, yl13, yl16, yl20, yl21, yl22, yl23, yl24, yl32, yl40, yl48, yl57, yl59, yl63, yl64, yl97, yl99, yl122, yl255, yl256, yl400, yl1000, yl2000, yl2048, yc0_eq, yc0_eq2, yc0_le, yc0_ge, yc0_lt, yc0_gt, yc0_ad, yc0_da, yc0_sb, yc0_ml, yc0_lm, yc1_eq, yc1_eq2, yc1_le, yc1_ge, yc1_lt, yc1_gt, yc1_ad, yc1_da, yc1_sb, yc1_ml, yc1_lm, yc2_eq, yc2_eq2, yc2_le, yc2_ge, yc2_lt, yc2_gt, yc2_ad, yc2_da, yc2_sb, yc2_ml, yc2_lm, yc31_ge, ymodn, yI_1sl, yc2_dv, yn1_eq, yn1_lt, xgd_t, xlt_e, Option.bind_some, nI_add, pk_mul, pk_sub, pk_div, pk_rem, yI_and, yI_or, yI_xor, yI_nd, yI_nd2, yI_31, yI_shl, nI_leI, nI_ltI, nI_eq, nI_clamp, xinb_t, yP_z, yP_if, if_neg]
    exact e1 hz
theorem s_spread_117 {R : Nat → Nat} {x v : Nat} (hv : Nat.beq v 1999 = false) (hk : xkd v = (1, 8)) (hn : v ∉ [117, 118, 119]) (hR8 : ∀ p, p < 8 → R p < 256) (hsy : ysy (yad R)) (h8 : yg8 (yad R)) (h64 : x < 64) (hx : yad R (yan x).1 (yan x).2) {m : xmm} (hR : yrw v R m) : ∃ m', fX6_spread_117 v (nI x) m = some m' ∧ ySp 118 119 117 2 (yad R) x m' ∧ yfr [117, 118, 119] m m' := by
  obtain ⟨m0, a1, a2, a3⟩ := s_spread_c_117 (v := v) (x := x) 64 0 m rfl (fun z hz => absurd hz (Nat.not_lt_zero z))
  have hm : yBM 118 119 117 2 (yad R) x (fun z => z = x) (fun _ => x) 1 (xwi (xwi (xwi (xwi m0 117 2 0) 118 x 0) 119 0 (nI x)) 117 2 (nI 1)) := by
    refine ⟨fun z hz => ?_, fun j hj => ?_, ?_⟩
    · rw [xwi_k (by decide), xwi_k (by decide)]
      by_cases e : z = x
      · subst e
        rw [xwi_e, yif_t rfl, ydt_self]; rfl
      · rw [xwi_i e, xwi_k (by decide), yif_f e]
        exact a2 z hz
    · have e : j = 0 := by omega
      subst e
      rw [xwi_k (by decide), xwi_e]
    · rw [xwi_e]
  have f1 : yfr [117, 118, 119] m (xwi (xwi (xwi (xwi m0 117 2 0) 118 x 0) 119 0 (nI x)) 117 2 (nI 1)) := yfr_w (yfr_w (yfr_w (yfr_w a3 (by decide)) (by decide)) (by decide)) (by decide)
  obtain ⟨m', e1, e2, e3⟩ := s_spread_l_117 hv hk hn hR8 hsy h8 hx 64 0 rfl _ _ _ _ (fun p hp => by rw [yfr_1 f1 v p hn]; exact hR p hp) (yBI_0 (yad R) h64) hm
  refine ⟨m', ?_, e2, yfr_t f1 e3⟩
  apply fX6_spread_117_i
  apply a1
  apply bX6_spread_117_2_i
  rw [if_pos (by decide)]
  have hr : fX6_reach_117 (nI x) 0 (xwi m0 117 2 0) = some (xwi (xwi (xwi (xwi m0 117 2 0) 118 x 0) 119 0 (nI x)) 117 2 (nI 1)) := by
    apply fX6_reach_117_i
    have hz : (xwi m0 117 2 0).1 118 x = -1 := by rw [xwi_k (by decide)]; exact a2 x h64
    have hc : (0 : Int32).toNatClampNeg = 0 := rfl
    have hb : xinb 64 (0 : Int32) = true := rfl
    have ha : (0 : Int32) + 1 = nI 1 := rfl
    have hd : ¬ (64 : Int32) ≤ 0 := by decide
    simp (disch := omega) only [xgd_t, xlt_e, xinb_t, nI_clamp, hz, hc, hb, ha, if_true, xwi_e, xwi_k, if_neg hd]
  rw [xlt_e, hr, Option.bind_some]
  exact e1
