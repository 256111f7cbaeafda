/-! classes counted, by their least arrows -/
def yGd (R : Nat → Nat) : Prop := (∀ p, p < 8 → R p < 256) ∧ ysy (yad R) ∧ yg8 (yad R)
abbrev yar (R : Nat → Nat) (k : Nat) : Prop := yad R (yan k).1 (yan k).2
abbrev ycn2 (R : Nat → Nat) (j k : Nat) : Prop := ycl (yad R) (yan j) (yan k)
def yrp (R : Nat → Nat) (k : Nat) : Prop := yar R k ∧ ∀ j, j < k → yar R j → ¬ ycn2 R j k
noncomputable def yK (R : Nat → Nat) : Nat := yct (yrp R) 64
noncomputable def yKo (R : Nat → Nat) : Nat := yct (fun k => yrp R k ∧ yodd (yad R) (yan k)) 64
theorem yrep {R : Nat → Nat} (hR : yGd R) {k : Nat} (hk : yar R k) : ∃ r, r ≤ k ∧ yrp R r ∧ ycn2 R r k := by
  obtain ⟨r, ⟨h1, h2⟩, h3⟩ := yleast (P := fun j => yar R j ∧ ycn2 R j k) ⟨k, hk, ycl_r _ _⟩
  refine ⟨r, ?_, ⟨h1, fun j hj ha hc => h3 j hj ⟨ha, ycl_t hc h2⟩⟩, h2⟩
  rcases Nat.lt_or_ge k r with h | h
  · exact absurd ⟨hk, ycl_r _ _⟩ (h3 k h)
  · exact h
theorem yar_64 {R : Nat → Nat} (hR : yGd R) {k : Nat} (hk : yar R k) : k < 64 := by
  have := hR.2.2 _ _ hk
  have e1 : (yan k).1 = k / 8 := rfl
  rw [e1] at this
  omega
theorem yKo_0 {R : Nat → Nat} (hR : yGd R) : yKo R = 0 ↔ yord (yad R) := by
  constructor
  · intro h x hx ho
    obtain ⟨k, k1, k2⟩ := yan_ex hR.2.2 hx
    subst k2
    obtain ⟨r, r1, r2, r3⟩ := yrep hR hx
    have : 1 ≤ yKo R := yct_1 (i := r) (n := 64) (by omega) ⟨r2, ycl_t r3 (ycl_t ho (ycl_sy hR.2.1 (ycl_rv hR.2.1 r3)))⟩
    omega
  · intro h
    exact yct_0 fun k _ ⟨h1, h2⟩ => h _ h1.1 h2
theorem yct_lt {P : Nat → Prop} {i j : Nat} (h : i < j) (hp : P i) : yct P i < yct P j := by
  obtain ⟨d, rfl⟩ := Nat.exists_eq_add_of_lt h
  have e1 : yct P (i + 1) = yct P i + 1 := by rw [yct_s, yif_t hp]
  have e2 := yct_add P (i + 1) d
  rw [show i + 1 + d = i + d + 1 by omega] at e2
  omega
/-- the table of classes -/
def yCT (R : Nat → Nat) (tbl : Nat) (m : xmm) : Prop := ∀ k, k < 64 → (∃ r, r < 64 ∧ yrp R r ∧ ycn2 R r k ∧ m.1 tbl k = nI (yct (yrp R) r)) ∨ (¬ yar R k ∧ m.1 tbl k = -1)
theorem yCT_eq {R : Nat → Nat} (hR : yGd R) {tbl : Nat} {m : xmm} (h : yCT R tbl m) {j k : Nat} (hj : j < 64) (hk : k < 64) (haj : yar R j) : m.1 tbl j = m.1 tbl k ↔ ycn2 R j k := by
  rcases h j hj with ⟨r, r1, r2, r3, r4⟩ | ⟨r1, _⟩
  · rcases h k hk with ⟨q, q1, q2, q3, q4⟩ | ⟨q1, q2⟩
    · rw [r4, q4]
      have b1 := yct_le (yrp R) r
      have b2 := yct_le (yrp R) q
      constructor
      · intro e
        have e := (nI_eq (by omega) (by omega)).mp e
        rcases Nat.lt_trichotomy r q with h1 | h1 | h1
        · have := yct_lt h1 r2; omega
        · subst h1; exact ycl_t (ycl_sy hR.2.1 r3) q3
        · have := yct_lt h1 q2; omega
      · intro e
        have c : ycn2 R r q := ycl_t r3 (ycl_t e (ycl_sy hR.2.1 q3))
        rcases Nat.lt_trichotomy r q with h1 | h1 | h1
        · exact absurd c (q2.2 r h1 r2.1)
        · rw [h1]
        · exact absurd (ycl_sy hR.2.1 c) (r2.2 q h1 q2.1)
    · rw [r4, q2]
      have b1 := yct_le (yrp R) r
      constructor
      · intro e
        have h1 := yn1_eq (k := yct (yrp R) r) (by omega)
        rw [h1] at e
        exact e.elim
      · intro e
        exact absurd (ycl_e e haj) q1
  · exact absurd haj r1
theorem yCT_n {R : Nat → Nat} {tbl : Nat} {m : xmm} (h : yCT R tbl m) {j : Nat} (hj : j < 64) : m.1 tbl j = -1 ↔ ¬ yar R j := by
  rcases h j hj with ⟨r, r1, r2, r3, r4⟩ | ⟨r1, r2⟩
  · have b1 := yct_le (yrp R) r
    rw [r4]
    have h1 := yn1_eq (k := yct (yrp R) r) (by omega)
    rw [h1]
    exact ⟨fun e => e.elim, fun e => absurd (ycl_e r3 r2.1) e⟩
  · exact ⟨fun _ => r1, fun _ => r2⟩
def yCS (R : Nat → Nat) (ob rw tbl : Nat) (m : xmm) : Prop := yrw rw R m ∧ yCT R tbl m ∧ m.1 ob 3 = nI (yK R) ∧ m.1 ob 4 = nI (yKo R)
theorem s_ac_l_97 {x c : Nat} {f : Nat → Nat} {s : Nat} (hs : s ≤ 64) (hf : ∀ j, j < s → f j < 64) : ∀ (d i : Nat) (m : xmm), i + d = s → m.1 98 2 = nI s → (∀ j, j < s → m.1 100 j = nI (f j)) → m.1 97 3 = nI c → ∃ m', (∀ {z : xmm}, bX1_addClass_97_14 (nI x) (nI s) m' = some z → bX1_addClass_97_14 (nI x) (nI i) m = some z) ∧ (∀ z, m'.1 102 z = yif (∃ j, i ≤ j ∧ j < s ∧ f j = z) (nI c) (m.1 102 z)) ∧ yfr [102] m m' := by
  intro d
  induction d with
  | zero =>
    intro i m hi h1 h2 h3
    have e : i = s := by omega
    subst e
    exact ⟨m, id, fun z => (yif_f (by rintro ⟨j, j1, j2, _⟩; omega)).symm, yfr_r⟩
  | succ d ih =>
    intro i m hi h1 h2 h3
    have hfi := hf i (by omega)
    obtain ⟨m', e1, e2, e3⟩ := ih (i + 1) (xwi m 102 (f i) (nI c)) (by omega) (by rw [xwi_k (by decide)]; exact h1) (fun j hj => by rw [xwi_k (by decide)]; exact h2 j hj) (by rw [xwi_k (by decide)]; exact h3)
    refine ⟨m', fun {z} hz => ?_, fun z => ?_, yfr_t (yfr_w yfr_r (by decide)) e3⟩
    · apply bX1_addClass_97_14_i
      simp (disch := omega) only [yl3, yl4, yl5, yl6, yl7, yl8, yl9, yl10, yl13, yl16, yl20, yl21, yl22, yl23, yl24, yl32, yl40, yl48, yl57, yl59, yl63, yl64, yl97, yl99, yl122, yl255, yl256, yl400, yl1000, yl2000, yl2048, yc0_eq, yc0_eq2, yc0_le, yc0_ge, yc0_lt, yc0_gt, yc0_ad, yc0_da, yc0_sb, yc0_ml, yc0_lm, yc1_eq, yc1_eq2, yc1_le, yc1_ge, yc1_lt, yc1_gt, yc1_ad, yc1_da, yc1_sb, yc1_ml, yc1_lm, yc2_eq, yc2_eq2, yc2_le, yc2_ge, yc2_lt, yc2_gt, yc2_ad, yc2_da, yc2_sb, yc2_ml, yc2_lm, yc31_ge, ymodn, yI_1sl, yc2_dv, yn1_eq, yn1_lt, xgd_t, xlt_e, Option.bind_some, nI_add, pk_mul, pk_sub, pk_div, pk_rem, yI_and, yI_or, yI_xor, yI_nd, yI_nd2, yI_31, yI_shl, nI_leI, nI_ltI, nI_eq, nI_clamp, xinb_t, yP_z, yP_if, if_neg, h1, h2 i (by omega), h3]
      exact e1 hz
    · rw [e2 z]
      by_cases h : ∃ j, i + 1 ≤ j ∧ j < s ∧ f j = z
      · obtain ⟨j, j1, j2, j3⟩ := h
        rw [yif_t ⟨j, j1, j2, j3⟩, yif_t ⟨j, by omega, j2, j3⟩]
      · rw [yif_f h]
        by_cases e : z = f i
        · subst e
          rw [xwi_e, yif_t ⟨i, Nat.le_refl _, by omega, rfl⟩]
        · rw [xwi_i e, yif_f]
          rintro ⟨j, j1, j2, j3⟩
          by_cases ej : j = i
          · subst ej; exact e j3.symm
          · exact h ⟨j, by omega, j2, j3⟩
theorem s_isOdd_r_97 {x : Nat} (h : x < 64) {m : xmm} : fX1_isOdd_97 (nI x) m = some (yP (m.1 102 x = m.1 102 (8 * (x % 8) + x / 8)), m) := by
  apply fX1_isOdd_97_i
  simp (disch := omega) only [yl3, yl4, yl5, yl6, yl7, yl8, yl9, yl10, yl13, yl16, yl20, yl21, yl22, yl23, yl24, yl32, yl40, yl48, yl57, yl59, yl63, yl64, yl97, yl99, yl122, yl255, yl256, yl400, yl1000, yl2000, yl2048, yc0_eq, yc0_eq2, yc0_le, yc0_ge, yc0_lt, yc0_gt, yc0_ad, yc0_da, yc0_sb, yc0_ml, yc0_lm, yc1_eq, yc1_eq2, yc1_le, yc1_ge, yc1_lt, yc1_gt, yc1_ad, yc1_da, yc1_sb, yc1_ml, yc1_lm, yc2_eq, yc2_eq2, yc2_le, yc2_ge, yc2_lt, yc2_gt, yc2_ad, yc2_da, yc2_sb, yc2_ml, yc2_lm, yc31_ge, ymodn, yI_1sl, yc2_dv, yn1_eq, yn1_lt, xgd_t, xlt_e, Option.bind_some, nI_add, pk_mul, pk_sub, pk_div, pk_rem, yI_and, yI_or, yI_xor, yI_nd, yI_nd2, yI_31, yI_shl, nI_leI, nI_ltI, nI_eq, nI_clamp, xinb_t, yP_z, yP_if, s_against h]
  by_cases e : m.1 102 x = m.1 102 (8 * (x % 8) + x / 8)
  · rw [if_pos e, yP_t e]
  · rw [if_neg e, yP_f e]
theorem s_addClass_97 {R : Nat → Nat} (hG : yGd R) {x c o : Nat} (h64 : x < 64) (hx : yar R x) (hc : c < 2 ^ 30) {m : xmm} (hR : yrw 101 R m) (h1 : m.1 97 3 = nI c) (h2 : m.1 97 4 = nI o) (h3 : ∀ z, z < 64 → m.1 102 z ≠ nI c) : ∃ m', fX1_addClass_97 (nI x) m = some m' ∧ (∀ z, z < 64 → m'.1 102 z = yif (ycn2 R x z) (nI c) (m.1 102 z)) ∧ m'.1 97 3 = nI (c + 1) ∧ m'.1 97 4 = nI (o + yif (yodd (yad R) (yan x)) 1 0) ∧ yfr [97, 98, 99, 100, 102] m m' := by
  obtain ⟨m1, a1, ⟨f, s, b1, b2, b3, b4, b5, b6, b7⟩, a3⟩ := s_spread_98 (v := 101) rfl rfl (by decide) hG.1 hG.2.1 hG.2.2 h64 hx hR
  obtain ⟨m2, c1, c2, c3⟩ := s_ac_l_97 (x := x) (c := c) (f := f) (s := s) b1 (fun j hj => (b3 j hj).2.1) s 0 m1 (by omega) b2 (fun j hj => (b3 j hj).1) (by rw [yfr_1 a3 97 3 (by decide)]; exact h1)
  have t : ∀ z, z < 64 → m2.1 102 z = yif (ycn2 R x z) (nI c) (m.1 102 z) := by
    intro z hz
    rw [c2 z, yfr_1 a3 102 z (by decide)]
    apply yif_c
    constructor
    · rintro ⟨j, _, j2, j3⟩
      have := (b3 j j2).2.2
      rw [j3] at this
      exact this
    · intro e
      obtain ⟨j, j1, j2⟩ := b5 z hz e
      exact ⟨j, Nat.zero_le _, j1, j2⟩
  have k3 : m2.1 97 3 = nI c := by rw [yfr_1 c3 97 3 (by decide), yfr_1 a3 97 3 (by decide)]; exact h1
  have k4 : m2.1 97 4 = nI o := by rw [yfr_1 c3 97 4 (by decide), yfr_1 a3 97 4 (by decide)]; exact h2
  have ks : m2.1 98 2 = nI s := by rw [yfr_1 c3 98 2 (by decide)]; exact b2
  have fr : yfr [97, 98, 99, 100, 102] m m2 := yfr_t (yfr_m a3 (by decide)) (yfr_m c3 (by decide))
  have hodd := s_isOdd_r_97 h64 (m := xwi m2 97 3 (nI (c + 1)))
  have h64' : 8 * (x % 8) + x / 8 < 64 := by omega
  have heq : (xwi m2 97 3 (nI (c + 1))).1 102 x = (xwi m2 97 3 (nI (c + 1))).1 102 (8 * (x % 8) + x / 8) ↔ yodd (yad R) (yan x) := by
    rw [xwi_k (by decide), xwi_k (by decide), t x h64, t _ h64', yif_t (ycl_r _ _)]
    have hrv : ycn2 R x (8 * (x % 8) + x / 8) ↔ yodd (yad R) (yan x) := by
      show ycl _ _ (yan (8 * (x % 8) + x / 8)) ↔ _
      rw [yan_rv h64]
      exact Iff.rfl
    by_cases e : ycn2 R x (8 * (x % 8) + x / 8)
    · rw [yif_t e]
      exact ⟨fun _ => hrv.mp e, fun _ => rfl⟩
    · rw [yif_f e]
      exact ⟨fun e2 => absurd e2.symm (h3 _ h64'), fun e2 => absurd (hrv.mpr e2) e⟩
  rw [yP_c heq] at hodd
  have start : ∀ {z : xmm}, bX1_addClass_97_14 (nI x) (nI s) m2 = some z → fX1_addClass_97 (nI x) m = some z := by
    intro z hz
    apply fX1_addClass_97_i
    rw [a1, Option.bind_some]
    exact c1 hz
  by_cases ho : yodd (yad R) (yan x)
  · refine ⟨xwi (xwi m2 97 3 (nI (c + 1))) 97 4 (nI (o + 1)), ?_, ?_, ?_, ?_, yfr_w (yfr_w fr (by decide)) (by decide)⟩
    · apply start
      apply bX1_addClass_97_14_i
      rw [ks, if_pos (nI_le (Nat.le_refl _) (by omega))]
      rw [yP_t ho] at hodd
      have n1 : ¬ (1 : Int32) = 0 := by decide
      simp (disch := omega) only [yl3, yl4, yl5, yl6, yl7, yl8, yl9, yl10, yl13, yl16, yl20, yl21, yl22, yl23, yl24, yl32, yl40, yl48, yl57, yl59, yl63, yl64, yl97, yl99, yl122, yl255, yl256, yl400, yl1000, yl2000, yl2048, yc0_eq, yc0_eq2, yc0_le, yc0_ge, yc0_lt, yc0_gt, yc0_ad, yc0_da, yc0_sb, yc0_ml, yc0_lm, yc1_eq, yc1_eq2, yc1_le, yc1_ge, yc1_lt, yc1_gt, yc1_ad, yc1_da, yc1_sb, yc1_ml, yc1_lm, yc2_eq, yc2_eq2, yc2_le, yc2_ge, yc2_lt, yc2_gt, yc2_ad, yc2_da, yc2_sb, yc2_ml, yc2_lm, yc31_ge, ymodn, yI_1sl, yc2_dv, yn1_eq, yn1_lt, xgd_t, xlt_e, Option.bind_some, nI_add, pk_mul, pk_sub, pk_div, pk_rem, yI_and, yI_or, yI_xor, yI_nd, yI_nd2, yI_31, yI_shl, nI_leI, nI_ltI, nI_eq, nI_clamp, xinb_t, yP_z, yP_if, k3, k4, hodd, n1, if_false, xwi_i]
    · intro z hz
      rw [xwi_k (by decide), xwi_k (by decide)]
      exact t z hz
    · rw [xwi_i (by decide), xwi_e]
    · rw [xwi_e, yif_t ho]
  · refine ⟨xwi m2 97 3 (nI (c + 1)), ?_, ?_, ?_, ?_, yfr_w fr (by decide)⟩
    · apply start
      apply bX1_addClass_97_14_i
      rw [ks, if_pos (nI_le (Nat.le_refl _) (by omega))]
      rw [yP_f ho] at hodd
      simp (disch := omega) only [yl3, yl4, yl5, yl6, yl7, yl8, yl9, yl10, yl13, yl16, yl20, yl21, yl22, yl23, yl24, yl32, yl40, yl48, yl57, yl59, yl63, yl64, yl97, yl99, yl122, yl255, yl256, yl400, yl1000, yl2000, yl2048, yc0_eq, yc0_eq2, yc0_le, yc0_ge, yc0_lt, yc0_gt, yc0_ad, yc0_da, yc0_sb, yc0_ml, yc0_lm, yc1_eq, yc1_eq2, yc1_le, yc1_ge, yc1_lt, yc1_gt, yc1_ad, yc1_da, yc1_sb, yc1_ml, yc1_lm, yc2_eq, yc2_eq2, yc2_le, yc2_ge, yc2_lt, yc2_gt, yc2_ad, yc2_da, yc2_sb, yc2_ml, yc2_lm, yc31_ge, ymodn, yI_1sl, yc2_dv, yn1_eq, yn1_lt, xgd_t, xlt_e, Option.bind_some, nI_add, pk_mul, pk_sub, pk_div, pk_rem, yI_and, yI_or, yI_xor, yI_nd, yI_nd2, yI_31, yI_shl, nI_leI, nI_ltI, nI_eq, nI_clamp, xinb_t, yP_z, yP_if, k3, hodd, if_true]
    · intro z hz
      rw [xwi_k (by decide)]
      exact t z hz
    · rw [xwi_e]
    · rw [xwi_i (by decide), yif_f ho]
      exact k4
theorem s_sv_l_97 {R : Nat → Nat} (hG : yGd R) : ∀ (d a : Nat), a + d = 64 → ∀ (m : xmm), yrw 101 R m → (∀ k, k < 64 → (∃ r, r < a ∧ yrp R r ∧ ycn2 R r k ∧ m.1 102 k = nI (yct (yrp R) r)) ∨ ((∀ r, r < a → yrp R r → ¬ ycn2 R r k) ∧ m.1 102 k = -1)) → m.1 97 3 = nI (yct (yrp R) a) → m.1 97 4 = nI (yct (fun k => yrp R k ∧ yodd (yad R) (yan k)) a) → ∃ m', bX1_solve_97_56 (nI a) m = some m' ∧ yCS R 97 101 102 m' ∧ yfr [97, 98, 99, 100, 102] m m' := by
  intro d
  induction d with
  | zero =>
    intro a ha m hR hT h3 h4
    have e : a = 64 := by omega
    subst e
    refine ⟨m, ?_, ⟨hR, fun k hk => ?_, h3, h4⟩, yfr_r⟩
    · apply bX1_solve_97_56_i
      simp (disch := omega) only [yl3, yl4, yl5, yl6, yl7, yl8, yl9, yl10, yl13, yl16, yl20, yl21, yl22, yl23, yl24, yl32, yl40, yl48, yl57, yl59, yl63, yl64, yl97, yl99, yl122, yl255, yl256, yl400, yl1000, yl2000, yl2048, yc0_eq, yc0_eq2, yc0_le, yc0_ge, yc0_lt, yc0_gt, yc0_ad, yc0_da, yc0_sb, yc0_ml, yc0_lm, yc1_eq, yc1_eq2, yc1_le, yc1_ge, yc1_lt, yc1_gt, yc1_ad, yc1_da, yc1_sb, yc1_ml, yc1_lm, yc2_eq, yc2_eq2, yc2_le, yc2_ge, yc2_lt, yc2_gt, yc2_ad, yc2_da, yc2_sb, yc2_ml, yc2_lm, yc31_ge, ymodn, yI_1sl, yc2_dv, yn1_eq, yn1_lt, xgd_t, xlt_e, Option.bind_some, nI_add, pk_mul, pk_sub, pk_div, pk_rem, yI_and, yI_or, yI_xor, yI_nd, yI_nd2, yI_31, yI_shl, nI_leI, nI_ltI, nI_eq, nI_clamp, xinb_t, yP_z, yP_if, if_pos]
    · rcases hT k hk with h | ⟨h, h'⟩
      · exact Or.inl h
      · refine Or.inr ⟨fun e => ?_, h'⟩
        obtain ⟨r, r1, r2, r3⟩ := yrep hG e
        exact h r (by omega) r2 r3
  | succ d ih =>
    intro a ha m hR hT h3 h4
    have b1 := yct_le (yrp R) a
    have b2 := yct_le (fun k => yrp R k ∧ yodd (yad R) (yan k)) a
    have isA := s_isArrow (v := 101) rfl rfl hR hG.1 (x := a) (by omega)
    have stay : ¬ yrp R a → ∃ m', bX1_solve_97_56 (nI (a + 1)) m = some m' ∧ yCS R 97 101 102 m' ∧ yfr [97, 98, 99, 100, 102] m m' := by
      intro hn
      refine ih (a + 1) (by omega) m hR (fun k hk => ?_) (by rw [yct_s, yif_f hn]; exact h3) (by rw [yct_s, yif_f (fun e => hn e.1)]; exact h4)
      rcases hT k hk with ⟨r, r1, r2, r3⟩ | ⟨h, h'⟩
      · exact Or.inl ⟨r, by omega, r2, r3⟩
      · refine Or.inr ⟨fun r hr hrp => ?_, h'⟩
        by_cases e : r = a
        · subst e; exact absurd hrp hn
        · exact h r (by omega) hrp
    by_cases harr : yar R a
    · have harr' : yb (R (a / 8)) (a % 8) := harr
      rcases hT a (by omega) with ⟨r, r1, r2, r3, r4⟩ | ⟨h, h'⟩
      · have hn : ¬ yrp R a := fun e => e.2 r r1 r2.1 r3
        obtain ⟨m', e1, e2⟩ := stay hn
        refine ⟨m', ?_, e2⟩
        apply bX1_solve_97_56_i
        have b3 := yct_le (yrp R) r
        simp (disch := omega) only [yl3, yl4, yl5, yl6, yl7, yl8, yl9, yl10, yl13, yl16, yl20, yl21, yl22, yl23, yl24, yl32, yl40, yl48, yl57, yl59, yl63, yl64, yl97, yl99, yl122, yl255, yl256, yl400, yl1000, yl2000, yl2048, yc0_eq, yc0_eq2, yc0_le, yc0_ge, yc0_lt, yc0_gt, yc0_ad, yc0_da, yc0_sb, yc0_ml, yc0_lm, yc1_eq, yc1_eq2, yc1_le, yc1_ge, yc1_lt, yc1_gt, yc1_ad, yc1_da, yc1_sb, yc1_ml, yc1_lm, yc2_eq, yc2_eq2, yc2_le, yc2_ge, yc2_lt, yc2_gt, yc2_ad, yc2_da, yc2_sb, yc2_ml, yc2_lm, yc31_ge, ymodn, yI_1sl, yc2_dv, yn1_eq, yn1_lt, xgd_t, xlt_e, Option.bind_some, nI_add, pk_mul, pk_sub, pk_div, pk_rem, yI_and, yI_or, yI_xor, yI_nd, yI_nd2, yI_31, yI_shl, nI_leI, nI_ltI, nI_eq, nI_clamp, xinb_t, yP_z, yP_if, if_neg, isA, yif_t harr', r4, if_false]
        exact e1
      · have hrp : yrp R a := ⟨harr, fun j hj hja hc => by
          obtain ⟨r, r1, r2, r3⟩ := yrep hG hja
          exact h r (by omega) r2 (ycl_t r3 hc)⟩
        obtain ⟨m1, a1, a2, a3, a4, a5⟩ := s_addClass_97 hG (by omega) harr (c := yct (yrp R) a) (by omega) hR h3 h4 (fun z hz e => by
          rcases hT z hz with ⟨r, r1, r2, r3, r4⟩ | ⟨q1, q2⟩
          · rw [r4] at e
            have b3 := yct_le (yrp R) r
            have := (nI_eq (by omega) (by omega)).mp e
            have := yct_lt r1 r2
            omega
          · rw [q2] at e
            have h1 := yn1_eq (k := yct (yrp R) a) (by omega)
            have e := e.symm
            rw [h1] at e
            exact e)
        obtain ⟨m', e1, e2, e3⟩ := ih (a + 1) (by omega) m1 (fun p hp => by rw [yfr_1 a5 101 p (by decide)]; exact hR p hp) (fun k hk => by
          rw [a2 k hk]
          by_cases hc : ycn2 R a k
          · exact Or.inl ⟨a, by omega, hrp, hc, by rw [yif_t hc]⟩
          · rw [yif_f hc]
            rcases hT k hk with ⟨r, r1, r2, r3, r4⟩ | ⟨q1, q2⟩
            · exact Or.inl ⟨r, by omega, r2, r3, r4⟩
            · refine Or.inr ⟨fun r hr hrp2 => ?_, q2⟩
              by_cases e : r = a
              · subst e; exact hc
              · exact q1 r (by omega) hrp2) (by rw [yct_s, yif_t hrp]; exact a3) (by
          rw [yct_s, a4]
          congr 1
          congr 1
          exact yif_c ⟨fun e => ⟨hrp, e⟩, fun e => e.2⟩)
        refine ⟨m', ?_, e2, yfr_t a5 e3⟩
        apply bX1_solve_97_56_i
        simp (disch := omega) only [yl3, yl4, yl5, yl6, yl7, yl8, yl9, yl10, yl13, yl16, yl20, yl21, yl22, yl23, yl24, yl32, yl40, yl48, yl57, yl59, yl63, yl64, yl97, yl99, yl122, yl255, yl256, yl400, yl1000, yl2000, yl2048, yc0_eq, yc0_eq2, yc0_le, yc0_ge, yc0_lt, yc0_gt, yc0_ad, yc0_da, yc0_sb, yc0_ml, yc0_lm, yc1_eq, yc1_eq2, yc1_le, yc1_ge, yc1_lt, yc1_gt, yc1_ad, yc1_da, yc1_sb, yc1_ml, yc1_lm, yc2_eq, yc2_eq2, yc2_le, yc2_ge, yc2_lt, yc2_gt, yc2_ad, yc2_da, yc2_sb, yc2_ml, yc2_lm, yc31_ge, ymodn, yI_1sl, yc2_dv, yn1_eq, yn1_lt, xgd_t, xlt_e, Option.bind_some, nI_add, pk_mul, pk_sub, pk_div, pk_rem, yI_and, yI_or, yI_xor, yI_nd, yI_nd2, yI_31, yI_shl, nI_leI, nI_ltI, nI_eq, nI_clamp, xinb_t, yP_z, yP_if, if_neg, isA, yif_t harr', h', if_true, a1]
        exact e1
    · have hn : ¬ yrp R a := fun e => harr e.1
      have harr' : ¬ yb (R (a / 8)) (a % 8) := harr
      obtain ⟨m', e1, e2⟩ := stay hn
      refine ⟨m', ?_, e2⟩
      apply bX1_solve_97_56_i
      simp (disch := omega) only [yl3, yl4, yl5, yl6, yl7, yl8, yl9, yl10, yl13, yl16, yl20, yl21, yl22, yl23, yl24, yl32, yl40, yl48, yl57, yl59, yl63, yl64, yl97, yl99, yl122, yl255, yl256, yl400, yl1000, yl2000, yl2048, yc0_eq, yc0_eq2, yc0_le, yc0_ge, yc0_lt, yc0_gt, yc0_ad, yc0_da, yc0_sb, yc0_ml, yc0_lm, yc1_eq, yc1_eq2, yc1_le, yc1_ge, yc1_lt, yc1_gt, yc1_ad, yc1_da, yc1_sb, yc1_ml, yc1_lm, yc2_eq, yc2_eq2, yc2_le, yc2_ge, yc2_lt, yc2_gt, yc2_ad, yc2_da, yc2_sb, yc2_ml, yc2_lm, yc31_ge, ymodn, yI_1sl, yc2_dv, yn1_eq, yn1_lt, xgd_t, xlt_e, Option.bind_some, nI_add, pk_mul, pk_sub, pk_div, pk_rem, yI_and, yI_or, yI_xor, yI_nd, yI_nd2, yI_31, yI_shl, nI_leI, nI_ltI, nI_eq, nI_clamp, xinb_t, yP_z, yP_if, if_neg, isA, yif_f harr']
      exact e1
theorem s_sv_c_97 : ∀ (d k : Nat) (m : xmm), k + d = 64 → (∀ z, z < k → m.1 102 z = -1) → ∃ m0, (∀ {z : xmm}, bX1_solve_97_25 (nI 64) m0 = some z → bX1_solve_97_25 (nI k) m = some z) ∧ (∀ z, z < 64 → m0.1 102 z = -1) ∧ yfr [102] m m0 := by
  intro d
  induction d with
  | zero =>
    intro k m hk h
    have e : k = 64 := by omega
    subst e
    exact ⟨m, id, h, yfr_r⟩
  | succ d ih =>
    intro k m hk h
    obtain ⟨m0, e1, e2, e3⟩ := ih (k + 1) (xwi m 102 k (-1)) (by omega) (by
      intro z hz
      by_cases e : z = k
      · subst e; exact xwi_e _ _ _ _
      · rw [xwi_i e]; exact h z (by omega))
    refine ⟨m0, fun {z} hz => ?_, e2, yfr_t (yfr_w yfr_r (by decide)) e3⟩
    apply bX1_solve_97_25_i
    simp (disch := omega) only [yl3, yl4, yl5, yl6, yl7, yl8, yl9, yl10, yl13, yl16, yl20, yl21, yl22, yl23, yl24, yl32, yl40, yl48, yl57, yl59, yl63, yl64, yl97, yl99, yl122, yl255, yl256, yl400, yl1000, yl2000, yl2048, yc0_eq, yc0_eq2, yc0_le, yc0_ge, yc0_lt, yc0_gt, yc0_ad, yc0_da, yc0_sb, yc0_ml, yc0_lm, yc1_eq, yc1_eq2, yc1_le, yc1_ge, yc1_lt, yc1_gt, yc1_ad, yc1_da, yc1_sb, yc1_ml, yc1_lm, yc2_eq, yc2_eq2, yc2_le, yc2_ge, yc2_lt, yc2_gt, yc2_ad, yc2_da, yc2_sb, yc2_ml, yc2_lm, yc31_ge, ymodn, yI_1sl, yc2_dv, yn1_eq, yn1_lt, xgd_t, xlt_e, Option.bind_some, nI_add, pk_mul, pk_sub, pk_div, pk_rem, yI_and, yI_or, yI_xor, yI_nd, yI_nd2, yI_31, yI_shl, nI_leI, nI_ltI, nI_eq, nI_clamp, xinb_t, yP_z, yP_if, if_neg]
    exact e1 hz
theorem s_sv_r_97 {v : Nat} (hv : Nat.beq v 1999 = false) (hk : xkd v = (1, 8)) (hn : v ≠ 101) {R : Nat → Nat} : ∀ (d k : Nat) (m : xmm), k + d = 8 → yrw v R m → (∀ z, z < k → m.1 101 z = nI (R z)) → ∃ m0, (∀ {z : xmm}, bX1_solve_97_2 v (nI 8) m0 = some z → bX1_solve_97_2 v (nI k) m = some z) ∧ yrw 101 R m0 ∧ yfr [101] m m0 := by
  intro d
  induction d with
  | zero =>
    intro k m hk h h2
    have e : k = 8 := by omega
    subst e
    exact ⟨m, id, h2, yfr_r⟩
  | succ d ih =>
    intro k m hkd h h2
    obtain ⟨m0, e1, e2, e3⟩ := ih (k + 1) (xwi m 101 k (nI (R k))) (by omega) (fun p hp => by rw [xwi_k hn]; exact h p hp) (by
      intro z hz
      by_cases e : z = k
      · subst e; exact xwi_e _ _ _ _
      · rw [xwi_i e]; exact h2 z (by omega))
    refine ⟨m0, fun {z} hz => ?_, e2, yfr_t (yfr_w yfr_r (by decide)) e3⟩
    apply bX1_solve_97_2_i
    simp (disch := omega) only [yl3, yl4, yl5, yl6, yl7, yl8, yl9, yl10, yl13, yl16, yl20, yl21, yl22, yl23, yl24, yl32, yl40, yl48, yl57, yl59, yl63, yl64, yl97, yl99, yl122, yl255, yl256, yl400, yl1000, yl2000, yl2048, yc0_eq, yc0_eq2, yc0_le, yc0_ge, yc0_lt, yc0_gt, yc0_ad, yc0_da, yc0_sb, yc0_ml, yc0_lm, yc1_eq, yc1_eq2, yc1_le, yc1_ge, yc1_lt, yc1_gt, yc1_ad, yc1_da, yc1_sb, yc1_ml, yc1_lm, yc2_eq, yc2_eq2, yc2_le, yc2_ge, yc2_lt, yc2_gt, yc2_ad, yc2_da, yc2_sb, yc2_ml, yc2_lm, yc31_ge, ymodn, yI_1sl, yc2_dv, yn1_eq, yn1_lt, xgd_t, xlt_e, Option.bind_some, nI_add, pk_mul, pk_sub, pk_div, pk_rem, yI_and, yI_or, yI_xor, yI_nd, yI_nd2, yI_31, yI_shl, nI_leI, nI_ltI, nI_eq, nI_clamp, xinb_t, yP_z, yP_if, if_neg, hv, Bool.not_false, xia_t hk, h k (by omega)]
    exact e1 hz
theorem s_solve_97 {R : Nat → Nat} (hG : yGd R) {v : Nat} (hv : Nat.beq v 1999 = false) (hk : xkd v = (1, 8)) (hn : v ≠ 101) {m : xmm} (hR : yrw v R m) : ∃ m', fX1_solve_97 v m = some m' ∧ yCS R 97 101 102 m' ∧ yfr [97, 98, 99, 100, 101, 102] m m' := by
  obtain ⟨m1, a1, a2, a3⟩ := s_sv_r_97 hv hk hn 8 0 m rfl hR (fun z hz => absurd hz (Nat.not_lt_zero z))
  obtain ⟨m2, b1, b2, b3⟩ := s_sv_c_97 64 0 m1 rfl (fun z hz => absurd hz (Nat.not_lt_zero z))
  have fr : yfr [97, 101, 102] m (xwi (xwi m2 97 3 0) 97 4 0) := yfr_w (yfr_w (yfr_t (yfr_m a3 (by decide)) (yfr_m b3 (by decide))) (by decide)) (by decide)
  obtain ⟨m', e1, e2, e3⟩ := s_sv_l_97 hG 64 0 rfl (xwi (xwi m2 97 3 0) 97 4 0) (fun p hp => by rw [xwi_k (by decide), xwi_k (by decide), yfr_1 b3 101 p (by decide)]; exact a2 p hp) (fun k hk => Or.inr ⟨fun r hr => absurd hr (Nat.not_lt_zero r), by rw [xwi_k (by decide), xwi_k (by decide)]; exact b2 k hk⟩) (by rw [xwi_i (by decide), xwi_e]; rfl) (by rw [xwi_e]; rfl)
  refine ⟨m', ?_, e2, yfr_t (yfr_m fr (by decide)) (yfr_m e3 (by decide))⟩
  apply fX1_solve_97_i
  apply a1
  apply bX1_solve_97_2_i
  rw [if_pos (by decide)]
  apply b1
  apply bX1_solve_97_25_i
  rw [if_pos (by decide)]
  exact e1
theorem s_isOdd_97 {R : Nat → Nat} (hG : yGd R) {x : Nat} (h : x < 64) (hx : yar R x) {m : xmm} (hm : yCS R 97 101 102 m) : fX1_isOdd_97 (nI x) m = some (yP (yodd (yad R) (yan x)), m) := by
  rw [s_isOdd_r_97 h]
  congr 2
  apply yP_c
  rw [yCT_eq hG hm.2.1 h (by omega) hx]
  show ycl _ _ (yan (8 * (x % 8) + x / 8)) ↔ _
  rw [yan_rv h]
  exact Iff.rfl
theorem s_isOrdered_97 {R : Nat → Nat} (hG : yGd R) {m : xmm} (hm : yCS R 97 101 102 m) : fX1_isOrdered_97 m = some (yP (yord (yad R)), m) := by
  apply fX1_isOrdered_97_i
  have b : yKo R ≤ 64 := yct_le _ 64
  rw [hm.2.2.2]
  by_cases h : yord (yad R)
  · rw [(yKo_0 hG).mpr h, yP_t h]; rfl
  · have : ¬ nI (yKo R) = 0 := fun e => h ((yKo_0 hG).mp ((yI_eq0 (by omega)).mp e))
    rw [if_neg this, yP_f h]
theorem s_ac_l_103 {x c : Nat} {f : Nat → Nat} {s : Nat} (hs : s ≤ 64) (hf : ∀ j, j < s → f j < 64) : ∀ (d i : Nat) (m : xmm), i + d = s → m.1 104 2 = nI s → (∀ j, j < s → m.1 106 j = nI (f j)) → m.1 103 3 = nI c → ∃ m', (∀ {z : xmm}, bX1_addClass_103_14 (nI x) (nI s) m' = some z → bX1_addClass_103_14 (nI x) (nI i) m = some z) ∧ (∀ z, m'.1 108 z = yif (∃ j, i ≤ j ∧ j < s ∧ f j = z) (nI c) (m.1 108 z)) ∧ yfr [108] m m' := by
  intro d
  induction d with
  | zero =>
    intro i m hi h1 h2 h3
    have e : i = s := by omega
    subst e
    exact ⟨m, id, fun z => (yif_f (by rintro ⟨j, j1, j2, _⟩; omega)).symm, yfr_r⟩
  | succ d ih =>
    intro i m hi h1 h2 h3
    have hfi := hf i (by omega)
    obtain ⟨m', e1, e2, e3⟩ := ih (i + 1) (xwi m 108 (f i) (nI c)) (by omega) (by rw [xwi_k (by decide)]; exact h1) (fun j hj => by rw [xwi_k (by decide)]; exact h2 j hj) (by rw [xwi_k (by decide)]; exact h3)
    refine ⟨m', fun {z} hz => ?_, fun z => ?_, yfr_t (yfr_w yfr_r (by decide)) e3⟩
    · apply bX1_addClass_103_14_i
      simp (disch := omega) only [yl3, yl4, yl5, yl6, yl7, yl8, yl9, yl10, yl13, yl16, yl20, yl21, yl22, yl23, yl24, yl32, yl40, yl48, yl57, yl59, yl63, yl64, yl97, yl99, yl122, yl255, yl256, yl400, yl1000, yl2000, yl2048, yc0_eq, yc0_eq2, yc0_le, yc0_ge, yc0_lt, yc0_gt, yc0_ad, yc0_da, yc0_sb, yc0_ml, yc0_lm, yc1_eq, yc1_eq2, yc1_le, yc1_ge, yc1_lt, yc1_gt, yc1_ad, yc1_da, yc1_sb, yc1_ml, yc1_lm, yc2_eq, yc2_eq2, yc2_le, yc2_ge, yc2_lt, yc2_gt, yc2_ad, yc2_da, yc2_sb, yc2_ml, yc2_lm, yc31_ge, ymodn, yI_1sl, yc2_dv, yn1_eq, yn1_lt, xgd_t, xlt_e, Option.bind_some, nI_add, pk_mul, pk_sub, pk_div, pk_rem, yI_and, yI_or, yI_xor, yI_nd, yI_nd2, yI_31, yI_shl, nI_leI, nI_ltI, nI_eq, nI_clamp, xinb_t, yP_z, yP_if, if_neg, h1, h2 i (by omega), h3]
      exact e1 hz
    · rw [e2 z]
      by_cases h : ∃ j, i + 1 ≤ j ∧ j < s ∧ f j = z
      · obtain ⟨j, j1, j2, j3⟩ := h
        rw [yif_t ⟨j, j1, j2, j3⟩, yif_t ⟨j, by omega, j2, j3⟩]
      · rw [yif_f h]
        by_cases e : z = f i
        · subst e
          rw [xwi_e, yif_t ⟨i, Nat.le_refl _, by omega, rfl⟩]
        · rw [xwi_i e, yif_f]
          rintro ⟨j, j1, j2, j3⟩
          by_cases ej : j = i
          · subst ej; exact e j3.symm
          · exact h ⟨j, by omega, j2, j3⟩
theorem s_isOdd_r_103 {x : Nat} (h : x < 64) {m : xmm} : fX1_isOdd_103 (nI x) m = some (yP (m.1 108 x = m.1 108 (8 * (x % 8) + x / 8)), m) := by
  apply fX1_isOdd_103_i
  simp (disch := omega) only [yl3, yl4, yl5, yl6, yl7, yl8, yl9, yl10, yl13, yl16, yl20, yl21, yl22, yl23, yl24, yl32, yl40, yl48, yl57, yl59, yl63, yl64, yl97, yl99, yl122, yl255, yl256, yl400, yl1000, yl2000, yl2048, yc0_eq, yc0_eq2, yc0_le, yc0_ge, yc0_lt, yc0_gt, yc0_ad, yc0_da, yc0_sb, yc0_ml, yc0_lm, yc1_eq, yc1_eq2, yc1_le, yc1_ge, yc1_lt, yc1_gt, yc1_ad, yc1_da, yc1_sb, yc1_ml, yc1_lm, yc2_eq, yc2_eq2, yc2_le, yc2_ge, yc2_lt, yc2_gt, yc2_ad, yc2_da, yc2_sb, yc2_ml, yc2_lm, yc31_ge, ymodn, yI_1sl, yc2_dv, yn1_eq, yn1_lt, xgd_t, xlt_e, Option.bind_some, nI_add, pk_mul, pk_sub, pk_div, pk_rem, yI_and, yI_or, yI_xor, yI_nd, yI_nd2, yI_31, yI_shl, nI_leI, nI_ltI, nI_eq, nI_clamp, xinb_t, yP_z, yP_if, s_against h]
  by_cases e : m.1 108 x = m.1 108 (8 * (x % 8) + x / 8)
  · rw [if_pos e, yP_t e]
  · rw [if_neg e, yP_f e]
theorem s_addClass_103 {R : Nat → Nat} (hG : yGd R) {x c o : Nat} (h64 : x < 64) (hx : yar R x) (hc : c < 2 ^ 30) {m : xmm} (hR : yrw 107 R m) (h1 : m.1 103 3 = nI c) (h2 : m.1 103 4 = nI o) (h3 : ∀ z, z < 64 → m.1 108 z ≠ nI c) : ∃ m', fX1_addClass_103 (nI x) m = some m' ∧ (∀ z, z < 64 → m'.1 108 z = yif (ycn2 R x z) (nI c) (m.1 108 z)) ∧ m'.1 103 3 = nI (c + 1) ∧ m'.1 103 4 = nI (o + yif (yodd (yad R) (yan x)) 1 0) ∧ yfr [103, 104, 105, 106, 108] m m' := by
  obtain ⟨m1, a1, ⟨f, s, b1, b2, b3, b4, b5, b6, b7⟩, a3⟩ := s_spread_104 (v := 107) rfl rfl (by decide) hG.1 hG.2.1 hG.2.2 h64 hx hR
  obtain ⟨m2, c1, c2, c3⟩ := s_ac_l_103 (x := x) (c := c) (f := f) (s := s) b1 (fun j hj => (b3 j hj).2.1) s 0 m1 (by omega) b2 (fun j hj => (b3 j hj).1) (by rw [yfr_1 a3 103 3 (by decide)]; exact h1)
  have t : ∀ z, z < 64 → m2.1 108 z = yif (ycn2 R x z) (nI c) (m.1 108 z) := by
    intro z hz
    rw [c2 z, yfr_1 a3 108 z (by decide)]
    apply yif_c
    constructor
    · rintro ⟨j, _, j2, j3⟩
      have := (b3 j j2).2.2
      rw [j3] at this
      exact this
    · intro e
      obtain ⟨j, j1, j2⟩ := b5 z hz e
      exact ⟨j, Nat.zero_le _, j1, j2⟩
  have k3 : m2.1 103 3 = nI c := by rw [yfr_1 c3 103 3 (by decide), yfr_1 a3 103 3 (by decide)]; exact h1
  have k4 : m2.1 103 4 = nI o := by rw [yfr_1 c3 103 4 (by decide), yfr_1 a3 103 4 (by decide)]; exact h2
  have ks : m2.1 104 2 = nI s := by rw [yfr_1 c3 104 2 (by decide)]; exact b2
  have fr : yfr [103, 104, 105, 106, 108] m m2 := yfr_t (yfr_m a3 (by decide)) (yfr_m c3 (by decide))
  have hodd := s_isOdd_r_103 h64 (m := xwi m2 103 3 (nI (c + 1)))
  have h64' : 8 * (x % 8) + x / 8 < 64 := by omega
  have heq : (xwi m2 103 3 (nI (c + 1))).1 108 x = (xwi m2 103 3 (nI (c + 1))).1 108 (8 * (x % 8) + x / 8) ↔ yodd (yad R) (yan x) := by
    rw [xwi_k (by decide), xwi_k (by decide), t x h64, t _ h64', yif_t (ycl_r _ _)]
    have hrv : ycn2 R x (8 * (x % 8) + x / 8) ↔ yodd (yad R) (yan x) := by
      show ycl _ _ (yan (8 * (x % 8) + x / 8)) ↔ _
      rw [yan_rv h64]
      exact Iff.rfl
    by_cases e : ycn2 R x (8 * (x % 8) + x / 8)
    · rw [yif_t e]
      exact ⟨fun _ => hrv.mp e, fun _ => rfl⟩
    · rw [yif_f e]
      exact ⟨fun e2 => absurd e2.symm (h3 _ h64'), fun e2 => absurd (hrv.mpr e2) e⟩
  rw [yP_c heq] at hodd
  have start : ∀ {z : xmm}, bX1_addClass_103_14 (nI x) (nI s) m2 = some z → fX1_addClass_103 (nI x) m = some z := by
    intro z hz
    apply fX1_addClass_103_i
    rw [a1, Option.bind_some]
    exact c1 hz
  by_cases ho : yodd (yad R) (yan x)
  · refine ⟨xwi (xwi m2 103 3 (nI (c + 1))) 103 4 (nI (o + 1)), ?_, ?_, ?_, ?_, yfr_w (yfr_w fr (by decide)) (by decide)⟩
    · apply start
      apply bX1_addClass_103_14_i
      rw [ks, if_pos (nI_le (Nat.le_refl _) (by omega))]
      rw [yP_t ho] at hodd
      have n1 : ¬ (1 : Int32) = 0 := by decide
      simp (disch := omega) only [yl3, yl4, yl5, yl6, yl7, yl8, yl9, yl10, yl13, yl16, yl20, yl21, yl22, yl23, yl24, yl32, yl40, yl48, yl57, yl59, yl63, yl64, yl97, yl99, yl122, yl255, yl256, yl400, yl1000, yl2000, yl2048, yc0_eq, yc0_eq2, yc0_le, yc0_ge, yc0_lt, yc0_gt, yc0_ad, yc0_da, yc0_sb, yc0_ml, yc0_lm, yc1_eq, yc1_eq2, yc1_le, yc1_ge, yc1_lt, yc1_gt, yc1_ad, yc1_da, yc1_sb, yc1_ml, yc1_lm, yc2_eq, yc2_eq2, yc2_le, yc2_ge, yc2_lt, yc2_gt, yc2_ad, yc2_da, yc2_sb, yc2_ml, yc2_lm, yc31_ge, ymodn, yI_1sl, yc2_dv, yn1_eq, yn1_lt, xgd_t, xlt_e, Option.bind_some, nI_add, pk_mul, pk_sub, pk_div, pk_rem, yI_and, yI_or, yI_xor, yI_nd, yI_nd2, yI_31, yI_shl, nI_leI, nI_ltI, nI_eq, nI_clamp, xinb_t, yP_z, yP_if, k3, k4, hodd, n1, if_false, xwi_i]
    · intro z hz
      rw [xwi_k (by decide), xwi_k (by decide)]
      exact t z hz
    · rw [xwi_i (by decide), xwi_e]
    · rw [xwi_e, yif_t ho]
  · refine ⟨xwi m2 103 3 (nI (c + 1)), ?_, ?_, ?_, ?_, yfr_w fr (by decide)⟩
    · apply start
      apply bX1_addClass_103_14_i
      rw [ks, if_pos (nI_le (Nat.le_refl _) (by omega))]
      rw [yP_f ho] at hodd
      simp (disch := omega) only [yl3, yl4, yl5, yl6, yl7, yl8, yl9, yl10, yl13, yl16, yl20, yl21, yl22, yl23, yl24, yl32, yl40, yl48, yl57, yl59, yl63, yl64, yl97, yl99, yl122, yl255, yl256, yl400, yl1000, yl2000, yl2048, yc0_eq, yc0_eq2, yc0_le, yc0_ge, yc0_lt, yc0_gt, yc0_ad, yc0_da, yc0_sb, yc0_ml, yc0_lm, yc1_eq, yc1_eq2, yc1_le, yc1_ge, yc1_lt, yc1_gt, yc1_ad, yc1_da, yc1_sb, yc1_ml, yc1_lm, yc2_eq, yc2_eq2, yc2_le, yc2_ge, yc2_lt, yc2_gt, yc2_ad, yc2_da, yc2_sb, yc2_ml, yc2_lm, yc31_ge, ymodn, yI_1sl, yc2_dv, yn1_eq, yn1_lt, xgd_t, xlt_e, Option.bind_some, nI_add, pk_mul, pk_sub, pk_div, pk_rem, yI_and, yI_or, yI_xor, yI_nd, yI_nd2, yI_31, yI_shl, nI_leI, nI_ltI, nI_eq, nI_clamp, xinb_t, yP_z, yP_if, k3, hodd, if_true]
    · intro z hz
      rw [xwi_k (by decide)]
      exact t z hz
    · rw [xwi_e]
    · rw [xwi_i (by decide), yif_f ho]
      exact k4
theorem s_sv_l_103 {R : Nat → Nat} (hG : yGd R) : ∀ (d a : Nat), a + d = 64 → ∀ (m : xmm), yrw 107 R m → (∀ k, k < 64 → (∃ r, r < a ∧ yrp R r ∧ ycn2 R r k ∧ m.1 108 k = nI (yct (yrp R) r)) ∨ ((∀ r, r < a → yrp R r → ¬ ycn2 R r k) ∧ m.1 108 k = -1)) → m.1 103 3 = nI (yct (yrp R) a) → m.1 103 4 = nI (yct (fun k => yrp R k ∧ yodd (yad R) (yan k)) a) → ∃ m', bX1_solve_103_56 (nI a) m = some m' ∧ yCS R 103 107 108 m' ∧ yfr [103, 104, 105, 106, 108] m m' := by
  intro d
  induction d with
  | zero =>
    intro a ha m hR hT h3 h4
    have e : a = 64 := by omega
    subst e
    refine ⟨m, ?_, ⟨hR, fun k hk => ?_, h3, h4⟩, yfr_r⟩
    · apply bX1_solve_103_56_i
      simp (disch := omega) only [yl3, yl4, yl5, yl6, yl7, yl8, yl9, yl10, yl13, yl16, yl20, yl21, yl22, yl23, yl24, yl32, yl40, yl48, yl57, yl59, yl63, yl64, yl97, yl99, yl122, yl255, yl256, yl400, yl1000, yl2000, yl2048, yc0_eq, yc0_eq2, yc0_le, yc0_ge, yc0_lt, yc0_gt, yc0_ad, yc0_da, yc0_sb, yc0_ml, yc0_lm, yc1_eq, yc1_eq2, yc1_le, yc1_ge, yc1_lt, yc1_gt, yc1_ad, yc1_da, yc1_sb, yc1_ml, yc1_lm, yc2_eq, yc2_eq2, yc2_le, yc2_ge, yc2_lt, yc2_gt, yc2_ad, yc2_da, yc2_sb, yc2_ml, yc2_lm, yc31_ge, ymodn, yI_1sl, yc2_dv, yn1_eq, yn1_lt, xgd_t, xlt_e, Option.bind_some, nI_add, pk_mul, pk_sub, pk_div, pk_rem, yI_and, yI_or, yI_xor, yI_nd, yI_nd2, yI_31, yI_shl, nI_leI, nI_ltI, nI_eq, nI_clamp, xinb_t, yP_z, yP_if, if_pos]
    · rcases hT k hk with h | ⟨h, h'⟩
      · exact Or.inl h
      · refine Or.inr ⟨fun e => ?_, h'⟩
        obtain ⟨r, r1, r2, r3⟩ := yrep hG e
        exact h r (by omega) r2 r3
  | succ d ih =>
    intro a ha m hR hT h3 h4
    have b1 := yct_le (yrp R) a
    have b2 := yct_le (fun k => yrp R k ∧ yodd (yad R) (yan k)) a
    have isA := s_isArrow (v := 107) rfl rfl hR hG.1 (x := a) (by omega)
    have stay : ¬ yrp R a → ∃ m', bX1_solve_103_56 (nI (a + 1)) m = some m' ∧ yCS R 103 107 108 m' ∧ yfr [103, 104, 105, 106, 108] m m' := by
      intro hn
      refine ih (a + 1) (by omega) m hR (fun k hk => ?_) (by rw [yct_s, yif_f hn]; exact h3) (by rw [yct_s, yif_f (fun e => hn e.1)]; exact h4)
      rcases hT k hk with ⟨r, r1, r2, r3⟩ | ⟨h, h'⟩
      · exact Or.inl ⟨r, by omega, r2, r3⟩
      · refine Or.inr ⟨fun r hr hrp => ?_, h'⟩
        by_cases e : r = a
        · subst e; exact absurd hrp hn
        · exact h r (by omega) hrp
    by_cases harr : yar R a
    · have harr' : yb (R (a / 8)) (a % 8) := harr
      rcases hT a (by omega) with ⟨r, r1, r2, r3, r4⟩ | ⟨h, h'⟩
      · have hn : ¬ yrp R a := fun e => e.2 r r1 r2.1 r3
        obtain ⟨m', e1, e2⟩ := stay hn
        refine ⟨m', ?_, e2⟩
        apply bX1_solve_103_56_i
        have b3 := yct_le (yrp R) r
        simp (disch := omega) only [yl3, yl4, yl5, yl6, yl7, yl8, yl9, yl10, yl13, yl16, yl20, yl21, yl22, yl23, yl24, yl32, yl40, yl48, yl57, yl59, yl63, yl64, yl97, yl99, yl122, yl255, yl256, yl400, yl1000, yl2000, yl2048, yc0_eq, yc0_eq2, yc0_le, yc0_ge, yc0_lt, yc0_gt, yc0_ad, yc0_da, yc0_sb, yc0_ml, yc0_lm, yc1_eq, yc1_eq2, yc1_le, yc1_ge, yc1_lt, yc1_gt, yc1_ad, yc1_da, yc1_sb, yc1_ml, yc1_lm, yc2_eq, yc2_eq2, yc2_le, yc2_ge, yc2_lt, yc2_gt, yc2_ad, yc2_da, yc2_sb, yc2_ml, yc2_lm, yc31_ge, ymodn, yI_1sl, yc2_dv, yn1_eq, yn1_lt, xgd_t, xlt_e, Option.bind_some, nI_add, pk_mul, pk_sub, pk_div, pk_rem, yI_and, yI_or, yI_xor, yI_nd, yI_nd2, yI_31, yI_shl, nI_leI, nI_ltI, nI_eq, nI_clamp, xinb_t, yP_z, yP_if, if_neg, isA, yif_t harr', r4, if_false]
        exact e1
      · have hrp : yrp R a := ⟨harr, fun j hj hja hc => by
          obtain ⟨r, r1, r2, r3⟩ := yrep hG hja
          exact h r (by omega) r2 (ycl_t r3 hc)⟩
        obtain ⟨m1, a1, a2, a3, a4, a5⟩ := s_addClass_103 hG (by omega) harr (c := yct (yrp R) a) (by omega) hR h3 h4 (fun z hz e => by
          rcases hT z hz with ⟨r, r1, r2, r3, r4⟩ | ⟨q1, q2⟩
          · rw [r4] at e
            have b3 := yct_le (yrp R) r
            have := (nI_eq (by omega) (by omega)).mp e
            have := yct_lt r1 r2
            omega
          · rw [q2] at e
            have h1 := yn1_eq (k := yct (yrp R) a) (by omega)
            have e := e.symm
            rw [h1] at e
            exact e)
        obtain ⟨m', e1, e2, e3⟩ := ih (a + 1) (by omega) m1 (fun p hp => by rw [yfr_1 a5 107 p (by decide)]; exact hR p hp) (fun k hk => by
          rw [a2 k hk]
          by_cases hc : ycn2 R a k
          · exact Or.inl ⟨a, by omega, hrp, hc, by rw [yif_t hc]⟩
          · rw [yif_f hc]
            rcases hT k hk with ⟨r, r1, r2, r3, r4⟩ | ⟨q1, q2⟩
            · exact Or.inl ⟨r, by omega, r2, r3, r4⟩
            · refine Or.inr ⟨fun r hr hrp2 => ?_, q2⟩
              by_cases e : r = a
              · subst e; exact hc
              · exact q1 r (by omega) hrp2) (by rw [yct_s, yif_t hrp]; exact a3) (by
          rw [yct_s, a4]
          congr 1
          congr 1
          exact yif_c ⟨fun e => ⟨hrp, e⟩, fun e => e.2⟩)
        refine ⟨m', ?_, e2, yfr_t a5 e3⟩
        apply bX1_solve_103_56_i
        simp (disch := omega) only [yl3, yl4, yl5, yl6, yl7, yl8, yl9, yl10, yl13, yl16, yl20, yl21, yl22, yl23, yl24, yl32, yl40, yl48, yl57, yl59, yl63, yl64, yl97, yl99, yl122, yl255, yl256, yl400, yl1000, yl2000, yl2048, yc0_eq, yc0_eq2, yc0_le, yc0_ge, yc0_lt, yc0_gt, yc0_ad, yc0_da, yc0_sb, yc0_ml, yc0_lm, yc1_eq, yc1_eq2, yc1_le, yc1_ge, yc1_lt, yc1_gt, yc1_ad, yc1_da, yc1_sb, yc1_ml, yc1_lm, yc2_eq, yc2_eq2, yc2_le, yc2_ge, yc2_lt, yc2_gt, yc2_ad, yc2_da, yc2_sb, yc2_ml, yc2_lm, yc31_ge, ymodn, yI_1sl, yc2_dv, yn1_eq, yn1_lt, xgd_t, xlt_e, Option.bind_some, nI_add, pk_mul, pk_sub, pk_div, pk_rem, yI_and, yI_or, yI_xor, yI_nd, yI_nd2, yI_31, yI_shl, nI_leI, nI_ltI, nI_eq, nI_clamp, xinb_t, yP_z, yP_if, if_neg, isA, yif_t harr', h', if_true, a1]
        exact e1
    · have hn : ¬ yrp R a := fun e => harr e.1
      have harr' : ¬ yb (R (a / 8)) (a % 8) := harr
      obtain ⟨m', e1, e2⟩ := stay hn
      refine ⟨m', ?_, e2⟩
      apply bX1_solve_103_56_i
      simp (disch := omega) only [yl3, yl4, yl5, yl6, yl7, yl8, yl9, yl10, yl13, yl16, yl20, yl21, yl22, yl23, yl24, yl32, yl40, yl48, yl57, yl59, yl63, yl64, yl97, yl99, yl122, yl255, yl256, yl400, yl1000, yl2000, yl2048, yc0_eq, yc0_eq2, yc0_le, yc0_ge, yc0_lt, yc0_gt, yc0_ad, yc0_da, yc0_sb, yc0_ml, yc0_lm, yc1_eq, yc1_eq2, yc1_le, yc1_ge, yc1_lt, yc1_gt, yc1_ad, yc1_da, yc1_sb, yc1_ml, yc1_lm, yc2_eq, yc2_eq2, yc2_le, yc2_ge, yc2_lt, yc2_gt, yc2_ad, yc2_da, yc2_sb, yc2_ml, yc2_lm, yc31_ge, ymodn, yI_1sl, yc2_dv, yn1_eq, yn1_lt, xgd_t, xlt_e, Option.bind_some, nI_add, pk_mul, pk_sub, pk_div, pk_rem, yI_and, yI_or, yI_xor, yI_nd, yI_nd2, yI_31, yI_shl, nI_leI, nI_ltI, nI_eq, nI_clamp, xinb_t, yP_z, yP_if, if_neg, isA, yif_f harr']
      exact e1
theorem s_sv_c_103 : ∀ (d k : Nat) (m : xmm), k + d = 64 → (∀ z, z < k → m.1 108 z = -1) → ∃ m0, (∀ {z : xmm}, bX1_solve_103_25 (nI 64) m0 = some z → bX1_solve_103_25 (nI k) m = some z) ∧ (∀ z, z < 64 → m0.1 108 z = -1) ∧ yfr [108] m m0 := by
  intro d
  induction d with
  | zero =>
    intro k m hk h
    have e : k = 64 := by omega
    subst e
    exact ⟨m, id, h, yfr_r⟩
  | succ d ih =>
    intro k m hk h
    obtain ⟨m0, e1, e2, e3⟩ := ih (k + 1) (xwi m 108 k (-1)) (by omega) (by
      intro z hz
      by_cases e : z = k
      · subst e; exact xwi_e _ _ _ _
      · rw [xwi_i e]; exact h z (by omega))
    refine ⟨m0, fun {z} hz => ?_, e2, yfr_t (yfr_w yfr_r (by decide)) e3⟩
    apply bX1_solve_103_25_i
    simp (disch := omega) only [yl3, yl4, yl5, yl6, yl7, yl8, yl9, yl10, yl13, yl16, yl20, yl21, yl22, yl23, yl24, yl32, yl40, yl48, yl57, yl59, yl63, yl64, yl97, yl99, yl122, yl255, yl256, yl400, yl1000, yl2000, yl2048, yc0_eq, yc0_eq2, yc0_le, yc0_ge, yc0_lt, yc0_gt, yc0_ad, yc0_da, yc0_sb, yc0_ml, yc0_lm, yc1_eq, yc1_eq2, yc1_le, yc1_ge, yc1_lt, yc1_gt, yc1_ad, yc1_da, yc1_sb, yc1_ml, yc1_lm, yc2_eq, yc2_eq2, yc2_le, yc2_ge, yc2_lt, yc2_gt, yc2_ad, yc2_da, yc2_sb, yc2_ml, yc2_lm, yc31_ge, ymodn, yI_1sl, yc2_dv, yn1_eq, yn1_lt, xgd_t, xlt_e, Option.bind_some, nI_add, pk_mul, pk_sub, pk_div, pk_rem, yI_and, yI_or, yI_xor, yI_nd, yI_nd2, yI_31, yI_shl, nI_leI, nI_ltI, nI_eq, nI_clamp, xinb_t, yP_z, yP_if, if_neg]
    exact e1 hz
theorem s_sv_r_103 {v : Nat} (hv : Nat.beq v 1999 = false) (hk : xkd v = (1, 8)) (hn : v ≠ 107) {R : Nat → Nat} : ∀ (d k : Nat) (m : xmm), k + d = 8 → yrw v R m → (∀ z, z < k → m.1 107 z = nI (R z)) → ∃ m0, (∀ {z : xmm}, bX1_solve_103_2 v (nI 8) m0 = some z → bX1_solve_103_2 v (nI k) m = some z) ∧ yrw 107 R m0 ∧ yfr [107] m m0 := by
  intro d
  induction d with
  | zero =>
    intro k m hk h h2
    have e : k = 8 := by omega
    subst e
    exact ⟨m, id, h2, yfr_r⟩
  | succ d ih =>
    intro k m hkd h h2
    obtain ⟨m0, e1, e2, e3⟩ := ih (k + 1) (xwi m 107 k (nI (R k))) (by omega) (fun p hp => by rw [xwi_k hn]; exact h p hp) (by
      intro z hz
      by_cases e : z = k
      · subst e; exact xwi_e _ _ _ _
      · rw [xwi_i e]; exact h2 z (by omega))
    refine ⟨m0, fun {z} hz => ?_, e2, yfr_t (yfr_w yfr_r (by decide)) e3⟩
    apply bX1_solve_103_2_i
    simp (disch := omega) only [yl3, yl4, yl5, yl6, yl7, yl8, yl9, yl10, yl13, yl16, yl20, yl21, yl22, yl23, yl24, yl32, yl40, yl48, yl57, yl59, yl63, yl64, yl97, yl99, yl122, yl255, yl256, yl400, yl1000, yl2000, yl2048, yc0_eq, yc0_eq2, yc0_le, yc0_ge, yc0_lt, yc0_gt, yc0_ad, yc0_da, yc0_sb, yc0_ml, yc0_lm, yc1_eq, yc1_eq2, yc1_le, yc1_ge, yc1_lt, yc1_gt, yc1_ad, yc1_da, yc1_sb, yc1_ml, yc1_lm, yc2_eq, yc2_eq2, yc2_le, yc2_ge, yc2_lt, yc2_gt, yc2_ad, yc2_da, yc2_sb, yc2_ml, yc2_lm, yc31_ge, ymodn, yI_1sl, yc2_dv, yn1_eq, yn1_lt, xgd_t, xlt_e, Option.bind_some, nI_add, pk_mul, pk_sub, pk_div, pk_rem, yI_and, yI_or, yI_xor, yI_nd, yI_nd2, yI_31, yI_shl, nI_leI, nI_ltI, nI_eq, nI_clamp, xinb_t, yP_z, yP_if, if_neg, hv, Bool.not_false, xia_t hk, h k (by omega)]
    exact e1 hz
theorem s_solve_103 {R : Nat → Nat} (hG : yGd R) {v : Nat} (hv : Nat.beq v 1999 = false) (hk : xkd v = (1, 8)) (hn : v ≠ 107) {m : xmm} (hR : yrw v R m) : ∃ m', fX1_solve_103 v m = some m' ∧ yCS R 103 107 108 m' ∧ yfr [103, 104, 105, 106, 107, 108] m m' := by
  obtain ⟨m1, a1, a2, a3⟩ := s_sv_r_103 hv hk hn 8 0 m rfl hR (fun z hz => absurd hz (Nat.not_lt_zero z))
  obtain ⟨m2, b1, b2, b3⟩ := s_sv_c_103 64 0 m1 rfl (fun z hz => absurd hz (Nat.not_lt_zero z))
  have fr : yfr [103, 107, 108] m (xwi (xwi m2 103 3 0) 103 4 0) := yfr_w (yfr_w (yfr_t (yfr_m a3 (by decide)) (yfr_m b3 (by decide))) (by decide)) (by decide)
  obtain ⟨m', e1, e2, e3⟩ := s_sv_l_103 hG 64 0 rfl (xwi (xwi m2 103 3 0) 103 4 0) (fun p hp => by rw [xwi_k (by decide), xwi_k (by decide), yfr_1 b3 107 p (by decide)]; exact a2 p hp) (fun k hk => Or.inr ⟨fun r hr => absurd hr (Nat.not_lt_zero r), by rw [xwi_k (by decide), xwi_k (by decide)]; exact b2 k hk⟩) (by rw [xwi_i (by decide), xwi_e]; rfl) (by rw [xwi_e]; rfl)
  refine ⟨m', ?_, e2, yfr_t (yfr_m fr (by decide)) (yfr_m e3 (by decide))⟩
  apply fX1_solve_103_i
  apply a1
  apply bX1_solve_103_2_i
  rw [if_pos (by decide)]
  apply b1
  apply bX1_solve_103_25_i
  rw [if_pos (by decide)]
  exact e1
theorem s_isOdd_103 {R : Nat → Nat} (hG : yGd R) {x : Nat} (h : x < 64) (hx : yar R x) {m : xmm} (hm : yCS R 103 107 108 m) : fX1_isOdd_103 (nI x) m = some (yP (yodd (yad R) (yan x)), m) := by
  rw [s_isOdd_r_103 h]
  congr 2
  apply yP_c
  rw [yCT_eq hG hm.2.1 h (by omega) hx]
  show ycl _ _ (yan (8 * (x % 8) + x / 8)) ↔ _
  rw [yan_rv h]
  exact Iff.rfl
theorem s_isOrdered_103 {R : Nat → Nat} (hG : yGd R) {m : xmm} (hm : yCS R 103 107 108 m) : fX1_isOrdered_103 m = some (yP (yord (yad R)), m) := by
  apply fX1_isOrdered_103_i
  have b : yKo R ≤ 64 := yct_le _ 64
  rw [hm.2.2.2]
  by_cases h : yord (yad R)
  · rw [(yKo_0 hG).mpr h, yP_t h]; rfl
  · have : ¬ nI (yKo R) = 0 := fun e => h ((yKo_0 hG).mp ((yI_eq0 (by omega)).mp e))
    rw [if_neg this, yP_f h]
