/-! classes and WALKS, on both sides -/
theorem yls_l (P : Nat → Prop) : ∀ n, (yls P n).length = yct P n := by
  intro n
  induction n with
  | zero => rfl
  | succ n ih =>
    rw [yls_s, yct_s, List.length_append, ih]
    by_cases h : P n
    · rw [yif_t h, yif_t h]; rfl
    · rw [yif_f h, yif_f h]; rfl
theorem yhc_ct (P : Nat → Prop) (n : Nat) : yhc (fun x => x < n ∧ P x) (yct P n) := ⟨yls P n, yls_n P n, fun x => yls_m P x n, yls_l P n⟩
/-- the size of a class -/
noncomputable def ycz (R : Nat → Nat) (x : Nat) : Nat := yct (fun k => ycl (yad R) (yan x) (yan k)) 64
theorem ySp_sz {cs cf co ci : Nat} {R : Nat → Nat} {x : Nat} {m : xmm} (h : ySp cs cf co ci (yad R) x m) : m.1 co ci = nI (ycz R x) := by
  obtain ⟨f, s, h1, h2, h3, h4, h5, h6, h7⟩ := h
  rw [h2]
  congr 1
  refine yhc_u (P := fun z => z < 64 ∧ ycl (yad R) (yan x) (yan z)) ⟨(List.range s).map f, ymap_nd List.nodup_range (fun i hi j hj e => ?_), fun z => ?_, by rw [List.length_map, List.length_range]⟩ (yhc_ct _ 64)
  · rw [List.mem_range] at hi hj
    rcases Nat.lt_trichotomy i j with g | g | g
    · exact absurd e (h4 i j g hj)
    · exact g
    · exact absurd e.symm (h4 j i g hi)
  · rw [List.mem_map]
    constructor
    · rintro ⟨j, j1, j2⟩
      have := h3 j (List.mem_range.mp j1)
      rw [j2] at this
      exact this.2
    · rintro ⟨z1, z2⟩
      obtain ⟨j, j1, j2⟩ := h5 z z1 z2
      exact ⟨j, List.mem_range.mpr j1, j2⟩
theorem s_sizeOf {R : Nat → Nat} (hG : yGd R) {x : Nat} (h64 : x < 64) (hx : yar R x) {m : xmm} (hm : yCS R 97 101 102 m) : fX1_sizeOf_97 (nI x) m = some (nI (ycz R x), m) := by
  have l : ∀ (d k : Nat), k + d = 64 → bX1_sizeOf_97_4 (nI x) (nI (yct (fun k => ycl (yad R) (yan x) (yan k)) k)) (nI k) m = some (nI (ycz R x), m) := by
    intro d
    induction d with
    | zero =>
      intro k hk
      have e : k = 64 := by omega
      subst e
      apply bX1_sizeOf_97_4_i
      simp (disch := omega) only [yl3, yl4, yl5, yl6, yl7, yl8, yl9, yl10, yl13, yl16, yl20, yl21, yl22, yl23, yl24, yl32, yl40, yl48, yl57, yl59, yl63, yl64, yl97, yl99, yl122, yl255, yl256, yl400, yl1000, yl2000, yl2048, yc0_eq, yc0_eq2, yc0_le, yc0_ge, yc0_lt, yc0_gt, yc0_ad, yc0_da, yc0_sb, yc0_ml, yc0_lm, yc1_eq, yc1_eq2, yc1_le, yc1_ge, yc1_lt, yc1_gt, yc1_ad, yc1_da, yc1_sb, yc1_ml, yc1_lm, yc2_eq, yc2_eq2, yc2_le, yc2_ge, yc2_lt, yc2_gt, yc2_ad, yc2_da, yc2_sb, yc2_ml, yc2_lm, yc31_ge, ymodn, yI_1sl, yc2_dv, yn1_eq, yn1_lt, xgd_t, xlt_e, Option.bind_some, nI_add, pk_mul, pk_sub, pk_div, pk_rem, yI_and, yI_or, yI_xor, yI_nd, yI_nd2, yI_31, yI_shl, nI_leI, nI_ltI, nI_eq, nI_clamp, xinb_t, yP_z, yP_if, if_pos]
      rfl
    | succ d ih =>
      intro k hk
      have e := ih (k + 1) (by omega)
      rw [yct_s] at e
      have q : m.1 102 k = m.1 102 x ↔ ycl (yad R) (yan x) (yan k) := eq_comm.trans (yCT_eq hG hm.2.1 h64 (by omega) hx)
      apply bX1_sizeOf_97_4_i
      by_cases hc : ycl (yad R) (yan x) (yan k)
      · rw [yif_t hc] at e
        simp (disch := omega) only [yl3, yl4, yl5, yl6, yl7, yl8, yl9, yl10, yl13, yl16, yl20, yl21, yl22, yl23, yl24, yl32, yl40, yl48, yl57, yl59, yl63, yl64, yl97, yl99, yl122, yl255, yl256, yl400, yl1000, yl2000, yl2048, yc0_eq, yc0_eq2, yc0_le, yc0_ge, yc0_lt, yc0_gt, yc0_ad, yc0_da, yc0_sb, yc0_ml, yc0_lm, yc1_eq, yc1_eq2, yc1_le, yc1_ge, yc1_lt, yc1_gt, yc1_ad, yc1_da, yc1_sb, yc1_ml, yc1_lm, yc2_eq, yc2_eq2, yc2_le, yc2_ge, yc2_lt, yc2_gt, yc2_ad, yc2_da, yc2_sb, yc2_ml, yc2_lm, yc31_ge, ymodn, yI_1sl, yc2_dv, yn1_eq, yn1_lt, xgd_t, xlt_e, Option.bind_some, nI_add, pk_mul, pk_sub, pk_div, pk_rem, yI_and, yI_or, yI_xor, yI_nd, yI_nd2, yI_31, yI_shl, nI_leI, nI_ltI, nI_eq, nI_clamp, xinb_t, yP_z, yP_if, if_neg, if_pos (q.mpr hc)]
        exact e
      · rw [yif_f hc] at e
        simp (disch := omega) only [yl3, yl4, yl5, yl6, yl7, yl8, yl9, yl10, yl13, yl16, yl20, yl21, yl22, yl23, yl24, yl32, yl40, yl48, yl57, yl59, yl63, yl64, yl97, yl99, yl122, yl255, yl256, yl400, yl1000, yl2000, yl2048, yc0_eq, yc0_eq2, yc0_le, yc0_ge, yc0_lt, yc0_gt, yc0_ad, yc0_da, yc0_sb, yc0_ml, yc0_lm, yc1_eq, yc1_eq2, yc1_le, yc1_ge, yc1_lt, yc1_gt, yc1_ad, yc1_da, yc1_sb, yc1_ml, yc1_lm, yc2_eq, yc2_eq2, yc2_le, yc2_ge, yc2_lt, yc2_gt, yc2_ad, yc2_da, yc2_sb, yc2_ml, yc2_lm, yc31_ge, ymodn, yI_1sl, yc2_dv, yn1_eq, yn1_lt, xgd_t, xlt_e, Option.bind_some, nI_add, pk_mul, pk_sub, pk_div, pk_rem, yI_and, yI_or, yI_xor, yI_nd, yI_nd2, yI_31, yI_shl, nI_leI, nI_ltI, nI_eq, nI_clamp, xinb_t, yP_z, yP_if, if_neg, if_neg (fun t => hc (q.mp t))]
        exact e
  apply fX1_sizeOf_97_i
  exact l 64 0 rfl
/-! reversed -/
theorem yrch_rv {g : yG} (hg : ysy g) : ∀ (n : Nat) (x y : yA), yrch g n x y → yrch g n (yrv x) (yrv y)
  | 0, x, y, h => by
    have h' : x = y := h
    rw [h']
    exact rfl
  | n + 1, x, y, h => by
    obtain ⟨u, h1, h2⟩ := h
    exact ⟨yrv u, yrch_rv hg n x u h1, yfc_rv hg h2⟩
theorem ydt_rv {g : yG} (hg : ysy g) {x y : yA} (h : ycl g x y) : ydt g (yrv x) (yrv y) = ydt g x y := by
  have a := ydt_le (yrch_rv hg _ _ _ (ydt_s h).1)
  have h' := ycl_rv hg h
  have b := ydt_le (yrch_rv hg _ _ _ (ydt_s h').1)
  rw [yrv_rv, yrv_rv] at b
  omega
/-- the length of the walk to its reverse, 0 where there is none -/
noncomputable def ywl (R : Nat → Nat) (x : Nat) : Nat := yif (yodd (yad R) (yan x)) (ydt (yad R) (yan x) (yrv (yan x)) + 1) 0
theorem s_walkLen {R : Nat → Nat} (hG : yGd R) {x : Nat} (h64 : x < 64) (hx : yar R x) {m : xmm} (hm : yCS R 97 101 102 m) : ∃ m', fX1_walkLength_97 (nI x) m = some (nI (ywl R x), m') ∧ (yodd (yad R) (yan x) → ySp 99 100 98 2 (yad R) (8 * (x % 8) + x / 8) m') ∧ yfr [98, 99, 100] m m' := by
  have io := s_isOdd_97 hG h64 hx hm
  have r64 : 8 * (x % 8) + x / 8 < 64 := by omega
  unfold ywl
  by_cases ho : yodd (yad R) (yan x)
  · have hrv := yan_rv h64
    have e1 : yad R (yan x).1 (yan x).2 := hx
    have e2 : yad R (yan (8 * (x % 8) + x / 8)).1 (yan (8 * (x % 8) + x / 8)).2 := by
      rw [hrv]; exact hG.2.1.1 _ _ e1
    obtain ⟨m1, a1, a2, a3⟩ := s_spread_98 (v := 101) rfl rfl (by decide) hG.1 hG.2.1 hG.2.2 r64 e2 hm.1
    refine ⟨m1, ?_, fun _ => a2, a3⟩
    have st := a2
    obtain ⟨f, s, h1, h2, h3, h4, h5, h6, h7⟩ := st
    have c1 : ycl (yad R) (yan (8 * (x % 8) + x / 8)) (yan x) := by
      rw [hrv]; exact ycl_sy hG.2.1 ho
    have d := h6 x h64
    rw [yif_t c1, hrv] at d
    have dd : ydt (yad R) (yrv (yan x)) (yan x) = ydt (yad R) (yan x) (yrv (yan x)) := by
      have := ydt_rv hG.2.1 ho
      rw [yrv_rv] at this
      exact this
    rw [dd] at d
    rw [yif_t ho]
    apply fX1_walkLength_97_i
    rw [io, yP_t ho, Option.bind_some, if_neg (show ¬ (1 : Int32) = 0 by decide), s_against h64, Option.bind_some, a1, Option.bind_some, xinb_t h64 (by decide), nI_clamp (by omega), d, nI_1]
    rfl
  · refine ⟨m, ?_, fun t => absurd t ho, yfr_r⟩
    rw [yif_f ho]
    apply fX1_walkLength_97_i
    rw [io, yP_f ho, Option.bind_some, if_pos rfl]
    rfl
theorem s_mwalkLen {R : Nat → Nat} {x : Nat} (h64 : x < 64) {m : xmm} (h : ySp 161 160 144 31 (yad R) x m) : m.1 161 (8 * (x % 8) + x / 8) + (1 : Int32) = nI (ywl R x) := by
  obtain ⟨f, s, h1, h2, h3, h4, h5, h6, h7⟩ := h
  rw [h6 _ (by omega), yan_rv h64]
  unfold ywl
  by_cases ho : yodd (yad R) (yan x)
  · have ho' : ycl (yad R) (yan x) (yrv (yan x)) := ho
    rw [yif_t ho, yif_t ho', nI_1]
  · have ho' : ¬ ycl (yad R) (yan x) (yrv (yan x)) := ho
    rw [yif_f ho, yif_f ho']
    decide
/-! the walk from x to its reverse: each next is the least arrow forced that is one nearer -/
def ynr (R : Nat → Nat) (o x k : Nat) : Prop := k < 64 ∧ ycl (yad R) (yan o) (yan k) ∧ ydt (yad R) (yan o) (yan k) + 1 = ydt (yad R) (yan o) (yan x) ∧ yfc (yad R) (yan x) (yan k)
theorem ynr_ex {R : Nat → Nat} (hG : yGd R) {o x : Nat} (ho : yad R (yan o).1 (yan o).2) (h : ycl (yad R) (yan o) (yan x)) (hd : 0 < ydt (yad R) (yan o) (yan x)) : ∃ k, ynr R o x k := by
  obtain ⟨d, e⟩ : ∃ d, ydt (yad R) (yan o) (yan x) = d + 1 := ⟨ydt (yad R) (yan o) (yan x) - 1, by omega⟩
  obtain ⟨u, h1, h2, h3⟩ := ydt_p h e
  obtain ⟨k, k1, k2⟩ := yan_ex hG.2.2 (ycl_e h1 ho)
  rw [← k2] at h1 h2 h3
  exact ⟨k, k1, h1, by omega, yfc_sy hG.2.1 h3⟩
noncomputable def yn1 (R : Nat → Nat) (o x : Nat) : Nat := @dite Nat (∃ k, ynr R o x k) (Classical.propDecidable _) (fun h => Classical.choose (yleast h)) (fun _ => x)
theorem yn1_s {R : Nat → Nat} {o x : Nat} (h : ∃ k, ynr R o x k) : ynr R o x (yn1 R o x) ∧ ∀ j, j < yn1 R o x → ¬ ynr R o x j := by
  have e : yn1 R o x = Classical.choose (yleast h) := by unfold yn1; exact dif_pos h
  rw [e]
  exact Classical.choose_spec (yleast h)
noncomputable def ywk (R : Nat → Nat) (o x : Nat) : Nat → Nat
  | 0 => x
  | k + 1 => yn1 R o (ywk R o x k)
theorem ywk_ok {R : Nat → Nat} (hG : yGd R) {o x : Nat} (ho : yad R (yan o).1 (yan o).2) (h : ycl (yad R) (yan o) (yan x)) (h64 : x < 64) : ∀ k, k ≤ ydt (yad R) (yan o) (yan x) → ywk R o x k < 64 ∧ ycl (yad R) (yan o) (yan (ywk R o x k)) ∧ ydt (yad R) (yan o) (yan (ywk R o x k)) + k = ydt (yad R) (yan o) (yan x)
  | 0, _ => ⟨h64, h, rfl⟩
  | k + 1, hk => by
    obtain ⟨a1, a2, a3⟩ := ywk_ok hG ho h h64 k (by omega)
    have s := (yn1_s (ynr_ex hG ho a2 (by omega))).1
    exact ⟨s.1, s.2.1, by have := s.2.2.1; show ydt (yad R) (yan o) (yan (yn1 R o (ywk R o x k))) + (k + 1) = _; omega⟩
