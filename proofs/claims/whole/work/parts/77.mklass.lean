/-! KLASS, the model -/
theorem s_mlineAt {n : Nat} {R : Nat → Nat} (hG : yGr n R) {m : xmm} (h : yMN n R m) {c d : Nat} (hc : c < n) (hd : d < n) (hcd : c ≠ d) : fX12_lineAt_144 (nI c) (nI d) m = some (nI (yli R (8 * min c d + max c d)), m) := by
  have hn := hG.1
  have key : ∀ a b, a < b → b < n → bX12_lineAt_144_29 (nI a) (nI b) (nI 0) (nI 0) m = some (nI (yli R (8 * a + b)), m) := by
    intro a b hab hb
    have s := s_mla_41 hG h hab hb 64 0 1 (by omega) (by decide) (by omega) (Nat.zero_le a)
    have e : min (8 * 0 + 1) (8 * a + b) = 1 := by omega
    have z : yli R 1 = 0 := by
      have : yli R 1 = yli R 0 + yif (yLa R 0) 1 0 := rfl
      rw [this, yif_f (fun t => by have := t.2; omega)]
      rfl
    rw [e, z] at s
    have ng : ¬ nI a < nI 0 := nI_pos (by omega)
    apply bX12_lineAt_144_29_i
    rw [if_neg ng]
    exact s
  apply fX12_lineAt_144_i
  by_cases le : d ≤ c
  · have e1 : min c d = d := by omega
    have e2 : max c d = c := by omega
    have l : nI d ≤ nI c := nI_le le (by omega)
    rw [if_pos l, e1, e2]
    apply bX12_lineAt_144_10_i
    rw [if_pos l]
    exact key d c (by omega) hc
  · have e1 : min c d = c := by omega
    have e2 : max c d = d := by omega
    have l : ¬ nI d ≤ nI c := by rw [nI_leI (by omega) (by omega)]; omega
    rw [if_neg l, e1, e2]
    apply bX12_lineAt_144_10_i
    rw [if_neg l]
    exact key c d (by omega) hd
def ynu (z : Nat) : Nat := 8 * min (z / 8) (z % 8) + max (z / 8) (z % 8)
theorem s_mlines {n : Nat} {R : Nat → Nat} (hG : yGr n R) {x : Nat} (hx : yad R (yan x).1 (yan x).2) {m : xmm} (h : yMN n R m) (hS : ySp 161 160 144 31 (yad R) x m) : bX12_klass_144_105 (nI 0) (nI 0) m = some (nI (ylm R x 64), m) := by
  have hn := hG.1
  have hD := yGr_gd hG
  obtain ⟨f, s, h1, h2, h3, h4, h5, h6, h7⟩ := hS
  have arr : ∀ j, j < s → yad R (f j / 8) (f j % 8) := fun j hj => ycl_e (h3 j hj).2.2 hx
  have num : ∀ z, z < 64 → yad R (z / 8) (z % 8) → ynu z < 64 ∧ yLa R (ynu z) ∧ (yan (ynu z) = yan z ∨ yrv (yan (ynu z)) = yan z) := by
    intro z hz hy
    have ne : z / 8 ≠ z % 8 := fun e => hG.2.2.2.2 (z % 8) (by rw [e] at hy; exact hy)
    unfold ynu
    by_cases g : z / 8 < z % 8
    · have e : 8 * min (z / 8) (z % 8) + max (z / 8) (z % 8) = z := by omega
      rw [e]
      exact ⟨hz, ⟨hy, g⟩, Or.inl rfl⟩
    · have e : 8 * min (z / 8) (z % 8) + max (z / 8) (z % 8) = 8 * (z % 8) + z / 8 := by omega
      rw [e]
      refine ⟨by omega, ⟨(yar_ab (by omega)).mpr (hG.2.2.2.1 _ _ hy), ?_⟩, Or.inr ?_⟩
      · rw [show (8 * (z % 8) + z / 8) / 8 = z % 8 by omega, show (8 * (z % 8) + z / 8) % 8 = z / 8 by omega]; omega
      · rw [yan_rv hz, yrv_rv]
  have fin : ybs (fun i => ∃ j, j < s ∧ yli R (ynu (f j)) = i) 31 = ylm R x 64 := by
    apply ytb_ext
    intro i
    refine yb_bs.trans (Iff.trans ?_ (ylm_b (Nat.le_refl 64)).symm)
    constructor
    · rintro ⟨_, j, j1, j2⟩
      obtain ⟨n1, n2, n3⟩ := num (f j) (h3 j j1).2.1 (arr j j1)
      refine ⟨ynu (f j), n1, n2, ?_, j2⟩
      rcases n3 with e | e
      · exact Or.inl (by rw [e]; exact (h3 j j1).2.2)
      · exact Or.inr (by rw [e]; exact (h3 j j1).2.2)
    · rintro ⟨k, k1, k2, k3, k4⟩
      have b28 := yli_b R (show k ≤ 64 by omega)
      refine ⟨by omega, ?_⟩
      rcases k3 with c | c
      · obtain ⟨j, j1, j2⟩ := h5 k k1 c
        refine ⟨j, j1, ?_⟩
        have e : ynu k = k := by unfold ynu; have := k2.2; omega
        rw [j2, e, k4]
      · rw [← yan_rv k1] at c
        obtain ⟨j, j1, j2⟩ := h5 (8 * (k % 8) + k / 8) (by omega) c
        refine ⟨j, j1, ?_⟩
        have e : ynu (8 * (k % 8) + k / 8) = k := by
          unfold ynu
          rw [show (8 * (k % 8) + k / 8) / 8 = k % 8 by omega, show (8 * (k % 8) + k / 8) % 8 = k / 8 by omega]
          have := k2.2
          omega
        rw [j2, e, k4]
  have l : ∀ (d j : Nat), j + d = s → bX12_klass_144_105 (nI (ybs (fun i => ∃ j', j' < j ∧ yli R (ynu (f j')) = i) 31)) (nI j) m = some (nI (ylm R x 64), m) := by
    intro d
    induction d with
    | zero =>
      intro j hj
      have e : j = s := by omega
      subst e
      rw [fin]
      apply bX12_klass_144_105_i
      simp (disch := omega) only [yl3, yl4, yl5, yl6, yl7, yl8, yl9, yl10, yl13, yl16, yl20, yl21, yl22, yl23, yl24, yl32, yl40, yl48, yl57, yl59, yl63, yl64, yl97, yl99, yl122, yl255, yl256, yl400, yl1000, yl2000, yl2048, yc0_eq, yc0_eq2, yc0_le, yc0_ge, yc0_lt, yc0_gt, yc0_ad, yc0_da, yc0_sb, yc0_ml, yc0_lm, yc1_eq, yc1_eq2, yc1_le, yc1_ge, yc1_lt, yc1_gt, yc1_ad, yc1_da, yc1_sb, yc1_ml, yc1_lm, yc2_eq, yc2_eq2, yc2_le, yc2_ge, yc2_lt, yc2_gt, yc2_ad, yc2_da, yc2_sb, yc2_ml, yc2_lm, yc31_ge, ymodn, yI_1sl, yc2_dv, yn1_eq, yn1_lt, xgd_t, xlt_e, Option.bind_some, nI_add, pk_mul, pk_sub, pk_div, pk_rem, yI_and, yI_or, yI_xor, yI_nd, yI_nd2, yI_31, yI_shl, nI_leI, nI_ltI, nI_eq, nI_clamp, xinb_t, yP_z, yP_if, h2, if_pos]
    | succ d ih =>
      intro j hj
      have e := ih (j + 1) (by omega)
      obtain ⟨f1, f2, f3⟩ := h3 j (by omega)
      have ay := arr j (by omega)
      have bn : f j / 8 < n ∧ f j % 8 < n := yGr_n hG ay
      have la := s_mlineAt hG h bn.1 bn.2 (fun e => hG.2.2.2.2 (f j % 8) (by rw [e] at ay; exact ay))
      obtain ⟨n1, n2, n3⟩ := num (f j) f2 ay
      have b28 := yli_b R (show ynu (f j) ≤ 64 by omega)
      have nu : 8 * min (f j / 8) (f j % 8) + max (f j / 8) (f j % 8) = ynu (f j) := rfl
      rw [nu] at la
      have acc : ybs (fun i => ∃ j', j' < j ∧ yli R (ynu (f j')) = i) 31 ||| 2 ^ yli R (ynu (f j)) = ybs (fun i => ∃ j', j' < j + 1 ∧ yli R (ynu (f j')) = i) 31 := by
        apply ytb_ext
        intro i
        refine yb_or.trans (Iff.trans ?_ yb_bs.symm)
        rw [yb_bs, yb_pw]
        constructor
        · rintro (⟨t1, j', t2, t3⟩ | t)
          · exact ⟨t1, j', by omega, t3⟩
          · exact ⟨by omega, j, by omega, t.symm⟩
        · rintro ⟨t1, j', t2, t3⟩
          by_cases ej : j' = j
          · subst ej; exact Or.inr t3.symm
          · exact Or.inl ⟨t1, j', by omega, t3⟩
      rw [← acc] at e
      apply bX12_klass_144_105_i
      have le : ¬ m.1 144 31 ≤ nI j := by rw [h2, nI_leI (by omega) (by omega)]; omega
      rw [if_neg le, xinb_t (by omega) (by decide), nI_clamp (by omega), f1, ymd8 f2, ydv8 f2, xgd_t, la, Option.bind_some, yI_1shl (by omega), yI_or, nI_1]
      exact e
  have z : ybs (fun i => ∃ j', j' < 0 ∧ yli R (ynu (f j')) = i) 31 = 0 := by
    refine Classical.byContradiction fun hne => ?_
    obtain ⟨i, hi⟩ := yex_ne hne
    obtain ⟨_, j, j1, _⟩ := yb_bs.mp hi
    exact absurd j1 (Nat.not_lt_zero j)
  have s0 := l s 0 (Nat.zero_add s)
  rw [z] at s0
  exact s0
