/-! read: the class -/
theorem s_ctell {kd st nm vl : Nat → Nat} {K q : Nat} (hS : yzS kd K q) (hnm : ∀ j, kd j = 1 → nm j < 2 ^ 63) (hvl : ∀ j, kd j = 2 → vl j < 10000) {i : Nat} (hi : i < K) (hn : ∀ j, j < i → yzft kd nm vl (q - 1) j = 0) {m : xmm} (hC : yzC kd nm vl q i m) : ∃ m', fX7_tell_1 (nI (kd i)) (lN (yif (kd i = 1) (nm i) (yif (kd i = 2) (vl i) 0))) (nI (st i)) m = some m' ∧ (yzft kd nm vl (q - 1) i = 0 → yzC kd nm vl q (i + 1) m' ∧ m'.1 1 2 = m.1 1 2 ∧ m'.1 1 3 = m.1 1 3) ∧ (yzft kd nm vl (q - 1) i ≠ 0 → m'.1 1 2 = nI (yzft kd nm vl (q - 1) i) ∧ m'.1 1 3 = nI (st i)) ∧ yfk [3, 4, 8, 9] [2, 3, 12, 13, 14] m m' := by
  have hS' := hS
  obtain ⟨⟨q1, q2, q3, q4⟩, ⟨_, _, k0, kq⟩, names, kb, hd1, later⟩ := hS'
  have b := kb i hi
  by_cases h4 : 4 ≤ kd i
  · obtain ⟨m', a1, a2, a3, a4, a5⟩ := s_cHead (st := st) hS hnm hvl hi h4 hC (lN (yif (kd i = 1) (nm i) (yif (kd i = 2) (vl i) 0))) (nI (st i))
    have ft : yzft kd nm vl (q - 1) i = 0 := by
      unfold yzft
      rw [if_neg (by omega), if_neg (by omega), if_neg (by omega)]
    exact ⟨m', a1, fun _ => ⟨a2, a3, a4⟩, fun t => absurd ft t, a5⟩
  have i0 : i ≠ 0 := fun e => by rw [e] at h4; omega
  by_cases h1 : kd i = 1
  · rw [yif_t h1]
    rcases Nat.lt_trichotomy i q with g | g | g
    · exact s_cNew hS hnm hvl (by omega) g hC
    · rw [g] at h1; omega
    · exact s_cName hS hnm hvl g hi h1 hn hC
  rw [yif_f h1]
  by_cases h2 : kd i = 2
  · rw [yif_t h2]
    rcases Nat.lt_trichotomy i q with g | g | g
    · have := names i (by omega) g; omega
    · rw [g] at h2; omega
    · exact s_cInt hS hnm hvl g hi h2 hn hC
  rw [yif_f h2]
  have h3 : kd i = 3 := by omega
  rcases Nat.lt_trichotomy i q with g | g | g
  · have := names i (by omega) g; omega
  · subst g
    obtain ⟨a1, a2, a3⟩ := s_cSemq (st := st) hS hnm hvl hC (lN 0) (nI (st i))
    exact ⟨m, a1, fun _ => ⟨a3, rfl, rfl⟩, fun t => absurd a2 t, yfk_r⟩
  · exact s_cSem hS hnm hvl g hi h3 hn hC (lN 0)
theorem s_ctells {kd st nm vl : Nat → Nat} {K q : Nat} (hS : yzS kd K q) (hnm : ∀ j, kd j = 1 → nm j < 2 ^ 63) (hvl : ∀ j, kd j = 2 → vl j < 10000) : ∀ (d i : Nat) (m : xmm), i + d = K → (∀ j, j < i → yzft kd nm vl (q - 1) j = 0) → yKT kd st nm vl K m → yzC kd nm vl q i m → m.1 1 2 = nI 0 → ∃ m', bX7_readText_1_23 (nI i) m = some (xwi m' 1 1 0) ∧ (((∀ j, j < K → yzft kd nm vl (q - 1) j = 0) ∧ yzC kd nm vl q K m' ∧ m'.1 1 2 = nI 0 ∧ m'.1 1 3 = m.1 1 3) ∨ ∃ j, j < K ∧ yzft kd nm vl (q - 1) j ≠ 0 ∧ (∀ j', j' < j → yzft kd nm vl (q - 1) j' = 0) ∧ m'.1 1 2 = nI (yzft kd nm vl (q - 1) j) ∧ m'.1 1 3 = nI (st j)) ∧ yfk [3, 4, 8, 9] [2, 3, 12, 13, 14] m m' := by
  have K4 := hS.1.2.2.2
  intro d
  induction d with
  | zero =>
    intro i m hd hn hT hC h2
    have e : i = K := by omega
    subst e
    refine ⟨m, ?_, Or.inl ⟨hn, hC, h2, rfl⟩, yfk_r⟩
    apply bX7_readText_1_23_i
    rw [hT.1, if_pos (nI_le (Nat.le_refl i) (by omega))]
    rfl
  | succ d ih =>
    intro i m hd hn hT hC h2
    have hi : i < K := by omega
    obtain ⟨m1, a1, a2, a3, a4⟩ := s_ctell (st := st) hS hnm hvl hi hn hC
    have T1 := yKT_k hT a4 (by decide) (by decide) (by decide) (by decide)
    have o := hT.2 i hi
    have z2 : m.1 1 2 = (0 : Int32) := h2
    have st0 : ∀ {z : xmm}, bX7_readText_1_23 (nI (i + 1)) m1 = some z → bX7_readText_1_23 (nI i) m = some z := fun {z} hz => by
      apply bX7_readText_1_23_i
      rw [hT.1, if_neg (by rw [nI_leI (by omega) (by omega)]; omega), if_pos z2, xinb_t (by omega) (by decide), xgd_t, nI_clamp (by omega), o.1, o.2.1, o.2.2, a1, Option.bind_some, nI_1]
      exact hz
    by_cases f0 : yzft kd nm vl (q - 1) i = 0
    · obtain ⟨b1, b2, b3⟩ := a2 f0
      obtain ⟨m', r1, r2, r3⟩ := ih (i + 1) m1 (by omega) (fun j hj => by
        by_cases e : j = i
        · rw [e]; exact f0
        · exact hn j (by omega)) T1 b1 (b2.trans h2)
      refine ⟨m', st0 r1, ?_, yfk_t a4 r3⟩
      rcases r2 with ⟨c1, c2, c3, c4⟩ | c
      · exact Or.inl ⟨c1, c2, c3, c4.trans b3⟩
      · exact Or.inr c
    · obtain ⟨b1, b2⟩ := a3 f0
      refine ⟨m1, st0 ?_, Or.inr ⟨i, hi, f0, hn, b1, b2⟩, a4⟩
      apply bX7_readText_1_23_i
      have fb : yzft kd nm vl (q - 1) i < 100 := by
        unfold yzft
        split
        · split
          · by_cases c : ypa nm (i - 1) (nm i) < i - 1
            · rw [yif_t c]; decide
            · rw [yif_f c]; decide
          · by_cases c : ypa nm (q - 1) (nm i) < q - 1
            · rw [yif_t c]; decide
            · rw [yif_f c]; decide
        · split
          · by_cases c : q - 1 ≤ vl i
            · rw [yif_t c]; decide
            · rw [yif_f c]
              by_cases c' : ∃ o, yhd kd i < o ∧ o < i ∧ vl o = vl i
              · rw [yif_t c']; decide
              · rw [yif_f c']; decide
          · split
            · split
              · by_cases c : i - yhd kd i - 1 < q - 1
                · rw [yif_t c]; decide
                · rw [yif_f c]; decide
              · decide
            · decide
      by_cases g : m1.1 1 8 ≤ nI (i + 1)
      · rw [if_pos g]; rfl
      · rw [if_neg g, b1, if_neg (nI_ne0 (by omega) (by omega))]; rfl
theorem s_clear3 (m : xmm) : ∃ m', fX3_clear 3 m = some m' ∧ yNt 3 4 0 (fun _ => 0, 0) m' ∧ yfr [3, 4] m m' := by
  have l : ∀ (d k : Nat) (m : xmm), k + d = 8 → (∀ p, p < k → m.1 4 p = nI 0) → ∃ m', bX3_clear_12 3 (nI k) m = some m' ∧ (∀ p, p < 8 → m'.1 4 p = nI 0) ∧ yfr [4] m m' := by
    intro d
    induction d with
    | zero =>
      intro k m hd h
      have e : k = 8 := by omega
      subst e
      refine ⟨m, ?_, h, yfr_r⟩
      apply bX3_clear_12_i
      rw [if_pos (by decide)]
    | succ d ih =>
      intro k m hd h
      obtain ⟨m', a1, a2, a3⟩ := ih (k + 1) (xwi m 4 k 0) (by omega) (fun p hp => by
        by_cases e : p = k
        · rw [e, xwi_e]; rfl
        · rw [xwi_i e]; exact h p (by omega))
      refine ⟨m', ?_, a2, yfr_t (yfr_w yfr_r (by decide)) a3⟩
      have n3 : Nat.beq 3 1999 = false := rfl
      have o3 : xob 3 3 = true := rfl
      have r3 : xR0 3 2 = 5 := rfl
      have i1 : xia 1 4 (nI k) = true := xia_t (n := 8) rfl (by omega) (by decide)
      have le : ¬ (8 : Int32) ≤ nI k := by rw [yl8, nI_leI (by decide) (by omega)]; omega
      apply bX3_clear_12_i
      simp only [if_neg le, n3, o3, r3, xgr, Bool.not_false, xgd_t, i1, nI_clamp (show k < 2 ^ 31 by omega), xlt_e, nI_1]
      exact a1
  have f0 : yfr [3, 4] m (xwi (xwi m 3 0 0) 3 1 0) := yfr_w (yfr_w yfr_r (by decide)) (by decide)
  obtain ⟨m', a1, a2, a3⟩ := l 8 0 (xwi (xwi m 3 0 0) 3 1 0) rfl (fun p hp => absurd hp (Nat.not_lt_zero p))
  refine ⟨m', ?_, ⟨by rw [yfr_1 a3 3 0 (by decide), xwi_i (by decide), xwi_e]; rfl, by rw [yfr_1 a3 3 1 (by decide), xwi_e]; rfl, fun p hp => a2 p hp⟩, yfr_t f0 (yfr_m a3 (by decide))⟩
  have n3 : Nat.beq 3 1999 = false := rfl
  have o3 : xob 3 3 = true := rfl
  apply fX3_clear_i
  simp only [n3, o3, Bool.not_false, xgd_t, xlt_e]
  exact a1
/-! the whole outcome -/
noncomputable def yzq0 (kd : Nat → Nat) : Nat := yzn (fun j => kd j ≠ 3) 401 0
theorem yzq0_e {kd : Nat → Nat} {K q : Nat} (hS : yzS kd K q) : yzq0 kd = q := by
  obtain ⟨⟨q1, q2, q3, q4⟩, ⟨_, _, k0, kq⟩, names, _⟩ := hS
  obtain ⟨a, b, c, d⟩ := yzn_f (Q := fun j => kd j ≠ 3) 401 0
  have l : yzn (fun j => kd j ≠ 3) 401 0 ≤ q := by
    rcases Nat.lt_or_ge q (yzn (fun j => kd j ≠ 3) 401 0) with g | g
    · exact absurd kq (c q (Nat.zero_le q) g)
    · exact g
  have z : kd (yzn (fun j => kd j ≠ 3) 401 0) = 3 := Classical.byContradiction fun n => d (by omega) n
  unfold yzq0
  rcases Nat.lt_or_ge (yzn (fun j => kd j ≠ 3) 401 0) q with g | g
  · by_cases e : yzn (fun j => kd j ≠ 3) 401 0 = 0
    · rw [e] at z; omega
    · have := names _ (by omega) g; omega
  · omega
noncomputable def yzJ (kd nm vl : Nat → Nat) : Nat := yzn (fun j => yzft kd nm vl (yzq0 kd - 1) j = 0) (yfo kd 401 0 0 0).2 0
/-- the FAULT, and at which token -/
noncomputable def yzF (kd nm vl : Nat → Nat) : Nat × Nat := yif ((yfo kd 401 0 0 0).1 ≠ 0) (yfo kd 401 0 0 0) (yif (yzJ kd nm vl < (yfo kd 401 0 0 0).2) (yzft kd nm vl (yzq0 kd - 1) (yzJ kd nm vl), yzJ kd nm vl) (0, 0))
theorem yzJ_f {kd nm vl : Nat → Nat} {j : Nat} (h1 : j < (yfo kd 401 0 0 0).2) (h2 : yzft kd nm vl (yzq0 kd - 1) j ≠ 0) (h3 : ∀ j', j' < j → yzft kd nm vl (yzq0 kd - 1) j' = 0) : yzJ kd nm vl = j := by
  obtain ⟨a, b, c, d⟩ := yzn_f (Q := fun j => yzft kd nm vl (yzq0 kd - 1) j = 0) (yfo kd 401 0 0 0).2 0
  unfold yzJ
  rcases Nat.lt_trichotomy (yzn (fun j => yzft kd nm vl (yzq0 kd - 1) j = 0) (yfo kd 401 0 0 0).2 0) j with g | g | g
  · exact absurd (h3 _ g) (d (by omega))
  · exact g
  · exact absurd (c j (Nat.zero_le j) g) h2
theorem yzJ_0 {kd nm vl : Nat → Nat} (h : ∀ j, j < (yfo kd 401 0 0 0).2 → yzft kd nm vl (yzq0 kd - 1) j = 0) : ¬ yzJ kd nm vl < (yfo kd 401 0 0 0).2 := by
  obtain ⟨a, b, c, d⟩ := yzn_f (Q := fun j => yzft kd nm vl (yzq0 kd - 1) j = 0) (yfo kd 401 0 0 0).2 0
  intro t
  unfold yzJ at t
  exact d (by omega) (h _ t)
/-- the network told -/
noncomputable def yzP (kd : Nat → Nat) : Nat := yzq0 kd - 1
noncomputable def yzR (kd nm vl : Nat → Nat) : Nat → Nat := yzER kd nm vl (yzP kd) (yfo kd 401 0 0 0).2
theorem yzR_gr {kd nm vl : Nat → Nat} {K q : Nat} (hS : yzS kd K q) (hn : ∀ j, j < K → yzft kd nm vl (q - 1) j = 0) : ∀ i, i ≤ K → yGr (q - 1) (yzER kd nm vl (q - 1) i)
  | 0, _ => by
    have q2 := hS.1.2.1
    exact ⟨by omega, fun p => Nat.two_pow_pos _, fun p _ => rfl, ⟨fun a b t => absurd t yb_0, fun a t => absurd t yb_0⟩⟩
  | i + 1, hi => by
    have ih := yzR_gr hS hn i (by omega)
    obtain ⟨⟨q1, q2, q3, q4⟩, ⟨_, _, k0, kq⟩, names, kb, hd1, later⟩ := hS
    have b := kb i (by omega)
    show yGr (q - 1) (if kd i = 1 then (if kd (yhd kd i) = 4 then yzER kd nm vl (q - 1) i else yjr (yzER kd nm vl (q - 1) i) (yzSn kd nm (q - 1) i) (ypa nm (q - 1) (nm i))) else if kd i = 2 then yjr (yzER kd nm vl (q - 1) i) (yzSx kd vl i) (i - yhd kd i - 1) else yzER kd nm vl (q - 1) i)
    by_cases h1 : kd i = 1
    · rw [if_pos h1]
      by_cases h4 : kd (yhd kd i) = 4
      · rw [if_pos h4]; exact ih
      · rw [if_neg h4]
        have iq : q < i := by
          rcases Nat.lt_or_ge q i with g | g
          · exact g
          · rcases Nat.eq_zero_or_pos i with e | e
            · rw [e] at h1; omega
            · have := (hd1 i e g).1
              rw [this] at h4
              omega
        obtain ⟨l1, l2, l3⟩ := later i iq (by omega)
        have t := yfl_t (yss kd i) (by omega) (kd i) (by omega) b.2.2
        rw [h1] at t
        obtain ⟨w1, w2, w3, w4, w5⟩ := l3 (by omega)
        obtain ⟨hk, hj⟩ := w4 (by omega)
        have own : ∀ o, yhd kd i < o → o ≤ i → ypa nm (q - 1) (nm o) < q - 1 := by
          intro o o1 o2
          have ho : yhd kd o = yhd kd i := yhd_at (kd := kd) (k := yhd kd i) (by omega) o o1 (fun j a b => by have := hj j a (by omega); omega)
          have f := hn o (by omega)
          have k1 : kd o = 1 := by
            by_cases e : o = i
            · rw [e]; exact h1
            · exact hj o o1 (by omega)
          unfold yzft at f
          rw [if_pos k1, ho, if_neg h4] at f
          refine Classical.byContradiction fun n => ?_
          rw [yif_f n] at f
          omega
        refine yjr_gr ih (own i w2 (Nat.le_refl i)) fun a ha => ?_
        obtain ⟨_, o, o1, o2, _, o4⟩ := yb_bs.mp ha
        rw [← o4]
        exact own o o1 (by omega)
    rw [if_neg h1]
    by_cases h2 : kd i = 2
    · rw [if_pos h2]
      have iq : q < i := by
        rcases Nat.lt_trichotomy i q with g | g | g
        · rcases Nat.eq_zero_or_pos i with e | e
          · rw [e] at h2; omega
          · have := names i e g; omega
        · rw [g] at h2; omega
        · exact g
      obtain ⟨l1, l2, l3⟩ := later i iq (by omega)
      have t := yfl_t (yss kd i) (by omega) (kd i) (by omega) b.2.2
      rw [h2] at t
      obtain ⟨w1, w2, w3, w4, w5⟩ := l3 (by omega)
      obtain ⟨hk, hj⟩ := w5 (by omega)
      have hdo : ∀ o, yhd kd i < o → o < i + 1 → yhd kd o = yhd kd i := fun o o1 o2 => yhd_at (kd := kd) (k := yhd kd i) (by omega) o o1 (fun j a b => by have := hj j a (by omega); omega)
      have hk2 : ∀ o, yhd kd i < o → o < i + 1 → kd o = 2 := fun o o1 o2 => by
        by_cases e : o = i
        · rw [e]; exact h2
        · exact hj o o1 (by omega)
      have p3 := (yz_pl (i := i + 1) hdo hk2 (fun j hj => hn j (by omega))).2.2
      have cP : i - yhd kd i - 1 < q - 1 := by omega
      refine yjr_gr ih cP fun a ha => ?_
      have := (yb_bs.mp ha).2.1
      omega
    · rw [if_neg h2]; exact ih
