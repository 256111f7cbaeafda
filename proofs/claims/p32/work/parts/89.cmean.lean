/-! what the tokens tell: the class -/
/-- the FAULT that the i-th token is, 0 where it is none, if there is none ahead -/
noncomputable def yzft (kd nm vl : Nat → Nat) (P i : Nat) : Nat := if kd i = 1 then (if kd (yhd kd i) = 4 then yif (ypa nm (i - 1) (nm i) < i - 1) 3 0 else yif (ypa nm P (nm i) < P) 0 4) else if kd i = 2 then yif (P ≤ vl i) 5 (yif (∃ o, yhd kd i < o ∧ o < i ∧ vl o = vl i) 3 0) else if kd i = 3 then (if kd (yhd kd i) = 7 then yif (i - yhd kd i - 1 < P) 6 0 else 0) else 0
noncomputable def yzSn (kd nm : Nat → Nat) (P i : Nat) : Nat := ybs (fun a => ∃ o, yhd kd i < o ∧ o < i ∧ (kd (yhd kd i) = 6 ∨ o + 1 = i) ∧ ypa nm P (nm o) = a) 8
noncomputable def yzSv (kd vl : Nat → Nat) (i : Nat) : Nat := ybs (fun v => ∃ o, yhd kd i < o ∧ o < i ∧ vl o = v) 8
noncomputable def yzSx (kd vl : Nat → Nat) (i : Nat) : Nat := ybs (fun p => p < i - yhd kd i - 1 ∧ vl i < vl (yhd kd i + 1 + p)) 8
noncomputable def yzER (kd nm vl : Nat → Nat) (P : Nat) : Nat → Nat → Nat
  | 0 => fun _ => 0
  | i + 1 => if kd i = 1 then (if kd (yhd kd i) = 4 then yzER kd nm vl P i else yjr (yzER kd nm vl P i) (yzSn kd nm P i) (ypa nm P (nm i))) else if kd i = 2 then yjr (yzER kd nm vl P i) (yzSx kd vl i) (i - yhd kd i - 1) else yzER kd nm vl P i
/-- the class at its i-th token -/
def yzC (kd nm vl : Nat → Nat) (q i : Nat) (m : xmm) : Prop := yNt 3 4 (if i ≤ q then i - 1 else q - 1) (yzER kd nm vl (q - 1) i, 0) m ∧ (∀ p, p < (if i ≤ q then i - 1 else q - 1) → m.2 8 p = lN (nm (p + 1))) ∧ (1 ≤ i → m.1 1 12 = nI (kd (yhd kd i))) ∧ (q < i → 3 ≤ yss kd i → yss kd i ≤ 5 → m.1 1 13 = nI (yzSn kd nm (q - 1) i)) ∧ (q < i → 6 ≤ yss kd i → m.1 1 13 = nI (yzSv kd vl i) ∧ m.1 1 14 = nI (i - yhd kd i - 1) ∧ ∀ o, yhd kd i < o → o < i → m.1 9 (o - yhd kd i - 1) = nI (vl o))
theorem yNt_c {n : Nat} {R R' : Nat → Nat} {m : xmm} (h : ∀ a, R a = R' a) (hN : yNt 3 4 n (R, 0) m) : yNt 3 4 n (R', 0) m := ⟨hN.1, hN.2.1, fun a ha => by
  show m.1 4 a = nI (R' a)
  rw [← h a]; exact hN.2.2 a ha⟩
theorem ybs_0 {Q : Nat → Prop} {n : Nat} (h : ∀ a, ¬ Q a) : ybs Q n = 0 := by
  refine Classical.byContradiction fun hne => ?_
  obtain ⟨i, hi⟩ := yex_ne hne
  exact h i (yb_bs.mp hi).2
theorem yb_31 {Q : Nat → Prop} : ybs Q 8 < 2 ^ 31 := Nat.lt_trans (ybs_lt Q 8) (by decide)
theorem yhd_s {kd : Nat → Nat} {i : Nat} (h : kd i < 4) : yhd kd (i + 1) = yhd kd i := by
  show (if 4 ≤ kd i then i else yhd kd i) = _
  rw [if_neg (by omega)]
theorem yhd_h {kd : Nat → Nat} {i : Nat} (h : 4 ≤ kd i) : yhd kd (i + 1) = i := by
  show (if 4 ≤ kd i then i else yhd kd i) = _
  rw [if_pos h]
/-- a token that begins a sentence -/
theorem s_cHead {kd st nm vl : Nat → Nat} {K q : Nat} (hS : yzS kd K q) (hnm : ∀ j, kd j = 1 → nm j < 2 ^ 63) (hvl : ∀ j, kd j = 2 → vl j < 10000) {i : Nat} (hi : i < K) (h4 : 4 ≤ kd i) {m : xmm} (hC : yzC kd nm vl q i m) (x : Int64) (y : Int32) : ∃ m', fX7_tell_1 (nI (kd i)) x y m = some m' ∧ yzC kd nm vl q (i + 1) m' ∧ m'.1 1 2 = m.1 1 2 ∧ m'.1 1 3 = m.1 1 3 ∧ yfk [3, 4, 8, 9] [2, 3, 12, 13, 14] m m' := by
  obtain ⟨⟨q1, q2, q3, q4⟩, ⟨_, _, k0, kq⟩, names, kb, _, _⟩ := hS
  have b := kb i hi
  have ne : i = 0 ∨ q < i := by
    rcases Nat.eq_zero_or_pos i with e | e
    · exact Or.inl e
    · refine Or.inr ?_
      rcases Nat.lt_trichotomy i q with g | g | g
      · have := names i e g; omega
      · rw [g] at h4; omega
      · exact g
  have f : yfk [3, 4, 8, 9] [2, 3, 12, 13, 14] m (xwi (xwi (xwi m 1 12 (nI (kd i))) 1 13 0) 1 14 0) := yfk_f (yfk_f (yfk_f yfk_r (by decide)) (by decide)) (by decide)
  have g : yfk [] [12, 13, 14] m (xwi (xwi (xwi m 1 12 (nI (kd i))) 1 13 0) 1 14 0) := yfk_f (yfk_f (yfk_f yfk_r (by decide)) (by decide)) (by decide)
  have hh := yhd_h h4
  obtain ⟨c1, c2, c3, c4, c5⟩ := hC
  have pe : (if i + 1 ≤ q then i + 1 - 1 else q - 1) = (if i ≤ q then i - 1 else q - 1) := by
    rcases ne with e | e
    · rw [e, if_pos (by omega), if_pos (by omega)]
    · rw [if_neg (by omega), if_neg (by omega)]
  have er : yzER kd nm vl (q - 1) (i + 1) = yzER kd nm vl (q - 1) i := by
    show (if kd i = 1 then _ else if kd i = 2 then _ else _) = _
    rw [if_neg (by omega), if_neg (by omega)]
  refine ⟨_, ?_, ⟨?_, fun p hp => ?_, fun _ => ?_, fun _ _ _ => ?_, fun _ _ => ⟨?_, ?_, fun o o1 o2 => ?_⟩⟩, ?_, ?_, f⟩
  · apply fX7_tell_1_i
    have e1 : ¬ nI (kd i) = (1 : Int32) := fun t => by have := (nI_eq (b := 1) (by omega) (by decide)).mp t; omega
    have e2 : ¬ nI (kd i) = (2 : Int32) := fun t => by have := (nI_eq (b := 2) (by omega) (by decide)).mp t; omega
    have e3 : ¬ nI (kd i) = (3 : Int32) := fun t => by have := (nI_eq (b := 3) (by omega) (by decide)).mp t; omega
    rw [if_neg e1, if_neg e2, if_neg e3]
    rfl
  · rw [pe, er]
    exact yNt_r c1 (g.1) (by decide) (by decide)
  · rw [pe] at hp
    exact c2 p hp
  · rw [hh, xwi_i (by decide), xwi_i (by decide), xwi_e]
  · have z : yzSn kd nm (q - 1) (i + 1) = 0 := ybs_0 fun a ⟨o, o1, o2, _⟩ => by rw [hh] at o1; omega
    rw [z, xwi_i (by decide), xwi_e]; rfl
  · have z : yzSv kd vl (i + 1) = 0 := ybs_0 fun a ⟨o, o1, o2, _⟩ => by rw [hh] at o1; omega
    rw [z, xwi_i (by decide), xwi_e]; rfl
  · rw [hh, xwi_e, show i + 1 - i - 1 = 0 by omega]; rfl
  · rw [hh] at o1; omega
  · rw [xwi_i (by decide), xwi_i (by decide), xwi_i (by decide)]
  · rw [xwi_i (by decide), xwi_i (by decide), xwi_i (by decide)]
/-- a name among the POSTS -/
theorem s_cNew {kd st nm vl : Nat → Nat} {K q : Nat} (hS : yzS kd K q) (hnm : ∀ j, kd j = 1 → nm j < 2 ^ 63) (hvl : ∀ j, kd j = 2 → vl j < 10000) {i : Nat} (h1 : 1 ≤ i) (hi : i < q) {m : xmm} (hC : yzC kd nm vl q i m) : ∃ m', fX7_tell_1 (nI (kd i)) (lN (nm i)) (nI (st i)) m = some m' ∧ (yzft kd nm vl (q - 1) i = 0 → yzC kd nm vl q (i + 1) m' ∧ m'.1 1 2 = m.1 1 2 ∧ m'.1 1 3 = m.1 1 3) ∧ (yzft kd nm vl (q - 1) i ≠ 0 → m'.1 1 2 = nI (yzft kd nm vl (q - 1) i) ∧ m'.1 1 3 = nI (st i)) ∧ yfk [3, 4, 8, 9] [2, 3, 12, 13, 14] m m' := by
  obtain ⟨⟨q1, q2, q3, q4⟩, ⟨_, _, k0, kq⟩, names, kb, hd1, _⟩ := hS
  have k1 := names i h1 hi
  have hd := (hd1 i h1 (by omega)).1
  have hd' := (hd1 (i + 1) (by omega) (by omega)).1
  obtain ⟨c1, c2, c3, c4, c5⟩ := hC
  rw [if_pos (by omega)] at c1 c2
  have ft : yzft kd nm vl (q - 1) i = yif (ypa nm (i - 1) (nm i) < i - 1) 3 0 := by
    unfold yzft
    rw [if_pos k1, hd, if_pos k0]
  have pn := s_postNamed (nm := nm) (P := i - 1) (y := nm i) (x := lN (nm i)) (by omega) c1.1 (fun p hp => by
    rw [c2 p hp, lg_cmp_eq, pk_lEQ (hnm _ (names (p + 1) (by omega) (by omega))) (hnm i k1)])
  have h12 : m.1 1 12 = nI 4 := by rw [c3 h1, hd, k0]
  have st0 : ∀ {z : xmm}, fX7_tellPost_1 (lN (nm i)) (nI (st i)) m = some z → fX7_tell_1 (nI (kd i)) (lN (nm i)) (nI (st i)) m = some z := fun {z} hz => by
    apply fX7_tell_1_i
    rw [k1, if_pos (show nI 1 = (1 : Int32) from rfl), h12, if_pos (show nI 4 = (4 : Int32) from rfl), hz]
    rfl
  rw [ft]
  by_cases g : ypa nm (i - 1) (nm i) < i - 1
  · rw [yif_t g]
    refine ⟨xwi (xwi m 1 2 3) 1 3 (nI (st i)), st0 ?_, fun t => absurd t (by decide), fun _ => ⟨by rw [xwi_i (by decide), xwi_e]; rfl, xwi_e _ _ _ _⟩, yfk_f (yfk_f yfk_r (by decide)) (by decide)⟩
    apply fX7_tellPost_1_i
    rw [pn, Option.bind_some]
    unfold ypv
    rw [yif_t g]
    dsimp only
    rw [if_neg (fun t => nI_pos (n := ypa nm (i - 1) (nm i)) (by omega) (by rw [t]; decide)), s_refuse]
    rfl
  · rw [yif_f g]
    have f : yfk [3, 4, 8, 9] [2, 3, 12, 13, 14] m (xwi (xwj m 8 (i - 1) (lN (nm i))) 3 0 (nI i)) := yfk_w (yfk_j yfk_r (by decide)) (by decide) (by decide)
    refine ⟨xwi (xwj m 8 (i - 1) (lN (nm i))) 3 0 (nI i), st0 ?_, fun _ => ⟨⟨?_, fun p hp => ?_, fun _ => ?_, fun t => by omega, fun t => by omega⟩, rfl, rfl⟩, fun t => absurd rfl t, f⟩
    · apply fX7_tellPost_1_i
      rw [pn, Option.bind_some]
      unfold ypv
      rw [yif_f g]
      dsimp only
      have e3 : m.1 3 0 = nI (i - 1) := c1.1
      rw [if_pos rfl, e3, if_neg (by rw [yl8, nI_leI (by decide) (by omega)]; omega), xinb_t (by omega) (by decide), xgd_t, nI_clamp (by omega), xlt_e]
      have e4 : (xwj m 8 (i - 1) (lN (nm i))).1 3 0 = nI (i - 1) := e3
      rw [e4, nI_1, show i - 1 + 1 = i by omega]
      rfl
    · have er : yzER kd nm vl (q - 1) (i + 1) = yzER kd nm vl (q - 1) i := by
        show (if kd i = 1 then (if kd (yhd kd i) = 4 then _ else _) else if kd i = 2 then _ else _) = _
        rw [if_pos k1, hd, if_pos k0]
      rw [if_pos (by omega), er]
      exact ⟨xwi_e _ _ _ _, c1.2.1, fun a ha => c1.2.2 a ha⟩
    · rw [if_pos (by omega)] at hp
      by_cases e : p = i - 1
      · rw [e, show i - 1 + 1 = i by omega]
        exact xwj_e _ _ _ _
      · show (xwj m 8 (i - 1) (lN (nm i))).2 8 p = _
        rw [xwj_n (fun t => e t.2)]
        exact c2 p (by omega)
    · rw [hd', k0]
      exact h12
/-- the ; behind the POSTS -/
theorem s_cSemq {kd st nm vl : Nat → Nat} {K q : Nat} (hS : yzS kd K q) (hnm : ∀ j, kd j = 1 → nm j < 2 ^ 63) (hvl : ∀ j, kd j = 2 → vl j < 10000) {m : xmm} (hC : yzC kd nm vl q q m) (x : Int64) (y : Int32) : fX7_tell_1 (nI (kd q)) x y m = some m ∧ yzft kd nm vl (q - 1) q = 0 ∧ yzC kd nm vl q (q + 1) m := by
  obtain ⟨⟨q1, q2, q3, q4⟩, ⟨_, _, k0, kq⟩, names, kb, hd1, later⟩ := hS
  have hd := (hd1 q q1 (Nat.le_refl q)).1
  have s1 := (hd1 q q1 (Nat.le_refl q)).2
  obtain ⟨c1, c2, c3, c4, c5⟩ := hC
  have s2 : yss kd (q + 1) = 2 := by
    show yfl (yss kd q) (kd q) = 2
    rw [s1, kq]; rfl
  refine ⟨?_, ?_, ?_, fun p hp => ?_, fun _ => ?_, fun _ t => by omega, fun _ t => by omega⟩
  · apply fX7_tell_1_i
    rw [kq, if_neg (show ¬ nI 3 = (1 : Int32) by decide), if_neg (show ¬ nI 3 = (2 : Int32) by decide), if_pos (show nI 3 = (3 : Int32) from rfl), c3 q1, hd, k0, if_neg (show ¬ nI 4 = (7 : Int32) by decide)]
  · unfold yzft
    rw [kq, if_neg (by decide), if_neg (by decide), if_pos rfl, hd, if_neg (by omega)]
  · have er : yzER kd nm vl (q - 1) (q + 1) = yzER kd nm vl (q - 1) q := by
      show (if kd q = 1 then (if kd (yhd kd q) = 4 then _ else _) else if kd q = 2 then _ else _) = _
      rw [if_neg (by omega), if_neg (by omega)]
    rw [if_neg (by omega), er]
    rw [if_pos (Nat.le_refl q)] at c1
    exact c1
  · rw [if_neg (by omega)] at hp
    rw [if_pos (Nat.le_refl q)] at c2
    exact c2 p hp
  · rw [yhd_s (by omega)]
    exact c3 q1
/-- the ; behind a sentence -/
theorem s_cSem {kd st nm vl : Nat → Nat} {K q : Nat} (hS : yzS kd K q) (hnm : ∀ j, kd j = 1 → nm j < 2 ^ 63) (hvl : ∀ j, kd j = 2 → vl j < 10000) {i : Nat} (hq : q < i) (hi : i < K) (h3 : kd i = 3) (hn : ∀ j, j < i → yzft kd nm vl (q - 1) j = 0) {m : xmm} (hC : yzC kd nm vl q i m) (x : Int64) : ∃ m', fX7_tell_1 (nI (kd i)) x (nI (st i)) m = some m' ∧ (yzft kd nm vl (q - 1) i = 0 → yzC kd nm vl q (i + 1) m' ∧ m'.1 1 2 = m.1 1 2 ∧ m'.1 1 3 = m.1 1 3) ∧ (yzft kd nm vl (q - 1) i ≠ 0 → m'.1 1 2 = nI (yzft kd nm vl (q - 1) i) ∧ m'.1 1 3 = nI (st i)) ∧ yfk [3, 4, 8, 9] [2, 3, 12, 13, 14] m m' := by
  obtain ⟨⟨q1, q2, q3, q4⟩, ⟨_, _, k0, kq⟩, names, kb, hd1, later⟩ := hS
  obtain ⟨c1, c2, c3, c4, c5⟩ := hC
  obtain ⟨l1, l2, l3⟩ := later i hq (by omega)
  have t := yfl_t (yss kd i) (by omega) (kd i) (by omega) (kb i hi).2.2
  rw [h3] at t
  have s2 : yss kd (i + 1) = 2 := by
    show yfl (yss kd i) (kd i) = 2
    rw [h3]; omega
  obtain ⟨w1, w2, w3, w4, w5⟩ := l3 (by omega)
  have hk : kd (yhd kd i) = 5 ∨ kd (yhd kd i) = 6 ∨ kd (yhd kd i) = 7 := by
    rcases Nat.lt_or_ge (yss kd i) 6 with g | g
    · have := (w4 (by omega)).1; omega
    · have := (w5 g).1; omega
  rw [if_neg (by omega)] at c1 c2
  have nx : yzC kd nm vl q (i + 1) m := by
    refine ⟨?_, fun p hp => ?_, fun _ => ?_, fun _ t => by omega, fun _ t => by omega⟩
    · have er : yzER kd nm vl (q - 1) (i + 1) = yzER kd nm vl (q - 1) i := by
        show (if kd i = 1 then (if kd (yhd kd i) = 4 then _ else _) else if kd i = 2 then _ else _) = _
        rw [if_neg (by omega), if_neg (by omega)]
      rw [if_neg (by omega), er]
      exact c1
    · rw [if_neg (by omega)] at hp
      exact c2 p hp
    · rw [yhd_s (by omega)]
      exact c3 (by omega)
  have st0 : ∀ {z : xmm}, (if m.1 1 12 = (7 : Int32) then if m.1 3 0 ≤ m.1 1 14 then some m else (fX7_refuse_1 (6 : Int32) (nI (st i)) m).bind fun (w10 : xmm) => some w10 else some m) = some z → fX7_tell_1 (nI (kd i)) x (nI (st i)) m = some z := fun {z} hz => by
    apply fX7_tell_1_i
    rw [h3, if_neg (show ¬ nI 3 = (1 : Int32) by decide), if_neg (show ¬ nI 3 = (2 : Int32) by decide), if_pos (show nI 3 = (3 : Int32) from rfl)]
    exact hz
  have ft : yzft kd nm vl (q - 1) i = (if kd (yhd kd i) = 7 then yif (i - yhd kd i - 1 < q - 1) 6 0 else 0) := by
    unfold yzft
    rw [if_neg (by omega), if_neg (by omega), if_pos h3]
  rw [ft]
  by_cases h7 : kd (yhd kd i) = 7
  · have s6 : 6 ≤ yss kd i := by
      rcases Nat.lt_or_ge (yss kd i) 6 with g | g
      · have := (w4 (by omega)).1; omega
      · exact g
    have cc := c5 hq s6
    have e12 : m.1 1 12 = (7 : Int32) := by rw [c3 (by omega), h7]; rfl
    rw [if_pos h7]
    have e3 : m.1 3 0 = nI (q - 1) := c1.1
    by_cases g : i - yhd kd i - 1 < q - 1
    · rw [yif_t g]
      refine ⟨xwi (xwi m 1 2 6) 1 3 (nI (st i)), st0 ?_, fun t => absurd t (by decide), fun _ => ⟨by rw [xwi_i (by decide), xwi_e]; rfl, xwi_e _ _ _ _⟩, yfk_f (yfk_f yfk_r (by decide)) (by decide)⟩
      rw [if_pos e12, e3, cc.2.1, if_neg (by rw [nI_leI (by omega) (by omega)]; omega), s_refuse]
      rfl
    · rw [yif_f g]
      refine ⟨m, st0 ?_, fun _ => ⟨nx, rfl, rfl⟩, fun t => absurd rfl t, yfk_r⟩
      rw [if_pos e12, e3, cc.2.1, if_pos (by rw [nI_leI (by omega) (by omega)]; omega)]
  · have e12 : ¬ m.1 1 12 = (7 : Int32) := fun t => h7 (by
      rw [c3 (by omega), yl7] at t
      exact (nI_eq (by omega) (by decide)).mp t)
    rw [if_neg h7]
    refine ⟨m, st0 ?_, fun _ => ⟨nx, rfl, rfl⟩, fun t => absurd rfl t, yfk_r⟩
    rw [if_neg e12]
