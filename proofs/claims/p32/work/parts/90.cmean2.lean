/-! what the tokens tell: the class, names and ints of sentences -/
/-- those of a set below p -/
noncomputable def yzb (S p : Nat) : Nat := ybs (fun b => b < p ∧ yb S b) 8
theorem yzb_0 (S : Nat) : yzb S 0 = 0 := ybs_0 fun a h => Nat.not_lt_zero a h.1
theorem yzb_s {S p : Nat} (hp : p < 8) : yzb S (p + 1) = yif (yb S p) (yzb S p ||| 2 ^ p) (yzb S p) := by
  apply ytb_ext
  intro i
  refine yb_bs.trans ?_
  by_cases h : yb S p
  · rw [yif_t h]
    refine Iff.trans ?_ yb_or.symm
    unfold yzb
    rw [yb_bs, yb_pw]
    constructor
    · rintro ⟨t1, t2, t3⟩
      by_cases e : i = p
      · exact Or.inr e
      · exact Or.inl ⟨t1, by omega, t3⟩
    · rintro (⟨t1, t2, t3⟩ | e)
      · exact ⟨t1, by omega, t3⟩
      · exact ⟨by omega, by omega, by rw [e]; exact h⟩
  · rw [yif_f h]
    unfold yzb
    refine Iff.trans ?_ yb_bs.symm
    constructor
    · rintro ⟨t1, t2, t3⟩
      have e : i ≠ p := fun e => h (by rw [← e]; exact t3)
      exact ⟨t1, by omega, t3⟩
    · rintro ⟨t1, t2, t3⟩
      exact ⟨t1, by omega, t3⟩
theorem yzb_e {S P : Nat} (hP : P ≤ 8) (h : ∀ i, yb S i → i < P) : yzb S P = S := by
  apply ytb_ext
  intro i
  refine yb_bs.trans ⟨fun t => t.2.2, fun t => ?_⟩
  have := h i t
  exact ⟨by omega, this, t⟩
theorem s_cJoin {P : Nat} (hP : P ≤ 8) {S c : Nat} (hc : c < P) (hS31 : S < 2 ^ 31) (hSP : ∀ i, yb S i → i < P) {R : Nat → Nat} {s12 : Int32} : ∀ (d p : Nat) (m : xmm), p + d = P → yNt 3 4 P (yjr R (yzb S p) c, 0) m → m.1 1 13 = nI S → m.1 1 12 = s12 → ∃ m', bX7_tellEnd_1_23 (nI c) (nI p) m = some (xwi m' 1 13 (if s12 = (6 : Int32) then nI (S ||| 2 ^ c) else nI (2 ^ c))) ∧ yNt 3 4 P (yjr R S c, 0) m' ∧ yfr [4] m m' := by
  intro d
  induction d with
  | zero =>
    intro p m hd hN h13 h12
    have e : p = P := by omega
    subst e
    rw [yzb_e hP hSP] at hN
    refine ⟨m, ?_, hN, yfr_r⟩
    apply bX7_tellEnd_1_23_i
    have e0 : m.1 3 0 = nI p := hN.1
    rw [e0, if_pos (nI_le (Nat.le_refl p) (by omega)), h12, h13, yI_1shl (by omega), yI_or]
    by_cases g : s12 = (6 : Int32)
    · rw [if_pos g, if_pos g]; rfl
    · rw [if_neg g, if_neg g]; rfl
  | succ d ih =>
    intro p m hd hN h13 h12
    have e0 : m.1 3 0 = nI P := hN.1
    have le : ¬ nI P ≤ nI p := by rw [nI_leI (by omega) (by omega)]; omega
    have cn : fX11_contains (m.1 1 13) (nI p) m = some (yP (yb S p), m) := by
      rw [h13]; exact s_contains hS31 (by omega) m
    by_cases g : yb S p
    · obtain ⟨m1, a1, a2, a3⟩ := s_join hP (show p < P by omega) hc hN
      have N1 : yNt 3 4 P (yjr R (yzb S (p + 1)) c, 0) m1 := yNt_c (fun a => by rw [yzb_s (by omega), yif_t g]; exact yjm_s a) a2
      obtain ⟨m', b1, b2, b3⟩ := ih (p + 1) m1 (by omega) N1 (by rw [yfr_1 a3 1 13 (by decide)]; exact h13) (by rw [yfr_1 a3 1 12 (by decide)]; exact h12)
      refine ⟨m', ?_, b2, yfr_t a3 b3⟩
      apply bX7_tellEnd_1_23_i
      rw [e0, if_neg le, cn, Option.bind_some, yP_t g, if_neg yn10]
      dsimp only
      rw [a1, Option.bind_some, nI_1]
      exact b1
    · rw [show yzb S p = yzb S (p + 1) by rw [yzb_s (by omega), yif_f g]] at hN
      obtain ⟨m', b1, b2, b3⟩ := ih (p + 1) m (by omega) hN h13 h12
      refine ⟨m', ?_, b2, b3⟩
      apply bX7_tellEnd_1_23_i
      rw [e0, if_neg le, cn, Option.bind_some, yP_f g, if_pos rfl]
      dsimp only
      rw [nI_1]
      exact b1
theorem s_cName {kd st nm vl : Nat → Nat} {K q : Nat} (hS : yzS kd K q) (hnm : ∀ j, kd j = 1 → nm j < 2 ^ 63) (hvl : ∀ j, kd j = 2 → vl j < 10000) {i : Nat} (hq : q < i) (hi : i < K) (h1 : kd i = 1) (hn : ∀ j, j < i → yzft kd nm vl (q - 1) j = 0) {m : xmm} (hC : yzC kd nm vl q i m) : ∃ m', fX7_tell_1 (nI (kd i)) (lN (nm i)) (nI (st i)) m = some m' ∧ (yzft kd nm vl (q - 1) i = 0 → yzC kd nm vl q (i + 1) m' ∧ m'.1 1 2 = m.1 1 2 ∧ m'.1 1 3 = m.1 1 3) ∧ (yzft kd nm vl (q - 1) i ≠ 0 → m'.1 1 2 = nI (yzft kd nm vl (q - 1) i) ∧ m'.1 1 3 = nI (st i)) ∧ yfk [3, 4, 8, 9] [2, 3, 12, 13, 14] m m' := by
  obtain ⟨⟨q1, q2, q3, q4⟩, ⟨_, _, k0, kq⟩, names, kb, hd1, later⟩ := hS
  obtain ⟨c1, c2, c3, c4, c5⟩ := hC
  obtain ⟨l1, l2, l3⟩ := later i hq (by omega)
  have t := yfl_t (yss kd i) (by omega) (kd i) (by omega) (kb i hi).2.2
  rw [h1] at t
  have s45 : yss kd (i + 1) = 4 ∨ yss kd (i + 1) = 5 := by
    show yfl (yss kd i) (kd i) = 4 ∨ yfl (yss kd i) (kd i) = 5
    rw [h1]; omega
  obtain ⟨w1, w2, w3, w4, w5⟩ := l3 (by omega)
  obtain ⟨hk, hj⟩ := w4 (by omega)
  rw [if_neg (by omega)] at c1 c2
  have hh : yhd kd (i + 1) = yhd kd i := yhd_s (by omega)
  have own : ∀ o, yhd kd i < o → o < i → ypa nm (q - 1) (nm o) < q - 1 := by
    intro o o1 o2
    have ho := yhd_at (kd := kd) (k := yhd kd i) (by omega) o o1 (fun j a b => by have := hj j a (by omega); omega)
    have f := hn o o2
    unfold yzft at f
    rw [if_pos (hj o o1 o2), ho, if_neg (by omega)] at f
    refine Classical.byContradiction fun n => ?_
    rw [yif_f n] at f
    omega
  have ft : yzft kd nm vl (q - 1) i = yif (ypa nm (q - 1) (nm i) < q - 1) 0 4 := by
    unfold yzft
    rw [if_pos h1, if_neg (by omega)]
  have h12 : m.1 1 12 = nI (kd (yhd kd i)) := c3 (by omega)
  have pn := s_postNamed (nm := nm) (P := q - 1) (y := nm i) (x := lN (nm i)) (by omega) c1.1 (fun p hp => by
    rw [c2 p hp, lg_cmp_eq, pk_lEQ (hnm _ (names (p + 1) (by omega) (by omega))) (hnm i h1)])
  have st0 : ∀ {z : xmm}, fX7_tellEnd_1 (lN (nm i)) (nI (st i)) m = some z → fX7_tell_1 (nI (kd i)) (lN (nm i)) (nI (st i)) m = some z := fun {z} hz => by
    apply fX7_tell_1_i
    have n4 : ¬ nI (kd (yhd kd i)) = (4 : Int32) := fun t => by
      rw [yl4] at t
      have := (nI_eq (by omega) (by decide)).mp t
      omega
    rw [h1, if_pos (show nI 1 = (1 : Int32) from rfl), h12, if_neg n4, hz]
    rfl
  rw [ft]
  by_cases g : ypa nm (q - 1) (nm i) < q - 1
  · rw [yif_t g]
    have SP : ∀ a, yb (yzSn kd nm (q - 1) i) a → a < q - 1 := by
      intro a ha
      obtain ⟨_, o, o1, o2, _, o4⟩ := yb_bs.mp ha
      rw [← o4]
      exact own o o1 o2
    obtain ⟨m', a1, a2, a3⟩ := s_cJoin (R := yzER kd nm vl (q - 1) i) (by omega) g yb_31 SP (q - 1) 0 m (Nat.zero_add _) (yNt_c (fun a => by rw [yzb_0]; exact (yjr_0 a).symm) c1) (c4 hq (by omega) (by omega)) rfl
    have f : yfk [3, 4, 8, 9] [2, 3, 12, 13, 14] m (xwi m' 1 13 (if m.1 1 12 = (6 : Int32) then nI (yzSn kd nm (q - 1) i ||| 2 ^ ypa nm (q - 1) (nm i)) else nI (2 ^ ypa nm (q - 1) (nm i)))) := yfk_f ⟨yfr_m a3 (by decide), fun j _ => yfr_1 a3 1 j (by decide)⟩ (by decide)
    refine ⟨_, st0 ?_, fun _ => ⟨⟨?_, fun p hp => ?_, fun _ => ?_, fun _ _ _ => ?_, fun _ u => by omega⟩, ?_, ?_⟩, fun u => absurd rfl u, f⟩
    · apply fX7_tellEnd_1_i
      rw [pn, Option.bind_some]
      unfold ypv
      rw [yif_t g]
      dsimp only
      rw [if_neg (fun t => nI_pos (n := ypa nm (q - 1) (nm i)) (by omega) (by rw [t]; decide))]
      exact a1
    · have er : yzER kd nm vl (q - 1) (i + 1) = yjr (yzER kd nm vl (q - 1) i) (yzSn kd nm (q - 1) i) (ypa nm (q - 1) (nm i)) := by
        show (if kd i = 1 then (if kd (yhd kd i) = 4 then _ else _) else if kd i = 2 then _ else _) = _
        rw [if_pos h1, if_neg (by omega)]
      rw [if_neg (by omega), er]
      exact yNt_r a2 (yfr_w (L := [1]) yfr_r (by decide)) (by decide) (by decide)
    · rw [if_neg (by omega)] at hp
      have : m'.2 8 p = m.2 8 p := yfr_2 a3 8 p (by decide)
      exact this.trans (c2 p hp)
    · rw [hh, xwi_i (by decide), yfr_1 a3 1 12 (by decide)]
      exact h12
    · rw [xwi_e, h12]
      have e6 : nI (kd (yhd kd i)) = (6 : Int32) ↔ kd (yhd kd i) = 6 := by rw [yl6]; exact nI_eq (by omega) (by decide)
      by_cases g6 : kd (yhd kd i) = 6
      · rw [if_pos (e6.mpr g6)]
        congr 1
        apply ytb_ext
        intro a
        refine yb_or.trans (Iff.trans ?_ yb_bs.symm)
        unfold yzSn
        rw [yb_bs, yb_pw, hh]
        constructor
        · rintro (⟨t1, o, o1, o2, o3, o4⟩ | t)
          · exact ⟨t1, o, o1, by omega, Or.inl g6, o4⟩
          · exact ⟨by omega, i, w2, by omega, Or.inl g6, t.symm⟩
        · rintro ⟨t1, o, o1, o2, o3, o4⟩
          by_cases e : o = i
          · rw [e] at o4; exact Or.inr o4.symm
          · exact Or.inl ⟨t1, o, o1, by omega, Or.inl g6, o4⟩
      · rw [if_neg (fun t => g6 (e6.mp t))]
        congr 1
        apply ytb_ext
        intro a
        refine yb_pw.trans (Iff.trans ?_ yb_bs.symm)
        rw [hh]
        constructor
        · intro t
          exact ⟨by omega, i, w2, by omega, Or.inr rfl, t.symm⟩
        · rintro ⟨t1, o, o1, o2, o3, o4⟩
          have e : o = i := by omega
          rw [e] at o4
          exact o4.symm
    · rw [xwi_i (by decide), yfr_1 a3 1 2 (by decide)]
    · rw [xwi_i (by decide), yfr_1 a3 1 3 (by decide)]
  · rw [yif_f g]
    refine ⟨xwi (xwi m 1 2 4) 1 3 (nI (st i)), st0 ?_, fun t => absurd t (by decide), fun _ => ⟨by rw [xwi_i (by decide), xwi_e]; rfl, xwi_e _ _ _ _⟩, yfk_f (yfk_f yfk_r (by decide)) (by decide)⟩
    apply fX7_tellEnd_1_i
    rw [pn, Option.bind_some]
    unfold ypv
    rw [yif_f g]
    dsimp only
    rw [if_pos rfl, s_refuse]
    rfl
/-- the places of a 'cross' -/
theorem s_cPl {P : Nat} (hP : P ≤ 8) {c v : Nat} (hc : c < P) (hv : v < 8) {w : Nat → Nat} (hw : ∀ p, p < c → w p < 10000) {S R : Nat → Nat} {T : Nat} (hT : T = ybs (fun p => p < c ∧ v < w p) 8) {s13 : Nat} : ∀ (d p : Nat) (m : xmm), p + d = c → yNt 3 4 P (yjr R (yzb T p) c, 0) m → m.1 1 14 = nI c → m.1 1 13 = nI s13 → (∀ p, p < c → m.1 9 p = nI (w p)) → ∃ m', bX7_tellPlace_1_52 (nI v) (nI p) m = some (xwi (xwi (xwi m' 9 c (nI v)) 1 14 (nI (c + 1))) 1 13 (nI (s13 ||| 2 ^ v))) ∧ yNt 3 4 P (yjr R T c, 0) m' ∧ yfr [4] m m' := by
  intro d
  induction d with
  | zero =>
    intro p m hd hN h14 h13 h9
    have e : p = c := by omega
    subst e
    have te : yzb T p = T := by
      rw [hT]
      apply ytb_ext
      intro i
      refine yb_bs.trans ⟨fun t => t.2.2, fun t => ?_⟩
      have t' := yb_bs.mp t
      exact ⟨t'.1, t'.2.1, t⟩
    rw [te] at hN
    refine ⟨m, ?_, hN, yfr_r⟩
    apply bX7_tellPlace_1_52_i
    have x1 : (xwi m 9 p (nI v)).1 1 14 = nI p := by rw [xwi_k (by decide)]; exact h14
    have x2 : (xwi (xwi m 9 p (nI v)) 1 14 (nI (p + 1))).1 1 13 = nI s13 := by rw [xwi_i (by decide), xwi_k (by decide)]; exact h13
    rw [h14, if_pos (nI_le (Nat.le_refl p) (by omega)), xinb_t (by omega) (by decide), xgd_t, nI_clamp (by omega), xlt_e, x1, nI_1, xlt_e, x2, yI_1shl (by omega), yI_or]
    rfl
  | succ d ih =>
    intro p m hd hN h14 h13 h9
    have le : ¬ nI c ≤ nI p := by rw [nI_leI (by omega) (by omega)]; omega
    have wp := hw p (by omega)
    have bt : yb T p ↔ v < w p := by
      rw [hT]
      exact yb_bs.trans ⟨fun t => t.2.2, fun t => ⟨by omega, by omega, t⟩⟩
    have cmp : nI (w p) ≤ nI v ↔ ¬ v < w p := by rw [nI_leI (by omega) (by omega)]; omega
    by_cases g : v < w p
    · obtain ⟨m1, a1, a2, a3⟩ := s_join hP (show p < P by omega) hc hN
      have N1 : yNt 3 4 P (yjr R (yzb T (p + 1)) c, 0) m1 := yNt_c (fun a => by rw [yzb_s (by omega), yif_t (bt.mpr g)]; exact yjm_s a) a2
      obtain ⟨m', b1, b2, b3⟩ := ih (p + 1) m1 (by omega) N1 (by rw [yfr_1 a3 1 14 (by decide)]; exact h14) (by rw [yfr_1 a3 1 13 (by decide)]; exact h13) (fun o ho => by rw [yfr_1 a3 9 o (by decide)]; exact h9 o ho)
      refine ⟨m', ?_, b2, yfr_t a3 b3⟩
      apply bX7_tellPlace_1_52_i
      rw [h14, if_neg le, xinb_t (by omega) (by decide), xgd_t, nI_clamp (by omega), h9 p (by omega), if_neg (fun t => cmp.mp t g), a1, Option.bind_some, nI_1]
      exact b1
    · rw [show yzb T p = yzb T (p + 1) by rw [yzb_s (by omega), yif_f (fun t => g (bt.mp t))]] at hN
      obtain ⟨m', b1, b2, b3⟩ := ih (p + 1) m (by omega) hN h14 h13 h9
      refine ⟨m', ?_, b2, b3⟩
      apply bX7_tellPlace_1_52_i
      rw [h14, if_neg le, xinb_t (by omega) (by decide), xgd_t, nI_clamp (by omega), h9 p (by omega), if_pos (cmp.mpr g), nI_1]
      exact b1
theorem ysb_1 {a b : Nat} (h : b < a) : a + 1 - b - 1 = a - b - 1 + 1 := by omega
/-- of a 'cross' without a FAULT the ints are unlike, and less than the POSTS are many -/
theorem yz_pl {kd nm vl : Nat → Nat} {P h i : Nat} (hd : ∀ o, h < o → o < i → yhd kd o = h) (hk : ∀ o, h < o → o < i → kd o = 2) (hn : ∀ j, j < i → yzft kd nm vl P j = 0) : (∀ o, h < o → o < i → vl o < P) ∧ (∀ o o', h < o → o < o' → o' < i → vl o ≠ vl o') ∧ i - h - 1 ≤ P := by
  have f : ∀ o, h < o → o < i → vl o < P ∧ ¬ ∃ u, h < u ∧ u < o ∧ vl u = vl o := by
    intro o o1 o2
    have z := hn o o2
    unfold yzft at z
    rw [if_neg (by have := hk o o1 o2; omega), if_pos (hk o o1 o2), hd o o1 o2] at z
    by_cases a : P ≤ vl o
    · rw [yif_t a] at z; omega
    · rw [yif_f a] at z
      refine ⟨by omega, fun b => ?_⟩
      rw [yif_t b] at z
      omega
  refine ⟨fun o o1 o2 => (f o o1 o2).1, fun o o' o1 o2 o3 e => (f o' (by omega) o3).2 ⟨o, o1, o2, e⟩, ?_⟩
  exact yph P (i - h - 1) (fun j => vl (h + 1 + j)) (fun j hj => (f (h + 1 + j) (by omega) (by omega)).1) (fun a b hab hb e => (f (h + 1 + b) (by omega) (by omega)).2 ⟨h + 1 + a, by omega, by omega, e⟩)
theorem s_cInt {kd st nm vl : Nat → Nat} {K q : Nat} (hS : yzS kd K q) (hnm : ∀ j, kd j = 1 → nm j < 2 ^ 63) (hvl : ∀ j, kd j = 2 → vl j < 10000) {i : Nat} (hq : q < i) (hi : i < K) (h2 : kd i = 2) (hn : ∀ j, j < i → yzft kd nm vl (q - 1) j = 0) {m : xmm} (hC : yzC kd nm vl q i m) : ∃ m', fX7_tell_1 (nI (kd i)) (lN (vl i)) (nI (st i)) m = some m' ∧ (yzft kd nm vl (q - 1) i = 0 → yzC kd nm vl q (i + 1) m' ∧ m'.1 1 2 = m.1 1 2 ∧ m'.1 1 3 = m.1 1 3) ∧ (yzft kd nm vl (q - 1) i ≠ 0 → m'.1 1 2 = nI (yzft kd nm vl (q - 1) i) ∧ m'.1 1 3 = nI (st i)) ∧ yfk [3, 4, 8, 9] [2, 3, 12, 13, 14] m m' := by
  obtain ⟨⟨q1, q2, q3, q4⟩, ⟨_, _, k0, kq⟩, names, kb, hd1, later⟩ := hS
  obtain ⟨c1, c2, c3, c4, c5⟩ := hC
  obtain ⟨l1, l2, l3⟩ := later i hq (by omega)
  have t := yfl_t (yss kd i) (by omega) (kd i) (by omega) (kb i hi).2.2
  rw [h2] at t
  have s7 : yss kd (i + 1) = 7 := by
    show yfl (yss kd i) (kd i) = 7
    rw [h2]; omega
  obtain ⟨w1, w2, w3, w4, w5⟩ := l3 (by omega)
  obtain ⟨hk, hj⟩ := w5 (by omega)
  rw [if_neg (by omega)] at c1 c2
  have hh : yhd kd (i + 1) = yhd kd i := yhd_s (by omega)
  have hdo : ∀ o, yhd kd i < o → o < i → yhd kd o = yhd kd i := fun o o1 o2 => yhd_at (kd := kd) (k := yhd kd i) (by omega) o o1 (fun j a b => by have := hj j a (by omega); omega)
  obtain ⟨p1, p2, p3⟩ := yz_pl hdo hj hn
  obtain ⟨d1, d2, d3⟩ := c5 hq (by omega)
  have v4 := hvl i h2
  have ft : yzft kd nm vl (q - 1) i = yif (q - 1 ≤ vl i) 5 (yif (∃ o, yhd kd i < o ∧ o < i ∧ vl o = vl i) 3 0) := by
    unfold yzft
    rw [if_neg (by omega), if_pos h2]
  have e3 : m.1 3 0 = nI (q - 1) := c1.1
  have st0 : ∀ {z : xmm}, fX7_tellPlace_1 (nI (vl i)) (nI (st i)) m = some z → fX7_tell_1 (nI (kd i)) (lN (vl i)) (nI (st i)) m = some z := fun {z} hz => by
    apply fX7_tell_1_i
    rw [h2, if_neg (show ¬ nI 2 = (1 : Int32) by decide), if_pos (show nI 2 = (2 : Int32) from rfl), lN_i, hz]
    rfl
  rw [ft]
  by_cases g : q - 1 ≤ vl i
  · rw [yif_t g]
    refine ⟨xwi (xwi m 1 2 5) 1 3 (nI (st i)), st0 ?_, fun t => absurd t (by decide), fun _ => ⟨by rw [xwi_i (by decide), xwi_e]; rfl, xwi_e _ _ _ _⟩, yfk_f (yfk_f yfk_r (by decide)) (by decide)⟩
    apply fX7_tellPlace_1_i
    rw [if_neg (nI_pos (by omega)), e3, if_neg (by rw [nI_ltI (by omega) (by omega)]; omega), s_refuse]
    rfl
  rw [yif_f g]
  have cn : fX11_contains (m.1 1 13) (nI (vl i)) m = some (yP (yb (yzSv kd vl i) (vl i)), m) := by
    rw [d1]; exact s_contains yb_31 (by omega) m
  have bt : yb (yzSv kd vl i) (vl i) ↔ ∃ o, yhd kd i < o ∧ o < i ∧ vl o = vl i := yb_bs.trans ⟨fun t => t.2, fun t => ⟨by omega, t⟩⟩
  have st1 : ∀ {z : xmm}, (if yP (yb (yzSv kd vl i) (vl i)) = 0 then if m.1 1 14 < (8 : Int32) then bX7_tellPlace_1_52 (nI (vl i)) (0 : Int32) m else some m else (fX7_refuse_1 (3 : Int32) (nI (st i)) m).bind fun (w5 : xmm) => some w5) = some z → fX7_tellPlace_1 (nI (vl i)) (nI (st i)) m = some z := fun {z} hz => by
    apply fX7_tellPlace_1_i
    rw [if_neg (nI_pos (by omega)), e3, if_pos (by rw [nI_ltI (by omega) (by omega)]; omega), cn, Option.bind_some]
    exact hz
  by_cases g2 : ∃ o, yhd kd i < o ∧ o < i ∧ vl o = vl i
  · rw [yif_t g2]
    refine ⟨xwi (xwi m 1 2 3) 1 3 (nI (st i)), st0 (st1 ?_), fun t => absurd t (by decide), fun _ => ⟨by rw [xwi_i (by decide), xwi_e]; rfl, xwi_e _ _ _ _⟩, yfk_f (yfk_f yfk_r (by decide)) (by decide)⟩
    rw [yP_t (bt.mpr g2), if_neg yn10, s_refuse]
    rfl
  · rw [yif_f g2]
    have cP : i - yhd kd i - 1 < q - 1 := by
      have r := yph (q - 1) (i - yhd kd i - 1 + 1) (fun j => vl (yhd kd i + 1 + j)) (fun j hj => by
        show vl (yhd kd i + 1 + j) < q - 1
        by_cases e : yhd kd i + 1 + j = i
        · rw [e]; omega
        · exact p1 _ (by omega) (by omega)) (fun a b hab hb => by
        show vl (yhd kd i + 1 + a) ≠ vl (yhd kd i + 1 + b)
        by_cases e : yhd kd i + 1 + b = i
        · rw [e]; exact fun t => g2 ⟨_, by omega, by omega, t⟩
        · exact p2 _ _ (by omega) (by omega) (by omega))
      omega
    obtain ⟨m', a1, a2, a3⟩ := s_cPl (P := q - 1) (by omega) (c := i - yhd kd i - 1) (v := vl i) cP (by omega) (w := fun p => vl (yhd kd i + 1 + p)) (fun p hp => by have := p1 (yhd kd i + 1 + p) (by omega) (by omega); show vl (yhd kd i + 1 + p) < 10000; omega) (S := fun _ => 0) (R := yzER kd nm vl (q - 1) i) (T := yzSx kd vl i) rfl (s13 := yzSv kd vl i) (i - yhd kd i - 1) 0 m (Nat.zero_add _) (yNt_c (fun a => by rw [yzb_0]; exact (yjr_0 a).symm) c1) d2 d1 (fun p hp => by
      have := d3 (yhd kd i + 1 + p) (by omega) (by omega)
      rw [show yhd kd i + 1 + p - yhd kd i - 1 = p by omega] at this
      exact this)
    have f : yfk [3, 4, 8, 9] [2, 3, 12, 13, 14] m (xwi (xwi (xwi m' 9 (i - yhd kd i - 1) (nI (vl i))) 1 14 (nI (i - yhd kd i - 1 + 1))) 1 13 (nI (yzSv kd vl i ||| 2 ^ vl i))) := yfk_f (yfk_f (yfk_w ⟨yfr_m a3 (by decide), fun j _ => yfr_1 a3 1 j (by decide)⟩ (by decide) (by decide)) (by decide)) (by decide)
    refine ⟨_, st0 (st1 ?_), fun _ => ⟨⟨?_, fun p hp => ?_, fun _ => ?_, fun _ _ u => by omega, fun _ _ => ⟨?_, ?_, fun o o1 o2 => ?_⟩⟩, ?_, ?_⟩, fun u => absurd rfl u, f⟩
    · rw [yP_f (fun t => g2 (bt.mp t)), if_pos rfl, d2, if_pos (by rw [yl8, nI_ltI (by omega) (by decide)]; omega)]
      exact a1
    · have er : yzER kd nm vl (q - 1) (i + 1) = yjr (yzER kd nm vl (q - 1) i) (yzSx kd vl i) (i - yhd kd i - 1) := by
        show (if kd i = 1 then (if kd (yhd kd i) = 4 then _ else _) else if kd i = 2 then _ else _) = _
        rw [if_neg (by omega), if_pos h2]
      rw [if_neg (by omega), er]
      exact yNt_r a2 (yfr_w (L := [1, 9]) (yfr_w (yfr_w yfr_r (by decide)) (by decide)) (by decide)) (by decide) (by decide)
    · rw [if_neg (by omega)] at hp
      have : m'.2 8 p = m.2 8 p := yfr_2 a3 8 p (by decide)
      exact this.trans (c2 p hp)
    · rw [hh, xwi_i (by decide), xwi_i (by decide), xwi_k (by decide), yfr_1 a3 1 12 (by decide)]
      exact c3 (by omega)
    · rw [xwi_e]
      congr 1
      apply ytb_ext
      intro a
      refine yb_or.trans (Iff.trans ?_ yb_bs.symm)
      unfold yzSv
      rw [yb_bs, yb_pw, hh]
      constructor
      · rintro (⟨t1, o, o1, o2, o3⟩ | t)
        · exact ⟨t1, o, o1, by omega, o3⟩
        · exact ⟨by omega, i, w2, by omega, t.symm⟩
      · rintro ⟨t1, o, o1, o2, o3⟩
        by_cases e : o = i
        · rw [e] at o3; exact Or.inr o3.symm
        · exact Or.inl ⟨t1, o, o1, by omega, o3⟩
    · rw [hh, xwi_i (by decide), xwi_e, ysb_1 w2]
    · rw [hh] at o1 ⊢
      rw [xwi_k (by decide), xwi_k (by decide)]
      by_cases e : o = i
      · rw [e, xwi_e]
      · rw [xwi_i (by omega), yfr_1 a3 9 _ (by decide)]
        exact d3 o o1 (by omega)
    · rw [xwi_i (by decide), xwi_i (by decide), xwi_k (by decide), yfr_1 a3 1 2 (by decide)]
    · rw [xwi_i (by decide), xwi_i (by decide), xwi_k (by decide), yfr_1 a3 1 3 (by decide)]
