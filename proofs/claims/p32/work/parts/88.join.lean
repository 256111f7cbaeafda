/-! LINES that a text tells, names looked for: both sides -/
theorem yzn_f {Q : Nat → Prop} : ∀ f i, i ≤ yzn Q f i ∧ yzn Q f i ≤ i + f ∧ (∀ k, i ≤ k → k < yzn Q f i → Q k) ∧ (yzn Q f i < i + f → ¬ Q (yzn Q f i))
  | 0, i => ⟨Nat.le_refl i, Nat.le_refl i, fun k a b => by have b' : k < i := b; omega, fun a => by have a' : i < i := a; omega⟩
  | f + 1, i => by
    show i ≤ yif (Q i) (yzn Q f (i + 1)) i ∧ yif (Q i) (yzn Q f (i + 1)) i ≤ i + (f + 1) ∧ (∀ k, i ≤ k → k < yif (Q i) (yzn Q f (i + 1)) i → Q k) ∧ (yif (Q i) (yzn Q f (i + 1)) i < i + (f + 1) → ¬ Q (yif (Q i) (yzn Q f (i + 1)) i))
    by_cases h : Q i
    · rw [yif_t h]
      obtain ⟨a, b, c, d⟩ := yzn_f (Q := Q) f (i + 1)
      refine ⟨by omega, by omega, fun k k1 k2 => ?_, fun t => d (by omega)⟩
      by_cases e : k = i
      · rw [e]; exact h
      · exact c k (by omega) k2
    · rw [yif_f h]
      exact ⟨Nat.le_refl i, by omega, fun k a b => by omega, fun _ => h⟩
/-- the first of the first P names that is x, or P -/
noncomputable def ypa (nm : Nat → Nat) (P x : Nat) : Nat := yzn (fun p => nm (p + 1) ≠ x) P 0
theorem ypa_s (nm : Nat → Nat) (P x : Nat) : ypa nm P x ≤ P ∧ (∀ k, k < ypa nm P x → nm (k + 1) ≠ x) ∧ (ypa nm P x < P → nm (ypa nm P x + 1) = x) := by
  obtain ⟨a, b, c, d⟩ := yzn_f (Q := fun p => nm (p + 1) ≠ x) P 0
  exact ⟨by have : ypa nm P x ≤ 0 + P := b; omega, fun k hk => c k (Nat.zero_le k) hk, fun t => Classical.byContradiction fun n => d (by show ypa nm P x < 0 + P; omega) n⟩
noncomputable def ypv (nm : Nat → Nat) (P x : Nat) : Int32 := yif (ypa nm P x < P) (nI (ypa nm P x)) (-1)
theorem s_postNamed {nm : Nat → Nat} {P y : Nat} (hP : P ≤ 8) {x : Int64} {m : xmm} (h0 : m.1 3 0 = nI P) (hx : ∀ p, p < P → (lg_cmp (m.2 8 p) x = 0 ↔ nm (p + 1) = y)) : fX7_postNamed_1 x m = some (ypv nm P y, m) := by
  obtain ⟨s1, s2, s3⟩ := ypa_s nm P y
  have l : ∀ (d v : Nat), v + d = ypa nm P y → bX7_postNamed_1_2 x (nI v) m = some (ypv nm P y, m) := by
    intro d
    induction d with
    | zero =>
      intro v hv
      have e : v = ypa nm P y := by omega
      apply bX7_postNamed_1_2_i
      unfold ypv
      rw [h0]
      by_cases g : ypa nm P y < P
      · have le : ¬ nI P ≤ nI v := by rw [nI_leI (by omega) (by omega)]; omega
        rw [if_neg le, s_hasPost ynet3 hP (nI v) h0, yP_t ⟨v, by omega, rfl⟩, Option.bind_some, if_neg yn10]
        dsimp only
        rw [xinb_t (by omega) (by decide), nI_clamp (by omega), xgd_t, if_pos ((hx v (by omega)).mpr (by rw [e]; exact s3 g)), yif_t g, e]
      · rw [if_pos (nI_le (by omega) (by omega)), yif_f g]
    | succ d ih =>
      intro v hv
      have e := ih (v + 1) (by omega)
      apply bX7_postNamed_1_2_i
      have le : ¬ nI P ≤ nI v := by rw [nI_leI (by omega) (by omega)]; omega
      rw [h0, if_neg le, s_hasPost ynet3 hP (nI v) h0, yP_t ⟨v, by omega, rfl⟩, Option.bind_some, if_neg yn10]
      dsimp only
      rw [xinb_t (by omega) (by decide), nI_clamp (by omega), xgd_t, if_neg (fun t => s2 v (by omega) ((hx v (by omega)).mp t)), nI_1]
      exact e
  apply fX7_postNamed_1_i
  exact l _ 0 (Nat.zero_add _)
/-- one line, and lines from c to all of a set -/
def yj1 (R : Nat → Nat) (p c : Nat) : Nat → Nat := fun a => if a = p then R a ||| 2 ^ c else if a = c then R a ||| 2 ^ p else R a
noncomputable def yjr (R : Nat → Nat) (S c : Nat) : Nat → Nat := fun a => yif (a = c) (R a ||| ynd S (2 ^ c)) (yif (yb S a) (R a ||| 2 ^ c) (R a))
theorem yjr_b {R : Nat → Nat} {S c a b : Nat} : yb (yjr R S c a) b ↔ yb (R a) b ∨ (a = c ∧ yb S b ∧ b ≠ c) ∨ (a ≠ c ∧ yb S a ∧ b = c) := by
  unfold yjr
  by_cases h : a = c
  · rw [yif_t h, yb_or, yb_nd, yb_pw]
    constructor
    · rintro (t | ⟨t1, t2⟩)
      · exact Or.inl t
      · exact Or.inr (Or.inl ⟨h, t1, t2⟩)
    · rintro (t | ⟨_, t1, t2⟩ | ⟨t, _⟩)
      · exact Or.inl t
      · exact Or.inr ⟨t1, t2⟩
      · exact absurd h t
  · rw [yif_f h]
    by_cases g : yb S a
    · rw [yif_t g, yb_or, yb_pw]
      constructor
      · rintro (t | t)
        · exact Or.inl t
        · exact Or.inr (Or.inr ⟨h, g, t⟩)
      · rintro (t | ⟨t, _⟩ | ⟨_, _, t⟩)
        · exact Or.inl t
        · exact absurd t h
        · exact Or.inr t
    · rw [yif_f g]
      constructor
      · exact Or.inl
      · rintro (t | ⟨t, _⟩ | ⟨_, t, _⟩)
        · exact t
        · exact absurd t h
        · exact absurd t g
theorem yj1_b {R : Nat → Nat} {p c a b : Nat} (hpc : p ≠ c) : yb (yj1 R p c a) b ↔ yb (R a) b ∨ (a = p ∧ b = c) ∨ (a = c ∧ b = p) := by
  unfold yj1
  by_cases h : a = p
  · rw [if_pos h, yb_or, yb_pw]
    constructor
    · rintro (t | t)
      · exact Or.inl t
      · exact Or.inr (Or.inl ⟨h, t⟩)
    · rintro (t | ⟨_, t⟩ | ⟨t, _⟩)
      · exact Or.inl t
      · exact Or.inr t
      · exact absurd (h.symm.trans t) hpc
  · rw [if_neg h]
    by_cases g : a = c
    · rw [if_pos g, yb_or, yb_pw]
      constructor
      · rintro (t | t)
        · exact Or.inl t
        · exact Or.inr (Or.inr ⟨g, t⟩)
      · rintro (t | ⟨t, _⟩ | ⟨_, t⟩)
        · exact Or.inl t
        · exact absurd t h
        · exact Or.inr t
    · rw [if_neg g]
      constructor
      · exact Or.inl
      · rintro (t | ⟨t, _⟩ | ⟨t, _⟩)
        · exact t
        · exact absurd t h
        · exact absurd t g
theorem yjr_s {R : Nat → Nat} {S p c : Nat} (hpc : p ≠ c) (a : Nat) : yj1 (yjr R S c) p c a = yjr R (S ||| 2 ^ p) c a := by
  apply ytb_ext
  intro b
  refine (yj1_b hpc).trans (Iff.trans ?_ yjr_b.symm)
  rw [yjr_b, yb_or, yb_pw, yb_or, yb_pw]
  constructor
  · rintro ((t | ⟨t1, t2, t3⟩ | ⟨t1, t2, t3⟩) | ⟨t1, t2⟩ | ⟨t1, t2⟩)
    · exact Or.inl t
    · exact Or.inr (Or.inl ⟨t1, Or.inl t2, t3⟩)
    · exact Or.inr (Or.inr ⟨t1, Or.inl t2, t3⟩)
    · exact Or.inr (Or.inr ⟨fun e => hpc (t1.symm.trans e), Or.inr t1, t2⟩)
    · exact Or.inr (Or.inl ⟨t1, Or.inr t2, fun e => hpc (t2.symm.trans e)⟩)
  · rintro (t | ⟨t1, t2 | t2, t3⟩ | ⟨t1, t2 | t2, t3⟩)
    · exact Or.inl (Or.inl t)
    · exact Or.inl (Or.inr (Or.inl ⟨t1, t2, t3⟩))
    · exact Or.inr (Or.inr ⟨t1, t2⟩)
    · exact Or.inl (Or.inr (Or.inr ⟨t1, t2, t3⟩))
    · exact Or.inr (Or.inl ⟨t2, t3⟩)
theorem yjr_c {R : Nat → Nat} {S c : Nat} (a : Nat) : yjr R (S ||| 2 ^ c) c a = yjr R S c a := by
  apply ytb_ext
  intro b
  refine yjr_b.trans (Iff.trans ?_ yjr_b.symm)
  rw [yb_or, yb_pw, yb_or, yb_pw]
  constructor
  · rintro (t | ⟨t1, t2 | t2, t3⟩ | ⟨t1, t2 | t2, t3⟩)
    · exact Or.inl t
    · exact Or.inr (Or.inl ⟨t1, t2, t3⟩)
    · exact absurd t2 t3
    · exact Or.inr (Or.inr ⟨t1, t2, t3⟩)
    · exact absurd t2 t1
  · rintro (t | ⟨t1, t2, t3⟩ | ⟨t1, t2, t3⟩)
    · exact Or.inl t
    · exact Or.inr (Or.inl ⟨t1, Or.inl t2, t3⟩)
    · exact Or.inr (Or.inr ⟨t1, Or.inl t2, t3⟩)
theorem yjr_0 {R : Nat → Nat} {c : Nat} (a : Nat) : yjr R 0 c a = R a := by
  apply ytb_ext
  intro b
  refine yjr_b.trans ?_
  constructor
  · rintro (t | ⟨_, t, _⟩ | ⟨_, t, _⟩)
    · exact t
    · exact absurd t yb_0
    · exact absurd t yb_0
  · exact Or.inl
/-- one more of the set -/
noncomputable def yjm (R : Nat → Nat) (p c : Nat) : Nat → Nat := fun a => if p = c then R a else yj1 R p c a
theorem yjm_s {R : Nat → Nat} {S p c : Nat} (a : Nat) : yjm (yjr R S c) p c a = yjr R (S ||| 2 ^ p) c a := by
  unfold yjm
  by_cases e : p = c
  · rw [if_pos e, e, yjr_c]
  · rw [if_neg e]; exact yjr_s e a
theorem yjm_c {R R' : Nat → Nat} {p c : Nat} {a : Nat} (h : R a = R' a) : yjm R p c a = yjm R' p c a := by
  unfold yjm yj1
  rw [h]
theorem yjr_gr {n : Nat} {R : Nat → Nat} (hG : yGr n R) {S c : Nat} (hc : c < n) (hS : ∀ i, yb S i → i < n) : yGr n (yjr R S c) := by
  have bit : ∀ a b, yb (yjr R S c a) b → a < n ∧ b < n := by
    intro a b t
    rcases yjr_b.mp t with t | ⟨t1, t2, t3⟩ | ⟨t1, t2, t3⟩
    · exact yGr_n hG t
    · exact ⟨by omega, hS b t2⟩
    · exact ⟨hS a t2, by omega⟩
  refine ⟨hG.1, fun p => ytb_lt fun i hi => (bit p i hi).2, fun p hp => ?_, fun a b t => ?_, fun a t => ?_⟩
  · refine Classical.byContradiction fun hne => ?_
    obtain ⟨i, hi⟩ := yex_ne hne
    have := (bit p i hi).1
    omega
  · have t' : yb (yjr R S c a) b := t
    show yb (yjr R S c b) a
    rw [yjr_b] at t' ⊢
    rcases t' with t | ⟨t1, t2, t3⟩ | ⟨t1, t2, t3⟩
    · exact Or.inl (hG.2.2.2.1 a b t)
    · exact Or.inr (Or.inr ⟨t3, t2, t1⟩)
    · exact Or.inr (Or.inl ⟨t3, t2, t1⟩)
  · have t' : yb (yjr R S c a) a := t
    rw [yjr_b] at t'
    rcases t' with t | ⟨t1, t2, t3⟩ | ⟨t1, t2, t3⟩
    · exact hG.2.2.2.2 a t
    · exact t3 t1
    · exact t1 t3
theorem s_join {P : Nat} (hP : P ≤ 8) {R : Nat → Nat} {p c : Nat} (hp : p < P) (hc : c < P) {m : xmm} (hN : yNt 3 4 P (R, 0) m) : ∃ m', fX3_join 3 (nI p) (nI c) m = some m' ∧ yNt 3 4 P (yjm R p c, 0) m' ∧ yfr [4] m m' := by
  have n3 : Nat.beq 3 1999 = false := rfl
  have o3 : xob 3 3 = true := rfl
  have r3 : xR0 3 2 = 5 := rfl
  have n1 : ¬ (1 : Int32) = 0 := by decide
  by_cases e : p = c
  · refine ⟨m, ?_, ⟨hN.1, hN.2.1, fun a ha => by
      show m.1 4 a = nI (if p = c then R a else yj1 R p c a)
      rw [if_pos e]; exact hN.2.2 a ha⟩, yfr_r⟩
    have pr : ¬ yPr2 P (nI p) (nI c) := fun ⟨a, b, a1, b1, ab, e1, e2⟩ => ab (by
      have f1 := (nI_eq (by omega) (by omega)).mp e1
      have f2 := (nI_eq (by omega) (by omega)).mp e2
      omega)
    apply fX3_join_i
    simp only [s_hasPair ynet3 hP (nI p) (nI c) hN.1, yP_f pr, n3, o3, Bool.not_false, xgd_t, Option.bind_some, if_true]
  · have pr : yPr2 P (nI p) (nI c) := ⟨p, c, hp, hc, e, rfl, rfl⟩
    have i1 : xia 1 4 (nI p) = true := xia_t (n := 8) rfl (by omega) (by decide)
    have i2 : xia 1 4 (nI c) = true := xia_t (n := 8) rfl (by omega) (by decide)
    have hR : ∀ a, a < 8 → m.1 4 a = nI (R a) := hN.2.2
    have x1 : (xwi m 4 p (nI (R p ||| 2 ^ c))).1 4 c = nI (R c) := by rw [xwi_i (fun t => e t.symm)]; exact hR c (by omega)
    have f : yfr [4] m (xwi (xwi m 4 p (nI (R p ||| 2 ^ c))) 4 c (nI (R c ||| 2 ^ p))) := yfr_w (yfr_w yfr_r (by decide)) (by decide)
    refine ⟨xwi (xwi m 4 p (nI (R p ||| 2 ^ c))) 4 c (nI (R c ||| 2 ^ p)), ?_, ⟨by rw [yfr_1 f 3 0 (by decide)]; exact hN.1, by rw [yfr_1 f 3 1 (by decide)]; exact hN.2.1, fun a ha => ?_⟩, f⟩
    · apply fX3_join_i
      simp (disch := omega) only [yl3, yl4, yl5, yl6, yl7, yl8, yl9, yl10, yl13, yl16, yl20, yl21, yl22, yl23, yl24, yl32, yl40, yl48, yl57, yl59, yl63, yl64, yl97, yl99, yl122, yl255, yl256, yl400, yl1000, yl2000, yl2048, yc0_eq, yc0_eq2, yc0_le, yc0_ge, yc0_lt, yc0_gt, yc0_ad, yc0_da, yc0_sb, yc0_ml, yc0_lm, yc1_eq, yc1_eq2, yc1_le, yc1_ge, yc1_lt, yc1_gt, yc1_ad, yc1_da, yc1_sb, yc1_ml, yc1_lm, yc2_eq, yc2_eq2, yc2_le, yc2_ge, yc2_lt, yc2_gt, yc2_ad, yc2_da, yc2_sb, yc2_ml, yc2_lm, yc31_ge, ymodn, yI_1sl, yc2_dv, yn1_eq, yn1_lt, xgd_t, xlt_e, Option.bind_some, nI_add, pk_mul, pk_sub, pk_div, pk_rem, yI_and, yI_or, yI_xor, yI_nd, yI_nd2, yI_31, yI_shl, nI_leI, nI_ltI, nI_eq, nI_clamp, xinb_t, yP_z, yP_if, s_hasPair ynet3 hP (nI p) (nI c) hN.1, yP_t pr, n3, o3, r3, xgr, Bool.not_false, n1, if_false, i1, i2, hR p, yI_1shl, x1]
    · show _ = nI (if p = c then R a else yj1 R p c a)
      rw [if_neg e]
      unfold yj1
      by_cases e1 : a = p
      · subst e1
        rw [if_pos rfl, xwi_i e, xwi_e]
      · by_cases e2 : a = c
        · subst e2
          rw [if_neg e1, if_pos rfl, xwi_e]
        · rw [if_neg e1, if_neg e2, xwi_i e2, xwi_i e1]
          exact hR a ha
