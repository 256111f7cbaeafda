/-! parts of a set; CHAINS that take all -/
theorem ysub_next : ∀ (k S own w : Nat), S < 2 ^ k → own &&& S = own → w &&& S = w → w < own → w ≤ (own - 1) &&& S := by
  intro k
  induction k with
  | zero =>
    intro S own w hS h1 h2 h3
    have : S = 0 := by omega
    subst this
    rw [Nat.and_zero] at h1
    omega
  | succ k ih =>
    intro S own w hS h1 h2 h3
    have d1 : own / 2 &&& S / 2 = own / 2 := by rw [← Nat.and_div_two, h1]
    have d2 : w / 2 &&& S / 2 = w / 2 := by rw [← Nat.and_div_two, h2]
    have p1 : own % 2 = 1 → S % 2 = 1 := fun e => by
      have : (own &&& S) % 2 = 1 := by rw [h1]; exact e
      exact (Nat.and_mod_two_eq_one.mp this).2
    have p2 : w % 2 = 1 → S % 2 = 1 := fun e => by
      have : (w &&& S) % 2 = 1 := by rw [h2]; exact e
      exact (Nat.and_mod_two_eq_one.mp this).2
    have q : ((own - 1) &&& S) / 2 = (own - 1) / 2 &&& S / 2 := Nat.and_div_two
    by_cases hb : own % 2 = 1
    · have e1 : (own - 1) / 2 = own / 2 := by omega
      rw [e1, d1] at q
      omega
    · have e1 : (own - 1) / 2 = own / 2 - 1 := by omega
      have hs2 : S / 2 < 2 ^ k := by
        have : 2 ^ (k + 1) = 2 * 2 ^ k := by rw [Nat.pow_succ, Nat.mul_comm]
        omega
      have i := ih (S / 2) (own / 2) (w / 2) hs2 d1 d2 (by omega)
      rw [e1] at q
      rw [← q] at i
      by_cases hw : w % 2 = 1
      · have hs := p2 hw
        have : ((own - 1) &&& S) % 2 = 1 := Nat.and_mod_two_eq_one.mpr ⟨by omega, hs⟩
        omega
      · omega
theorem ysb_an {w S : Nat} : ysb w S ↔ w &&& S = w := by
  constructor
  · intro h
    apply ytb_ext
    intro i
    have := yb_an (A := w) (B := S) (a := i)
    exact ⟨fun e => (this.mp e).1, fun e => this.mpr ⟨e, h i e⟩⟩
  · intro h a ha
    have : yb (w &&& S) a := by rw [h]; exact ha
    exact (yb_an.mp this).2
theorem yxor_nd {S w : Nat} (h : ysb w S) : S ^^^ w = ynd S w := by
  unfold ynd
  rw [Nat.and_comm, ysb_an.mp h]
/-! sharing out -/
def ycpt (R : Nat → Nat) (g p : Nat) : Prop := ∀ q, yb g q → yad R p q
def ygu (gs : Nat → Nat) (g p : Nat) : Nat → Nat := fun j => if j = g then gs g ||| 2 ^ p else gs j
theorem ygu_e (gs : Nat → Nat) (g p : Nat) : ygu gs g p g = gs g ||| 2 ^ p := if_pos rfl
theorem ygu_n {gs : Nat → Nat} {g p j : Nat} (h : j ≠ g) : ygu gs g p j = gs j := if_neg h
theorem ygu_b {gs : Nat → Nat} {g p j q : Nat} : yb (ygu gs g p j) q ↔ yb (gs j) q ∨ (j = g ∧ q = p) := by
  by_cases e : j = g
  · subst e
    rw [ygu_e, yb_or, yb_pw]
    exact ⟨fun h => h.elim Or.inl fun h => Or.inr ⟨rfl, h⟩, fun h => h.elim Or.inl fun h => Or.inr h.2⟩
  · rw [ygu_n e]
    exact ⟨Or.inl, fun h => h.elim id fun h => absurd h.1 e⟩
/-- the posts from p on can still be shared out -/
def yEx (R : Nat → Nat) (n c p : Nat) (gs : Nat → Nat) : Prop := ∃ f : Nat → Nat, (∀ q, p ≤ q → q < n → f q < c ∧ ycpt R (gs (f q)) q) ∧ ∀ q r, p ≤ q → q < r → r < n → f q = f r → yad R q r
theorem yEx_n (R : Nat → Nat) (n c : Nat) (gs : Nat → Nat) : yEx R n c n gs := ⟨fun _ => 0, fun q h1 h2 => by omega, fun q r h1 h2 h3 => by omega⟩
theorem yEx_s {R : Nat → Nat} (hsy : ysy (yad R)) {n c p : Nat} {gs : Nat → Nat} (hp : p < n) : yEx R n c p gs ↔ ∃ g, g < c ∧ ycpt R (gs g) p ∧ yEx R n c (p + 1) (ygu gs g p) := by
  constructor
  · rintro ⟨f, h1, h2⟩
    obtain ⟨a1, a2⟩ := h1 p (Nat.le_refl p) hp
    refine ⟨f p, a1, a2, f, fun q hq hqn => ⟨(h1 q (by omega) hqn).1, fun r hr => ?_⟩, fun q r hq hqr hr => h2 q r (by omega) hqr hr⟩
    rcases ygu_b.mp hr with e | ⟨e1, e2⟩
    · exact (h1 q (by omega) hqn).2 r e
    · subst e2
      exact hsy.1 _ _ (h2 r q (Nat.le_refl r) (by omega) hqn e1.symm)
  · rintro ⟨g, g1, g2, f, h1, h2⟩
    refine ⟨fun q => if q = p then g else f q, fun q hq hqn => ?_, fun q r hq hqr hr hf => ?_⟩
    · dsimp only
      by_cases e : q = p
      · subst e
        rw [if_pos rfl]; exact ⟨g1, g2⟩
      · rw [if_neg e]
        obtain ⟨a1, a2⟩ := h1 q (by omega) hqn
        exact ⟨a1, fun r hr => a2 r (ygu_b.mpr (Or.inl hr))⟩
    · dsimp only at hf
      rw [if_neg (by omega : ¬ r = p)] at hf
      by_cases e : q = p
      · subst e
        rw [if_pos rfl] at hf
        exact hsy.1 _ _ ((h1 r (by omega) hr).2 q (ygu_b.mpr (Or.inr ⟨hf.symm, rfl⟩)))
      · rw [if_neg e] at hf
        exact h2 q r (by omega) hqr hr hf
/-- an empty group is as any other empty one -/
theorem yEx_sw {R : Nat → Nat} {n c p a b : Nat} {gs : Nat → Nat} (ha : a < c) (hb : b < c) (h0 : gs a = 0) (h1 : gs b = 0) (h : yEx R n c (p + 1) (ygu gs b p)) : yEx R n c (p + 1) (ygu gs a p) := by
  by_cases hab : a = b
  · subst hab; exact h
  obtain ⟨f, f1, f2⟩ := h
  let sw : Nat → Nat := fun j => if j = a then b else if j = b then a else j
  have swa : sw a = b := if_pos rfl
  have swb : sw b = a := by show (if b = a then b else if b = b then a else b) = a; rw [if_neg (fun e => hab e.symm), if_pos rfl]
  have swn : ∀ j, j ≠ a → j ≠ b → sw j = j := fun j h1 h2 => by show (if j = a then b else if j = b then a else j) = j; rw [if_neg h1, if_neg h2]
  have sw_inj : ∀ i j, sw i = sw j → i = j := by
    have inv : ∀ i, sw (sw i) = i := by
      intro i
      by_cases e1 : i = a
      · rw [e1, swa, swb]
      · by_cases e2 : i = b
        · rw [e2, swb, swa]
        · rw [swn i e1 e2, swn i e1 e2]
    intro i j e
    rw [← inv i, e, inv j]
  have key : ∀ j q, yb (ygu gs a p (sw j)) q → yb (ygu gs b p j) q := by
    intro j q hq
    by_cases e1 : j = a
    · subst e1
      rw [swa, ygu_n (fun e => hab e.symm), h1] at hq
      exact absurd hq yb_0
    · by_cases e2 : j = b
      · subst e2
        rw [swb, ygu_e, h0] at hq
        rw [ygu_e, h1]
        exact hq
      · rw [swn j e1 e2, ygu_n e1] at hq
        rw [ygu_n e2]
        exact hq
  refine ⟨fun q => sw (f q), fun q hq hqn => ?_, fun q r hq hqr hr e => f2 q r hq hqr hr (sw_inj _ _ e)⟩
  obtain ⟨b1, b2⟩ := f1 q hq hqn
  refine ⟨?_, fun r hr => b2 r (key _ r hr)⟩
  by_cases e1 : f q = a
  · show sw (f q) < c
    rw [e1, swa]; exact hb
  · by_cases e2 : f q = b
    · show sw (f q) < c
      rw [e2, swb]; exact ha
    · show sw (f q) < c
      rw [swn _ e1 e2]; exact b1
noncomputable def yfg (R : Nat → Nat) (n c p : Nat) (gs : Nat → Nat) : Nat := @dite Nat (∃ g, g < c ∧ ycpt R (gs g) p ∧ yEx R n c (p + 1) (ygu gs g p)) (Classical.propDecidable _) (fun h => Classical.choose (yleast h)) (fun _ => 0)
theorem yfg_eq {R : Nat → Nat} {n c p : Nat} {gs : Nat → Nat} {g : Nat} (h : g < c ∧ ycpt R (gs g) p ∧ yEx R n c (p + 1) (ygu gs g p)) (h2 : ∀ j, j < g → ¬ (ycpt R (gs j) p ∧ yEx R n c (p + 1) (ygu gs j p))) : yfg R n c p gs = g := by
  have hex : ∃ g, g < c ∧ ycpt R (gs g) p ∧ yEx R n c (p + 1) (ygu gs g p) := ⟨g, h⟩
  have e : yfg R n c p gs = Classical.choose (yleast hex) := by unfold yfg; exact dif_pos hex
  have s := Classical.choose_spec (yleast hex)
  rw [← e] at s
  rcases Nat.lt_trichotomy (yfg R n c p gs) g with g1 | g1 | g1
  · exact absurd s.1.2 (h2 _ g1)
  · exact g1
  · exact absurd h (s.2 g g1)
/-- the first way to share out: post by post the least group -/
noncomputable def ylx (R : Nat → Nat) (n c : Nat) : Nat → Nat → (Nat → Nat) → Nat → Nat
  | 0, _, _ => fun _ => 0
  | d + 1, p, gs => fun q => if q = p then yfg R n c p gs else ylx R n c d (p + 1) (ygu gs (yfg R n c p gs) p) q
theorem xcg_111 {a b c k : Nat} {x y : Int32} (hk : k < 8) : xcg 111 (xrk 111 [.ref a, .ref b, .ref c, .int (nI k), .int x, .int y]) 111 [.ref a, .ref b, .ref c, .int (nI (k + 1)), .int x, .int y] [] = true := by
  have e1 : xrk 111 [.ref a, .ref b, .ref c, .int (nI k), .int x, .int y] = 0 + (8 - (nI k).toNatClampNeg) := rfl
  have e2 : xrk 111 [.ref a, .ref b, .ref c, .int (nI (k + 1)), .int x, .int y] = 0 + (8 - (nI (k + 1)).toNatClampNeg) := rfl
  unfold xcg
  rw [e1, e2, nI_clamp (by omega), nI_clamp (by omega)]
  simp only [Bool.and_eq_true]
  refine ⟨⟨⟨⟨⟨⟨Nat.blt_eq.mpr (by omega), rfl⟩, rfl⟩, rfl⟩, ?_⟩, rfl⟩, rfl⟩
  rfl
theorem s_fill {R : Nat → Nat} {n c : Nat} (hG : yGr n R) (hc : c ≤ 8) : ∀ (d p : Nat), p + d = n → ∀ (gs : Nat → Nat) (m : xmm), yrw 11 R m → (∀ g, g < 8 → m.1 133 g = nI (gs g)) → (∀ g, gs g < 256) → (∀ a b, a < b → gs a = 0 → gs b = 0) → (yEx R n c p gs → ∃ m', fX10_fill 11 133 134 (nI p) (nI n) (nI c) m = some (1, m') ∧ (∀ q, p ≤ q → q < n → m'.1 134 q = nI (ylx R n c d p gs q)) ∧ (∀ q, q < p → m'.1 134 q = m.1 134 q) ∧ yfr [133, 134] m m') ∧ (¬ yEx R n c p gs → ∃ m', fX10_fill 11 133 134 (nI p) (nI n) (nI c) m = some (0, m') ∧ (∀ g, g < 8 → m'.1 133 g = nI (gs g)) ∧ (∀ q, q < p → m'.1 134 q = m.1 134 q) ∧ yfr [133, 134] m m') := by
  have hn := hG.1
  have hsy := hG.2.2.2
  intro d
  induction d with
  | zero =>
    intro p hp gs m hR h1 h2 h3
    have e : p = n := by omega
    subst e
    refine ⟨fun _ => ⟨m, ?_, fun q q1 q2 => by omega, fun _ _ => rfl, yfr_r⟩, fun h => absurd (yEx_n R p c gs) h⟩
    apply fX10_fill_i
    simp (disch := omega) only [yl3, yl4, yl5, yl6, yl7, yl8, yl9, yl10, yl13, yl16, yl20, yl21, yl22, yl23, yl24, yl32, yl40, yl48, yl57, yl59, yl63, yl64, yl97, yl99, yl122, yl255, yl256, yl400, yl1000, yl2000, yl2048, yc0_eq, yc0_eq2, yc0_le, yc0_ge, yc0_lt, yc0_gt, yc0_ad, yc0_da, yc0_sb, yc0_ml, yc0_lm, yc1_eq, yc1_eq2, yc1_le, yc1_ge, yc1_lt, yc1_gt, yc1_ad, yc1_da, yc1_sb, yc1_ml, yc1_lm, yc2_eq, yc2_eq2, yc2_le, yc2_ge, yc2_lt, yc2_gt, yc2_ad, yc2_da, yc2_sb, yc2_ml, yc2_lm, yc31_ge, ymodn, yI_1sl, yc2_dv, yn1_eq, yn1_lt, xgd_t, xlt_e, Option.bind_some, nI_add, pk_mul, pk_sub, pk_div, pk_rem, yI_and, yI_or, yI_xor, yI_nd, yI_nd2, yI_31, yI_shl, nI_leI, nI_ltI, nI_eq, nI_clamp, xinb_t, yP_z, yP_if, if_pos]
  | succ d ih =>
    intro p hp gs m hR h1 h2 h3
    have hpn : p < n := by omega
    have rp := yGr_8 hG p
    -- the groups from g on
    have loop : ∀ (e g : Nat), g + e = c → ∀ (m0 : xmm), yrw 11 R m0 → (∀ g, g < 8 → m0.1 133 g = nI (gs g)) → (∀ j, j < g → ¬ (ycpt R (gs j) p ∧ yEx R n c (p + 1) (ygu gs j p)) ∧ gs j ≠ 0) → (yEx R n c p gs → ∃ m', bX10_fill_17 (xrk 111 [.ref 11, .ref 133, .ref 134, .int (nI p), .int (nI n), .int (nI c)]) 11 133 134 (nI p) (nI n) (nI c) (nI g) m0 = some (1, m') ∧ (∀ q, p ≤ q → q < n → m'.1 134 q = nI (ylx R n c (d + 1) p gs q)) ∧ (∀ q, q < p → m'.1 134 q = m0.1 134 q) ∧ yfr [133, 134] m0 m') ∧ (¬ yEx R n c p gs → ∃ m', bX10_fill_17 (xrk 111 [.ref 11, .ref 133, .ref 134, .int (nI p), .int (nI n), .int (nI c)]) 11 133 134 (nI p) (nI n) (nI c) (nI g) m0 = some (0, m') ∧ (∀ g, g < 8 → m'.1 133 g = nI (gs g)) ∧ (∀ q, q < p → m'.1 134 q = m0.1 134 q) ∧ yfr [133, 134] m0 m') := by
      intro e
      induction e with
      | zero =>
        intro g hg m0 gR g1 g2
        have eg : g = c := by omega
        subst eg
        refine ⟨fun hx => ?_, fun _ => ⟨m0, ?_, g1, fun _ _ => rfl, yfr_r⟩⟩
        · obtain ⟨j, j1, j2⟩ := (yEx_s hsy hpn).mp hx
          exact absurd j2 (g2 j j1).1
        · apply bX10_fill_17_i
          simp (disch := omega) only [yl3, yl4, yl5, yl6, yl7, yl8, yl9, yl10, yl13, yl16, yl20, yl21, yl22, yl23, yl24, yl32, yl40, yl48, yl57, yl59, yl63, yl64, yl97, yl99, yl122, yl255, yl256, yl400, yl1000, yl2000, yl2048, yc0_eq, yc0_eq2, yc0_le, yc0_ge, yc0_lt, yc0_gt, yc0_ad, yc0_da, yc0_sb, yc0_ml, yc0_lm, yc1_eq, yc1_eq2, yc1_le, yc1_ge, yc1_lt, yc1_gt, yc1_ad, yc1_da, yc1_sb, yc1_ml, yc1_lm, yc2_eq, yc2_eq2, yc2_le, yc2_ge, yc2_lt, yc2_gt, yc2_ad, yc2_da, yc2_sb, yc2_ml, yc2_lm, yc31_ge, ymodn, yI_1sl, yc2_dv, yn1_eq, yn1_lt, xgd_t, xlt_e, Option.bind_some, nI_add, pk_mul, pk_sub, pk_div, pk_rem, yI_and, yI_or, yI_xor, yI_nd, yI_nd2, yI_31, yI_shl, nI_leI, nI_ltI, nI_eq, nI_clamp, xinb_t, yP_z, yP_if, if_pos]
      | succ e ihe =>
        intro g hg m0 gR g1 g2
        have hgc : g < c := by omega
        have hg8 : g < 8 := by omega
        have bg := h2 g
        have bn := ynd_le (gs g) (R p) 8 bg
        have ec : ynd (gs g) (R p) = 0 ↔ ycpt R (gs g) p := ynd0
        have n11 : Nat.beq 11 1999 = false := rfl
        have n133 : Nat.beq 133 1999 = false := rfl
        have n134 : Nat.beq 134 1999 = false := rfl
        have i133 : xia 1 133 (nI g) = true := xia_t (n := 8) rfl hg8 (by decide)
        have i11 : xia 1 11 (nI p) = true := xia_t (n := 8) rfl (by omega) (by decide)
        have i134 : xia 1 134 (nI p) = true := xia_t (n := 8) rfl (by omega) (by decide)
        -- behind a group that isn't it
        have after : ¬ (ycpt R (gs g) p ∧ yEx R n c (p + 1) (ygu gs g p)) → ∀ (m1 : xmm), yrw 11 R m1 → (∀ g, g < 8 → m1.1 133 g = nI (gs g)) → (yEx R n c p gs → ∃ m', bX10_fill_89 (xrk 111 [.ref 11, .ref 133, .ref 134, .int (nI p), .int (nI n), .int (nI c)]) 11 133 134 (nI p) (nI n) (nI c) (nI g) m1 = some (1, m') ∧ (∀ q, p ≤ q → q < n → m'.1 134 q = nI (ylx R n c (d + 1) p gs q)) ∧ (∀ q, q < p → m'.1 134 q = m1.1 134 q) ∧ yfr [133, 134] m1 m') ∧ (¬ yEx R n c p gs → ∃ m', bX10_fill_89 (xrk 111 [.ref 11, .ref 133, .ref 134, .int (nI p), .int (nI n), .int (nI c)]) 11 133 134 (nI p) (nI n) (nI c) (nI g) m1 = some (0, m') ∧ (∀ g, g < 8 → m'.1 133 g = nI (gs g)) ∧ (∀ q, q < p → m'.1 134 q = m1.1 134 q) ∧ yfr [133, 134] m1 m') := by
          intro hno m1 k1 k2
          by_cases h0 : gs g = 0
          · have nex : ¬ yEx R n c p gs := by
              intro hx
              obtain ⟨j, j1, j2, j3⟩ := (yEx_s hsy hpn).mp hx
              rcases Nat.lt_trichotomy j g with t | t | t
              · exact (g2 j t).1 ⟨j2, j3⟩
              · subst t; exact hno ⟨j2, j3⟩
              · have hj0 := h3 g j t h0
                refine hno ⟨fun q hq => ?_, yEx_sw hgc j1 h0 hj0 j3⟩
                rw [h0] at hq
                exact absurd hq yb_0
            refine ⟨fun hx => absurd hx nex, fun _ => ⟨m1, ?_, k2, fun _ _ => rfl, yfr_r⟩⟩
            apply bX10_fill_89_i
            simp (disch := omega) only [yl3, yl4, yl5, yl6, yl7, yl8, yl9, yl10, yl13, yl16, yl20, yl21, yl22, yl23, yl24, yl32, yl40, yl48, yl57, yl59, yl63, yl64, yl97, yl99, yl122, yl255, yl256, yl400, yl1000, yl2000, yl2048, yc0_eq, yc0_eq2, yc0_le, yc0_ge, yc0_lt, yc0_gt, yc0_ad, yc0_da, yc0_sb, yc0_ml, yc0_lm, yc1_eq, yc1_eq2, yc1_le, yc1_ge, yc1_lt, yc1_gt, yc1_ad, yc1_da, yc1_sb, yc1_ml, yc1_lm, yc2_eq, yc2_eq2, yc2_le, yc2_ge, yc2_lt, yc2_gt, yc2_ad, yc2_da, yc2_sb, yc2_ml, yc2_lm, yc31_ge, ymodn, yI_1sl, yc2_dv, yn1_eq, yn1_lt, xgd_t, xlt_e, Option.bind_some, nI_add, pk_mul, pk_sub, pk_div, pk_rem, yI_and, yI_or, yI_xor, yI_nd, yI_nd2, yI_31, yI_shl, nI_leI, nI_ltI, nI_eq, nI_clamp, xinb_t, yP_z, yP_if, n133, Bool.not_false, i133, k2 g hg8, if_pos]
          · have nxt := ihe (g + 1) (by omega) m1 k1 k2 (fun j hj => by
              by_cases t : j = g
              · subst t; exact ⟨hno, h0⟩
              · exact g2 j (by omega))
            refine ⟨fun hx => ?_, fun hx => ?_⟩
            · obtain ⟨m', e1, e2⟩ := nxt.1 hx
              refine ⟨m', ?_, e2⟩
              apply bX10_fill_89_i
              simp (disch := omega) only [yl3, yl4, yl5, yl6, yl7, yl8, yl9, yl10, yl13, yl16, yl20, yl21, yl22, yl23, yl24, yl32, yl40, yl48, yl57, yl59, yl63, yl64, yl97, yl99, yl122, yl255, yl256, yl400, yl1000, yl2000, yl2048, yc0_eq, yc0_eq2, yc0_le, yc0_ge, yc0_lt, yc0_gt, yc0_ad, yc0_da, yc0_sb, yc0_ml, yc0_lm, yc1_eq, yc1_eq2, yc1_le, yc1_ge, yc1_lt, yc1_gt, yc1_ad, yc1_da, yc1_sb, yc1_ml, yc1_lm, yc2_eq, yc2_eq2, yc2_le, yc2_ge, yc2_lt, yc2_gt, yc2_ad, yc2_da, yc2_sb, yc2_ml, yc2_lm, yc31_ge, ymodn, yI_1sl, yc2_dv, yn1_eq, yn1_lt, xgd_t, xlt_e, Option.bind_some, nI_add, pk_mul, pk_sub, pk_div, pk_rem, yI_and, yI_or, yI_xor, yI_nd, yI_nd2, yI_31, yI_shl, nI_leI, nI_ltI, nI_eq, nI_clamp, xinb_t, yP_z, yP_if, n133, Bool.not_false, i133, k2 g hg8, if_neg h0]
              exact e1
            · obtain ⟨m', e1, e2⟩ := nxt.2 hx
              refine ⟨m', ?_, e2⟩
              apply bX10_fill_89_i
              simp (disch := omega) only [yl3, yl4, yl5, yl6, yl7, yl8, yl9, yl10, yl13, yl16, yl20, yl21, yl22, yl23, yl24, yl32, yl40, yl48, yl57, yl59, yl63, yl64, yl97, yl99, yl122, yl255, yl256, yl400, yl1000, yl2000, yl2048, yc0_eq, yc0_eq2, yc0_le, yc0_ge, yc0_lt, yc0_gt, yc0_ad, yc0_da, yc0_sb, yc0_ml, yc0_lm, yc1_eq, yc1_eq2, yc1_le, yc1_ge, yc1_lt, yc1_gt, yc1_ad, yc1_da, yc1_sb, yc1_ml, yc1_lm, yc2_eq, yc2_eq2, yc2_le, yc2_ge, yc2_lt, yc2_gt, yc2_ad, yc2_da, yc2_sb, yc2_ml, yc2_lm, yc31_ge, ymodn, yI_1sl, yc2_dv, yn1_eq, yn1_lt, xgd_t, xlt_e, Option.bind_some, nI_add, pk_mul, pk_sub, pk_div, pk_rem, yI_and, yI_or, yI_xor, yI_nd, yI_nd2, yI_31, yI_shl, nI_leI, nI_ltI, nI_eq, nI_clamp, xinb_t, yP_z, yP_if, n133, Bool.not_false, i133, k2 g hg8, if_neg h0]
              exact e1
        by_cases hcp : ycpt R (gs g) p
        · have hpg : ¬ yb (gs g) p := fun hb => hsy.2 p (hcp p hb)
          have bor : gs g ||| 2 ^ p < 256 := Nat.or_lt_two_pow (n := 8) bg (Nat.pow_lt_pow_right (by decide : 1 < 2) (by omega : p < 8))
          have gs'lt : ∀ j, ygu gs g p j < 256 := fun j => by
            by_cases t : j = g
            · subst t; rw [ygu_e]; exact bor
            · rw [ygu_n t]; exact h2 j
          have gs'pf : ∀ a b, a < b → ygu gs g p a = 0 → ygu gs g p b = 0 := by
            intro a b hab ha
            have hag : a ≠ g := by
              intro t
              subst t
              have : yb (ygu gs a p a) p := ygu_b.mpr (Or.inr ⟨rfl, rfl⟩)
              rw [ha] at this
              exact yb_0 this
            rw [ygu_n hag] at ha
            have hga : g < a := by
              rcases Nat.lt_trichotomy a g with t | t | t
              · exact absurd ha (g2 a t).2
              · exact absurd t hag
              · exact t
            rw [ygu_n (by omega)]
            exact h3 a b hab ha
          have fr : yfr [133, 134] m0 (xwi (xwi m0 133 g (nI (gs g ||| 2 ^ p))) 134 p (nI g)) := yfr_w (yfr_w yfr_r (by decide)) (by decide)
          have cells : ∀ j, j < 8 → (xwi (xwi m0 133 g (nI (gs g ||| 2 ^ p))) 134 p (nI g)).1 133 j = nI (ygu gs g p j) := by
            intro j hj
            rw [xwi_k (by decide)]
            by_cases t : j = g
            · subst t; rw [xwi_e, ygu_e]
            · rw [xwi_i t, ygu_n t]; exact g1 j hj
          have rec_ := ih (p + 1) (by omega) (ygu gs g p) (xwi (xwi m0 133 g (nI (gs g ||| 2 ^ p))) 134 p (nI g)) (fun q hq => by rw [yfr_1 fr 11 q (by decide)]; exact gR q hq) cells gs'lt gs'pf
          have cg := xcg_111 (a := 11) (b := 133) (c := 134) (x := nI n) (y := nI c) (show p < 8 by omega)
          by_cases hx1 : yEx R n c (p + 1) (ygu gs g p)
          · obtain ⟨m', e1, e2, e3, e4⟩ := rec_.1 hx1
            have eg : yfg R n c p gs = g := yfg_eq ⟨hgc, hcp, hx1⟩ (fun j hj => (g2 j hj).1)
            refine ⟨fun _ => ⟨m', ?_, fun q q1 q2 => ?_, fun q hq => ?_, yfr_t fr e4⟩, fun hx => absurd ((yEx_s hsy hpn).mpr ⟨g, hgc, hcp, hx1⟩) hx⟩
            · have n1 : ¬ (1 : Int32) = 0 := by decide
              apply bX10_fill_17_i
              simp (disch := omega) only [yl3, yl4, yl5, yl6, yl7, yl8, yl9, yl10, yl13, yl16, yl20, yl21, yl22, yl23, yl24, yl32, yl40, yl48, yl57, yl59, yl63, yl64, yl97, yl99, yl122, yl255, yl256, yl400, yl1000, yl2000, yl2048, yc0_eq, yc0_eq2, yc0_le, yc0_ge, yc0_lt, yc0_gt, yc0_ad, yc0_da, yc0_sb, yc0_ml, yc0_lm, yc1_eq, yc1_eq2, yc1_le, yc1_ge, yc1_lt, yc1_gt, yc1_ad, yc1_da, yc1_sb, yc1_ml, yc1_lm, yc2_eq, yc2_eq2, yc2_le, yc2_ge, yc2_lt, yc2_gt, yc2_ad, yc2_da, yc2_sb, yc2_ml, yc2_lm, yc31_ge, ymodn, yI_1sl, yc2_dv, yn1_eq, yn1_lt, xgd_t, xlt_e, Option.bind_some, nI_add, pk_mul, pk_sub, pk_div, pk_rem, yI_and, yI_or, yI_xor, yI_nd, yI_nd2, yI_31, yI_shl, nI_leI, nI_ltI, nI_eq, nI_clamp, xinb_t, yP_z, yP_if, if_neg, n133, n11, n134, Bool.not_false, i133, i11, i134, g1 g hg8, gR p (by omega), if_pos (ec.mpr hcp), cg, e1, n1, if_false]
            · show m'.1 134 q = nI (if q = p then yfg R n c p gs else ylx R n c d (p + 1) (ygu gs (yfg R n c p gs) p) q)
              rw [eg]
              by_cases t : q = p
              · subst t
                rw [if_pos rfl, e3 q (by omega), xwi_e]
              · rw [if_neg t]
                exact e2 q (by omega) q2
            · rw [e3 q (by omega), xwi_i (by omega), xwi_k (by decide)]
          · obtain ⟨m1, e1, e2, e3, e4⟩ := rec_.2 hx1
            have fr2 : yfr [133, 134] m0 (xwi m1 133 g (nI (gs g))) := yfr_w (yfr_t fr e4) (by decide)
            have c2 : ∀ j, j < 8 → (xwi m1 133 g (nI (gs g))).1 133 j = nI (gs j) := by
              intro j hj
              by_cases t : j = g
              · subst t; rw [xwi_e]
              · rw [xwi_i t, e2 j hj, ygu_n t]
            have back : ynd (gs g ||| 2 ^ p) (2 ^ p) = gs g := by
              apply ytb_ext
              intro i
              have e := yb_nd (A := gs g ||| 2 ^ p) (B := 2 ^ p) (a := i)
              rw [yb_or, yb_pw] at e
              constructor
              · intro hi
                have := e.mp hi
                exact this.1.elim id fun t => absurd t this.2
              · intro hi
                refine e.mpr ⟨Or.inl hi, fun t => ?_⟩
                subst t
                exact hpg hi
            have af := after (fun t => hx1 t.2) (xwi m1 133 g (nI (gs g))) (fun q hq => by rw [yfr_1 fr2 11 q (by decide)]; exact gR q hq) c2
            have low : ∀ q, q < p → (xwi m1 133 g (nI (gs g))).1 134 q = m0.1 134 q := fun q hq => by
              rw [xwi_k (by decide), e3 q (by omega), xwi_i (by omega), xwi_k (by decide)]
            have goOn : ∀ {z : Int32 × xmm}, bX10_fill_89 (xrk 111 [.ref 11, .ref 133, .ref 134, .int (nI p), .int (nI n), .int (nI c)]) 11 133 134 (nI p) (nI n) (nI c) (nI g) (xwi m1 133 g (nI (gs g))) = some z → bX10_fill_17 (xrk 111 [.ref 11, .ref 133, .ref 134, .int (nI p), .int (nI n), .int (nI c)]) 11 133 134 (nI p) (nI n) (nI c) (nI g) m0 = some z := by
              intro z hz
              have mg := e2 g hg8
              rw [ygu_e] at mg
              apply bX10_fill_17_i
              simp (disch := omega) only [yl3, yl4, yl5, yl6, yl7, yl8, yl9, yl10, yl13, yl16, yl20, yl21, yl22, yl23, yl24, yl32, yl40, yl48, yl57, yl59, yl63, yl64, yl97, yl99, yl122, yl255, yl256, yl400, yl1000, yl2000, yl2048, yc0_eq, yc0_eq2, yc0_le, yc0_ge, yc0_lt, yc0_gt, yc0_ad, yc0_da, yc0_sb, yc0_ml, yc0_lm, yc1_eq, yc1_eq2, yc1_le, yc1_ge, yc1_lt, yc1_gt, yc1_ad, yc1_da, yc1_sb, yc1_ml, yc1_lm, yc2_eq, yc2_eq2, yc2_le, yc2_ge, yc2_lt, yc2_gt, yc2_ad, yc2_da, yc2_sb, yc2_ml, yc2_lm, yc31_ge, ymodn, yI_1sl, yc2_dv, yn1_eq, yn1_lt, xgd_t, xlt_e, Option.bind_some, nI_add, pk_mul, pk_sub, pk_div, pk_rem, yI_and, yI_or, yI_xor, yI_nd, yI_nd2, yI_31, yI_shl, nI_leI, nI_ltI, nI_eq, nI_clamp, xinb_t, yP_z, yP_if, if_neg, n133, n11, n134, Bool.not_false, i133, i11, i134, g1 g hg8, gR p (by omega), if_pos (ec.mpr hcp), cg, e1, if_true, mg, back]
              exact hz
            refine ⟨fun hx => ?_, fun hx => ?_⟩
            · obtain ⟨m', a1, a2, a3, a4⟩ := af.1 hx
              exact ⟨m', goOn a1, a2, fun q hq => by rw [a3 q hq, low q hq], yfr_t fr2 a4⟩
            · obtain ⟨m', a1, a2, a3, a4⟩ := af.2 hx
              exact ⟨m', goOn a1, a2, fun q hq => by rw [a3 q hq, low q hq], yfr_t fr2 a4⟩
        · have af := after (fun t => hcp t.1) m0 gR g1
          have goOn : ∀ {z : Int32 × xmm}, bX10_fill_89 (xrk 111 [.ref 11, .ref 133, .ref 134, .int (nI p), .int (nI n), .int (nI c)]) 11 133 134 (nI p) (nI n) (nI c) (nI g) m0 = some z → bX10_fill_17 (xrk 111 [.ref 11, .ref 133, .ref 134, .int (nI p), .int (nI n), .int (nI c)]) 11 133 134 (nI p) (nI n) (nI c) (nI g) m0 = some z := by
            intro z hz
            apply bX10_fill_17_i
            simp (disch := omega) only [yl3, yl4, yl5, yl6, yl7, yl8, yl9, yl10, yl13, yl16, yl20, yl21, yl22, yl23, yl24, yl32, yl40, yl48, yl57, yl59, yl63, yl64, yl97, yl99, yl122, yl255, yl256, yl400, yl1000, yl2000, yl2048, yc0_eq, yc0_eq2, yc0_le, yc0_ge, yc0_lt, yc0_gt, yc0_ad, yc0_da, yc0_sb, yc0_ml, yc0_lm, yc1_eq, yc1_eq2, yc1_le, yc1_ge, yc1_lt, yc1_gt, yc1_ad, yc1_da, yc1_sb, yc1_ml, yc1_lm, yc2_eq, yc2_eq2, yc2_le, yc2_ge, yc2_lt, yc2_gt, yc2_ad, yc2_da, yc2_sb, yc2_ml, yc2_lm, yc31_ge, ymodn, yI_1sl, yc2_dv, yn1_eq, yn1_lt, xgd_t, xlt_e, Option.bind_some, nI_add, pk_mul, pk_sub, pk_div, pk_rem, yI_and, yI_or, yI_xor, yI_nd, yI_nd2, yI_31, yI_shl, nI_leI, nI_ltI, nI_eq, nI_clamp, xinb_t, yP_z, yP_if, if_neg, n133, n11, Bool.not_false, i133, i11, g1 g hg8, gR p (by omega), if_neg (fun t => hcp (ec.mp t))]
            exact hz
          refine ⟨fun hx => ?_, fun hx => ?_⟩
          · obtain ⟨m', a1, a2⟩ := af.1 hx
            exact ⟨m', goOn a1, a2⟩
          · obtain ⟨m', a1, a2⟩ := af.2 hx
            exact ⟨m', goOn a1, a2⟩
    have l0 := loop c 0 (Nat.zero_add c) m hR h1 (fun j hj => absurd hj (Nat.not_lt_zero j))
    have start : ∀ {z : Int32 × xmm}, bX10_fill_17 (xrk 111 [.ref 11, .ref 133, .ref 134, .int (nI p), .int (nI n), .int (nI c)]) 11 133 134 (nI p) (nI n) (nI c) (nI 0) m = some z → fX10_fill 11 133 134 (nI p) (nI n) (nI c) m = some z := by
      intro z hz
      apply fX10_fill_i
      simp (disch := omega) only [yl3, yl4, yl5, yl6, yl7, yl8, yl9, yl10, yl13, yl16, yl20, yl21, yl22, yl23, yl24, yl32, yl40, yl48, yl57, yl59, yl63, yl64, yl97, yl99, yl122, yl255, yl256, yl400, yl1000, yl2000, yl2048, yc0_eq, yc0_eq2, yc0_le, yc0_ge, yc0_lt, yc0_gt, yc0_ad, yc0_da, yc0_sb, yc0_ml, yc0_lm, yc1_eq, yc1_eq2, yc1_le, yc1_ge, yc1_lt, yc1_gt, yc1_ad, yc1_da, yc1_sb, yc1_ml, yc1_lm, yc2_eq, yc2_eq2, yc2_le, yc2_ge, yc2_lt, yc2_gt, yc2_ad, yc2_da, yc2_sb, yc2_ml, yc2_lm, yc31_ge, ymodn, yI_1sl, yc2_dv, yn1_eq, yn1_lt, xgd_t, xlt_e, Option.bind_some, nI_add, pk_mul, pk_sub, pk_div, pk_rem, yI_and, yI_or, yI_xor, yI_nd, yI_nd2, yI_31, yI_shl, nI_leI, nI_ltI, nI_eq, nI_clamp, xinb_t, yP_z, yP_if, if_neg, if_pos]
      exact hz
    refine ⟨fun hx => ?_, fun hx => ?_⟩
    · obtain ⟨m', a1, a2⟩ := l0.1 hx
      exact ⟨m', start a1, a2⟩
    · obtain ⟨m', a1, a2⟩ := l0.2 hx
      exact ⟨m', start a1, a2⟩
theorem yEx_max {R : Nat → Nat} (n : Nat) : yEx R n n 0 (fun _ => 0) := ⟨fun q => q, fun q _ hq => ⟨hq, fun r hr => absurd hr yb_0⟩, fun q r _ hqr _ e => by have e' : q = r := e; omega⟩
/-- the fewest chains that take all -/
noncomputable def ync (R : Nat → Nat) (n : Nat) : Nat := Classical.choose (yleast (P := fun c => yEx R n c 0 (fun _ => 0)) ⟨n, yEx_max n⟩)
theorem ync_s (R : Nat → Nat) (n : Nat) : yEx R n (ync R n) 0 (fun _ => 0) ∧ ∀ c, c < ync R n → ¬ yEx R n c 0 (fun _ => 0) := Classical.choose_spec (yleast (P := fun c => yEx R n c 0 (fun _ => 0)) ⟨n, yEx_max n⟩)
theorem ync_le (R : Nat → Nat) (n : Nat) : ync R n ≤ n := by
  rcases Nat.lt_or_ge n (ync R n) with h | h
  · exact absurd (yEx_max n) ((ync_s R n).2 n h)
  · exact h
/-- with which chain a post goes -/
noncomputable def ycq (R : Nat → Nat) (n p : Nat) : Nat := ylx R n (ync R n) n 0 (fun _ => 0) p
theorem s_clearGroups_l : ∀ (d k : Nat) (m : xmm), k + d = 8 → (∀ g, g < k → m.1 133 g = 0) → ∃ m', bX10_clearGroups_132_2 (nI k) m = some m' ∧ (∀ g, g < 8 → m'.1 133 g = 0) ∧ yfr [133] m m' := by
  intro d
  induction d with
  | zero =>
    intro k m hk h
    have e : k = 8 := by omega
    subst e
    refine ⟨m, ?_, h, yfr_r⟩
    apply bX10_clearGroups_132_2_i
    simp (disch := omega) only [yl3, yl4, yl5, yl6, yl7, yl8, yl9, yl10, yl13, yl16, yl20, yl21, yl22, yl23, yl24, yl32, yl40, yl48, yl57, yl59, yl63, yl64, yl97, yl99, yl122, yl255, yl256, yl400, yl1000, yl2000, yl2048, yc0_eq, yc0_eq2, yc0_le, yc0_ge, yc0_lt, yc0_gt, yc0_ad, yc0_da, yc0_sb, yc0_ml, yc0_lm, yc1_eq, yc1_eq2, yc1_le, yc1_ge, yc1_lt, yc1_gt, yc1_ad, yc1_da, yc1_sb, yc1_ml, yc1_lm, yc2_eq, yc2_eq2, yc2_le, yc2_ge, yc2_lt, yc2_gt, yc2_ad, yc2_da, yc2_sb, yc2_ml, yc2_lm, yc31_ge, ymodn, yI_1sl, yc2_dv, yn1_eq, yn1_lt, xgd_t, xlt_e, Option.bind_some, nI_add, pk_mul, pk_sub, pk_div, pk_rem, yI_and, yI_or, yI_xor, yI_nd, yI_nd2, yI_31, yI_shl, nI_leI, nI_ltI, nI_eq, nI_clamp, xinb_t, yP_z, yP_if, if_pos]
  | succ d ih =>
    intro k m hk h
    obtain ⟨m', e1, e2, e3⟩ := ih (k + 1) (xwi m 133 k 0) (by omega) (fun g hg => by
      by_cases e : g = k
      · subst e; rw [xwi_e]
      · rw [xwi_i e]; exact h g (by omega))
    refine ⟨m', ?_, e2, yfr_t (yfr_w yfr_r (by decide)) e3⟩
    apply bX10_clearGroups_132_2_i
    simp (disch := omega) only [yl3, yl4, yl5, yl6, yl7, yl8, yl9, yl10, yl13, yl16, yl20, yl21, yl22, yl23, yl24, yl32, yl40, yl48, yl57, yl59, yl63, yl64, yl97, yl99, yl122, yl255, yl256, yl400, yl1000, yl2000, yl2048, yc0_eq, yc0_eq2, yc0_le, yc0_ge, yc0_lt, yc0_gt, yc0_ad, yc0_da, yc0_sb, yc0_ml, yc0_lm, yc1_eq, yc1_eq2, yc1_le, yc1_ge, yc1_lt, yc1_gt, yc1_ad, yc1_da, yc1_sb, yc1_ml, yc1_lm, yc2_eq, yc2_eq2, yc2_le, yc2_ge, yc2_lt, yc2_gt, yc2_ad, yc2_da, yc2_sb, yc2_ml, yc2_lm, yc31_ge, ymodn, yI_1sl, yc2_dv, yn1_eq, yn1_lt, xgd_t, xlt_e, Option.bind_some, nI_add, pk_mul, pk_sub, pk_div, pk_rem, yI_and, yI_or, yI_xor, yI_nd, yI_nd2, yI_31, yI_shl, nI_leI, nI_ltI, nI_eq, nI_clamp, xinb_t, yP_z, yP_if, if_neg]
    exact e1
theorem s_clearGroups (m : xmm) : ∃ m', fX10_clearGroups_132 m = some m' ∧ (∀ g, g < 8 → m'.1 133 g = 0) ∧ yfr [133] m m' := by
  obtain ⟨m', e1, e2, e3⟩ := s_clearGroups_l 8 0 m rfl (fun g hg => absurd hg (Nat.not_lt_zero g))
  refine ⟨m', ?_, e2, e3⟩
  apply fX10_clearGroups_132_i
  exact e1
theorem xcg_108 {x y : Int32} : xcg 108 10 111 [.ref 11, .ref 133, .ref 134, .int (nI 0), .int x, .int y] [] = true := by
  have e1 : xrk 111 [.ref 11, .ref 133, .ref 134, .int (nI 0), .int x, .int y] = 0 + (8 - (nI 0).toNatClampNeg) := rfl
  unfold xcg
  rw [e1, nI_clamp (by omega)]
  rfl
theorem s_share_l {R : Nat → Nat} {n : Nat} (hG : yGr n R) : ∀ (d c : Nat), c + d = ync R n → ∀ (m : xmm), yrw 11 R m → m.1 10 0 = nI n → ∃ m', bX10_share_132_10_12 (nI n) (nI c) m = some (nI (ync R n), m') ∧ (∀ q, q < n → m'.1 134 q = nI (ycq R n q)) ∧ yfr [133, 134] m m' := by
  have hn := hG.1
  have hle := ync_le R n
  intro d
  induction d with
  | zero =>
    intro c hcd m hR hN
    have e : c = ync R n := by omega
    obtain ⟨m1, a1, a2, a3⟩ := s_clearGroups m
    have fl := (s_fill hG (c := ync R n) (by omega) n 0 (Nat.zero_add n) (fun _ => 0) m1 (fun p hp => by rw [yfr_1 a3 11 p (by decide)]; exact hR p hp) (fun g hg => a2 g hg) (fun _ => by show 0 < 256; decide) (fun _ _ _ _ => rfl)).1 (ync_s R n).1
    obtain ⟨m', e1, e2, e3, e4⟩ := fl
    refine ⟨m', ?_, fun q hq => e2 q (Nat.zero_le q) hq, yfr_t (yfr_m a3 (by decide)) e4⟩
    have n1 : ¬ (1 : Int32) = 0 := by decide
    have cg := xcg_108 (x := nI n) (y := nI (ync R n))
    have cgn := xcg_108 (x := nI n) (y := nI n)
    have e1' : fX10_fill 11 133 134 (0 : Int32) (nI n) (nI (ync R n)) m1 = some (1, m') := e1
    have cg' : xcg 108 10 111 [.ref 11, .ref 133, .ref 134, .int (0 : Int32), .int (nI n), .int (nI (ync R n))] [] = true := cg
    rw [e]
    apply bX10_share_132_10_12_i
    by_cases hlt : n ≤ ync R n
    · have en : ync R n = n := by omega
      rw [en] at e1' cg' ⊢
      simp (disch := omega) only [yl3, yl4, yl5, yl6, yl7, yl8, yl9, yl10, yl13, yl16, yl20, yl21, yl22, yl23, yl24, yl32, yl40, yl48, yl57, yl59, yl63, yl64, yl97, yl99, yl122, yl255, yl256, yl400, yl1000, yl2000, yl2048, yc0_eq, yc0_eq2, yc0_le, yc0_ge, yc0_lt, yc0_gt, yc0_ad, yc0_da, yc0_sb, yc0_ml, yc0_lm, yc1_eq, yc1_eq2, yc1_le, yc1_ge, yc1_lt, yc1_gt, yc1_ad, yc1_da, yc1_sb, yc1_ml, yc1_lm, yc2_eq, yc2_eq2, yc2_le, yc2_ge, yc2_lt, yc2_gt, yc2_ad, yc2_da, yc2_sb, yc2_ml, yc2_lm, yc31_ge, ymodn, yI_1sl, yc2_dv, yn1_eq, yn1_lt, xgd_t, xlt_e, Option.bind_some, nI_add, pk_mul, pk_sub, pk_div, pk_rem, yI_and, yI_or, yI_xor, yI_nd, yI_nd2, yI_31, yI_shl, nI_leI, nI_ltI, nI_eq, nI_clamp, xinb_t, yP_z, yP_if, if_pos, a1, cg', e1']
    · simp (disch := omega) only [yl3, yl4, yl5, yl6, yl7, yl8, yl9, yl10, yl13, yl16, yl20, yl21, yl22, yl23, yl24, yl32, yl40, yl48, yl57, yl59, yl63, yl64, yl97, yl99, yl122, yl255, yl256, yl400, yl1000, yl2000, yl2048, yc0_eq, yc0_eq2, yc0_le, yc0_ge, yc0_lt, yc0_gt, yc0_ad, yc0_da, yc0_sb, yc0_ml, yc0_lm, yc1_eq, yc1_eq2, yc1_le, yc1_ge, yc1_lt, yc1_gt, yc1_ad, yc1_da, yc1_sb, yc1_ml, yc1_lm, yc2_eq, yc2_eq2, yc2_le, yc2_ge, yc2_lt, yc2_gt, yc2_ad, yc2_da, yc2_sb, yc2_ml, yc2_lm, yc31_ge, ymodn, yI_1sl, yc2_dv, yn1_eq, yn1_lt, xgd_t, xlt_e, Option.bind_some, nI_add, pk_mul, pk_sub, pk_div, pk_rem, yI_and, yI_or, yI_xor, yI_nd, yI_nd2, yI_31, yI_shl, nI_leI, nI_ltI, nI_eq, nI_clamp, xinb_t, yP_z, yP_if, if_neg, a1, cg', e1', n1, if_false]
  | succ d ih =>
    intro c hcd m hR hN
    obtain ⟨m1, a1, a2, a3⟩ := s_clearGroups m
    have fl := (s_fill hG (c := c) (by omega) n 0 (Nat.zero_add n) (fun _ => 0) m1 (fun p hp => by rw [yfr_1 a3 11 p (by decide)]; exact hR p hp) (fun g hg => a2 g hg) (fun _ => by show 0 < 256; decide) (fun _ _ _ _ => rfl)).2 ((ync_s R n).2 c (by omega))
    obtain ⟨m2, e1, e2, e3, e4⟩ := fl
    have fr : yfr [133, 134] m m2 := yfr_t (yfr_m a3 (by decide)) e4
    obtain ⟨m', b1, b2, b3⟩ := ih (c + 1) (by omega) m2 (fun p hp => by rw [yfr_1 fr 11 p (by decide)]; exact hR p hp) (by rw [yfr_1 fr 10 0 (by decide)]; exact hN)
    refine ⟨m', ?_, b2, yfr_t fr b3⟩
    have e1' : fX10_fill 11 133 134 (0 : Int32) (nI n) (nI c) m1 = some (0, m2) := e1
    have cg' : xcg 108 10 111 [.ref 11, .ref 133, .ref 134, .int (0 : Int32), .int (nI n), .int (nI c)] [] = true := xcg_108
    apply bX10_share_132_10_12_i
    simp (disch := omega) only [yl3, yl4, yl5, yl6, yl7, yl8, yl9, yl10, yl13, yl16, yl20, yl21, yl22, yl23, yl24, yl32, yl40, yl48, yl57, yl59, yl63, yl64, yl97, yl99, yl122, yl255, yl256, yl400, yl1000, yl2000, yl2048, yc0_eq, yc0_eq2, yc0_le, yc0_ge, yc0_lt, yc0_gt, yc0_ad, yc0_da, yc0_sb, yc0_ml, yc0_lm, yc1_eq, yc1_eq2, yc1_le, yc1_ge, yc1_lt, yc1_gt, yc1_ad, yc1_da, yc1_sb, yc1_ml, yc1_lm, yc2_eq, yc2_eq2, yc2_le, yc2_ge, yc2_lt, yc2_gt, yc2_ad, yc2_da, yc2_sb, yc2_ml, yc2_lm, yc31_ge, ymodn, yI_1sl, yc2_dv, yn1_eq, yn1_lt, xgd_t, xlt_e, Option.bind_some, nI_add, pk_mul, pk_sub, pk_div, pk_rem, yI_and, yI_or, yI_xor, yI_nd, yI_nd2, yI_31, yI_shl, nI_leI, nI_ltI, nI_eq, nI_clamp, xinb_t, yP_z, yP_if, if_neg, a1, cg', e1', if_true]
    exact b1
/-- the class shares out -/
theorem s_share {R : Nat → Nat} {n : Nat} (hG : yGr n R) {m : xmm} (hR : yrw 11 R m) (hN : m.1 10 0 = nI n) : ∃ m', fX10_share_132_10 m = some (nI (ync R n), m') ∧ (∀ q, q < n → m'.1 134 q = nI (ycq R n q)) ∧ yfr [133, 134] m m' := by
  have hn := hG.1
  obtain ⟨m', e1, e2, e3⟩ := s_share_l hG (ync R n) 0 (Nat.zero_add _) m hR hN
  refine ⟨m', ?_, e2, e3⟩
  apply fX10_share_132_10_i
  simp (disch := omega) only [yl3, yl4, yl5, yl6, yl7, yl8, yl9, yl10, yl13, yl16, yl20, yl21, yl22, yl23, yl24, yl32, yl40, yl48, yl57, yl59, yl63, yl64, yl97, yl99, yl122, yl255, yl256, yl400, yl1000, yl2000, yl2048, yc0_eq, yc0_eq2, yc0_le, yc0_ge, yc0_lt, yc0_gt, yc0_ad, yc0_da, yc0_sb, yc0_ml, yc0_lm, yc1_eq, yc1_eq2, yc1_le, yc1_ge, yc1_lt, yc1_gt, yc1_ad, yc1_da, yc1_sb, yc1_ml, yc1_lm, yc2_eq, yc2_eq2, yc2_le, yc2_ge, yc2_lt, yc2_gt, yc2_ad, yc2_da, yc2_sb, yc2_ml, yc2_lm, yc31_ge, ymodn, yI_1sl, yc2_dv, yn1_eq, yn1_lt, xgd_t, xlt_e, Option.bind_some, nI_add, pk_mul, pk_sub, pk_div, pk_rem, yI_and, yI_or, yI_xor, yI_nd, yI_nd2, yI_31, yI_shl, nI_leI, nI_ltI, nI_eq, nI_clamp, xinb_t, yP_z, yP_if, hN, if_neg]
  exact e1
