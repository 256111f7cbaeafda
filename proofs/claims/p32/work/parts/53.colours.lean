/-! COLOURS: how many ways -/
def yfree (R : Nat → Nat) (g p : Nat) : Prop := ∀ q, yb g q → ¬ yad R p q
theorem yan0 {a b : Nat} : a &&& b = 0 ↔ ∀ q, yb a q → ¬ yb b q := by
  constructor
  · intro h q h1 h2
    have : yb (a &&& b) q := yb_an.mpr ⟨h1, h2⟩
    rw [h] at this
    exact yb_0 this
  · intro h
    refine Classical.byContradiction fun hne => ?_
    obtain ⟨q, hq⟩ := yex_ne hne
    have := yb_an.mp hq
    exact h q this.1 this.2
theorem ysm_up (f : Nat → Nat) (u x : Nat) : ∀ n, u < n → ysm (fun t => if t = u then f t + x else f t) n = ysm f n + x := by
  intro n
  induction n with
  | zero => intro h; omega
  | succ n ih =>
    intro h
    rw [ysm_s, ysm_s]
    by_cases e : u = n
    · subst e
      rw [if_pos rfl, ysm_c (f := fun t => if t = u then f t + x else f t) (g := f) (fun k hk => if_neg (by omega))]
      omega
    · rw [if_neg (fun t => e t.symm), ih (by omega)]
      omega
theorem ysm_k {G : Nat → Nat} {u x : Nat} : ∀ e, (∀ g, u ≤ g → g < u + e → G g = x) → ysm G (u + e) = ysm G u + e * x := by
  intro e
  induction e with
  | zero => intro _; rw [Nat.add_zero, Nat.zero_mul, Nat.add_zero]
  | succ e ih =>
    intro h
    have e1 : u + (e + 1) = (u + e) + 1 := by omega
    rw [e1, ysm_s, ih (fun g g1 g2 => h g g1 (by omega)), h (u + e) (by omega) (by omega), Nat.succ_mul]
    omega
theorem ysm_ml (f : Nat → Nat) (x : Nat) : ∀ n, ysm (fun t => x * f t) n = x * ysm f n := by
  intro n
  induction n with
  | zero => rfl
  | succ n ih => rw [ysm_s, ysm_s, ih, Nat.mul_add]
/-- k colours, u of them used: in how many ways the next come new -/
def yff (k : Nat) : Nat → Nat
  | 0 => 1
  | u + 1 => yff k u * (k - u)
theorem yff_0 {k : Nat} : ∀ {u}, k < u → yff k u = 0 := by
  intro u
  induction u with
  | zero => intro h; omega
  | succ u ih =>
    intro h
    show yff k u * (k - u) = 0
    by_cases e : k < u
    · rw [ih e, Nat.zero_mul]
    · have : k - u = 0 := by omega
      rw [this, Nat.mul_zero]
noncomputable def yAA (R : Nat → Nat) (k : Nat) : Nat → Nat → (Nat → Nat) → Nat
  | 0, _, _ => 1
  | d + 1, p, gs => ysm (fun g => yif (yfree R (gs g) p) (yAA R k d (p + 1) (ygu gs g p)) 0) k
noncomputable def yCC (R : Nat → Nat) (k : Nat) : Nat → Nat → (Nat → Nat) → Nat → Nat
  | 0, _, _, u => yff k u
  | d + 1, p, gs, u => ysm (fun g => yif (yfree R (gs g) p) (yCC R k d (p + 1) (ygu gs g p) (if g = u then u + 1 else u)) 0) (u + 1)
/-- what the posts from p on are given -/
def yQQ (R : Nat → Nat) (n k p : Nat) (gs : Nat → Nat) (f : Nat → Nat) : Prop := (∀ q, ¬ (p ≤ q ∧ q < n) → f q = 0) ∧ (∀ q, p ≤ q → q < n → f q < k ∧ yfree R (gs (f q)) q) ∧ ∀ q r, p ≤ q → q < r → r < n → f q = f r → ¬ yad R q r
theorem yQQ_n {R : Nat → Nat} {n k : Nat} {gs : Nat → Nat} : yhc (yQQ R n k n gs) 1 :=
  yhc_1 (fun _ => 0) ⟨fun _ _ => rfl, fun q h1 h2 => by omega, fun q r h1 h2 h3 => by omega⟩ fun f hf => funext fun q => hf.1 q (by omega)
theorem yQQ_s {R : Nat → Nat} (hsy : ysy (yad R)) {n k p g : Nat} {gs : Nat → Nat} (hp : p < n) (hg : g < k) (hf : yfree R (gs g) p) {x : Nat} (h : yhc (yQQ R n k (p + 1) (ygu gs g p)) x) : yhc (fun f => yQQ R n k p gs f ∧ f p = g) x := by
  refine yhc_b (fun f q => if q = p then g else f q) (fun f q => if q = p then 0 else f q) (fun f hf' => ?_) (fun f hf' => ?_) h
  · obtain ⟨f1, f2, f3⟩ := hf'
    refine ⟨⟨⟨fun q hq => ?_, fun q q1 q2 => ?_, fun q r q1 q2 q3 e => ?_⟩, if_pos rfl⟩, funext fun q => ?_⟩
    · dsimp only
      rw [if_neg (fun e => hq (by omega))]
      exact f1 q (by omega)
    · dsimp only
      by_cases e : q = p
      · subst e; rw [if_pos rfl]; exact ⟨hg, hf⟩
      · rw [if_neg e]
        obtain ⟨a1, a2⟩ := f2 q (by omega) q2
        exact ⟨a1, fun r hr => a2 r (ygu_b.mpr (Or.inl hr))⟩
    · dsimp only at e
      rw [if_neg (by omega : ¬ r = p)] at e
      by_cases e1 : q = p
      · subst e1
        rw [if_pos rfl] at e
        exact fun t => (f2 r (by omega) q3).2 q (ygu_b.mpr (Or.inr ⟨e.symm, rfl⟩)) (hsy.1 _ _ t)
      · rw [if_neg e1] at e
        exact f3 q r (by omega) q2 q3 e
    · dsimp only
      by_cases e : q = p
      · subst e; rw [if_pos rfl]; exact (f1 q (by omega)).symm
      · rw [if_neg e, if_neg e]
  · obtain ⟨⟨f1, f2, f3⟩, f4⟩ := hf'
    refine ⟨⟨fun q hq => ?_, fun q q1 q2 => ?_, fun q r q1 q2 q3 e => ?_⟩, funext fun q => ?_⟩
    · dsimp only
      by_cases e : q = p
      · rw [if_pos e]
      · rw [if_neg e]; exact f1 q (by omega)
    · dsimp only
      rw [if_neg (by omega : ¬ q = p)]
      obtain ⟨a1, a2⟩ := f2 q (by omega) q2
      refine ⟨a1, fun r hr => ?_⟩
      rcases ygu_b.mp hr with e | ⟨e1, e2⟩
      · exact a2 r e
      · subst e2
        exact fun t => f3 r q (Nat.le_refl r) (by omega) q2 (by rw [f4, e1]) (hsy.1 _ _ t)
    · dsimp only at e
      rw [if_neg (by omega : ¬ r = p), if_neg (by omega : ¬ q = p)] at e
      exact f3 q r (by omega) q2 q3 e
    · dsimp only
      by_cases e : q = p
      · subst e; rw [if_pos rfl]; exact f4.symm
      · rw [if_neg e, if_neg e]
theorem yAA_h {R : Nat → Nat} (hsy : ysy (yad R)) {n k : Nat} : ∀ (d p : Nat), p + d = n → ∀ gs, yhc (yQQ R n k p gs) (yAA R k d p gs) := by
  intro d
  induction d with
  | zero =>
    intro p hp gs
    have e : p = n := by omega
    subst e
    exact yQQ_n
  | succ d ih =>
    intro p hp gs
    refine yhc_c (P := fun f => ∃ g, g < k ∧ (yQQ R n k p gs f ∧ f p = g)) (fun f => ⟨fun ⟨g, _, h, _⟩ => h, fun h => ⟨f p, (h.2.1 p (Nat.le_refl p) (by omega)).1, h, rfl⟩⟩) (yhc_sm (fun g hg => ?_) (fun i j f hij _ h1 h2 => by have := h1.2; have := h2.2; omega))
    by_cases hf : yfree R (gs g) p
    · rw [yif_t hf]
      exact yQQ_s hsy (by omega) hg hf (ih (p + 1) (by omega) _)
    · rw [yif_f hf]
      exact yhc_0 fun f h => hf (by
        have := (h.1.2.1 p (Nat.le_refl p) (by omega)).2
        rw [h.2] at this
        exact this)
theorem yAA_sw {R : Nat → Nat} (hsy : ysy (yad R)) {k : Nat} {d p a b : Nat} {gs : Nat → Nat} (ha : a < k) (hb : b < k) (h0 : gs a = 0) (h1 : gs b = 0) : yAA R k d (p + 1) (ygu gs a p) = yAA R k d (p + 1) (ygu gs b p) := by
  by_cases hab : a = b
  · subst hab; rfl
  let sw : Nat → Nat := fun j => if j = a then b else if j = b then a else j
  have swa : sw a = b := if_pos rfl
  have swb : sw b = a := by show (if b = a then b else if b = b then a else b) = a; rw [if_neg (fun e => hab e.symm), if_pos rfl]
  have swn : ∀ j, j ≠ a → j ≠ b → sw j = j := fun j h1 h2 => by show (if j = a then b else if j = b then a else j) = j; rw [if_neg h1, if_neg h2]
  have inv : ∀ i, sw (sw i) = i := by
    intro i
    by_cases e1 : i = a
    · rw [e1, swa, swb]
    · by_cases e2 : i = b
      · rw [e2, swb, swa]
      · rw [swn i e1 e2, swn i e1 e2]
  have swk : ∀ i, i < k → sw i < k := by
    intro i hi
    by_cases e1 : i = a
    · rw [e1, swa]; exact hb
    · by_cases e2 : i = b
      · rw [e2, swb]; exact ha
      · rw [swn i e1 e2]; exact hi
  have key : ∀ j q, yb (ygu gs a p (sw j)) q ↔ yb (ygu gs b p j) q := by
    intro j q
    by_cases e1 : j = a
    · subst e1
      rw [swa, ygu_n (fun e => hab e.symm), h1, ygu_n hab, h0]
    · by_cases e2 : j = b
      · subst e2
        rw [swb, ygu_e, h0, ygu_e, h1]
      · rw [swn j e1 e2, ygu_n e1, ygu_n e2]
  have key2 : ∀ j q, yb (ygu gs b p (sw j)) q ↔ yb (ygu gs a p j) q := fun j q => by
    have := key (sw j) q
    rw [inv] at this
    exact this.symm
  have A := yAA_h hsy (k := k) d (p + 1) rfl (ygu gs a p)
  have B := yAA_h hsy (k := k) d (p + 1) rfl (ygu gs b p)
  refine yhc_u (yhc_b (fun f q => if p + 1 ≤ q ∧ q < p + 1 + d then sw (f q) else 0) (fun f q => if p + 1 ≤ q ∧ q < p + 1 + d then sw (f q) else 0) (fun f hf => ?_) (fun f hf => ?_) A) B
  · obtain ⟨f1, f2, f3⟩ := hf
    refine ⟨⟨fun q hq => if_neg hq, fun q q1 q2 => ?_, fun q r q1 q2 q3 e => ?_⟩, funext fun q => ?_⟩
    · dsimp only
      rw [if_pos ⟨q1, q2⟩]
      obtain ⟨a1, a2⟩ := f2 q q1 q2
      exact ⟨swk _ a1, fun r hr => a2 r ((key2 _ r).mp hr)⟩
    · dsimp only at e
      rw [if_pos ⟨q1, by omega⟩, if_pos ⟨by omega, q3⟩] at e
      exact f3 q r q1 q2 q3 (by rw [← inv (f q), e, inv])
    · dsimp only
      by_cases e : p + 1 ≤ q ∧ q < p + 1 + d
      · rw [if_pos e, if_pos e, inv]
      · rw [if_neg e, f1 q e]
  · obtain ⟨f1, f2, f3⟩ := hf
    refine ⟨⟨fun q hq => if_neg hq, fun q q1 q2 => ?_, fun q r q1 q2 q3 e => ?_⟩, funext fun q => ?_⟩
    · dsimp only
      rw [if_pos ⟨q1, q2⟩]
      obtain ⟨a1, a2⟩ := f2 q q1 q2
      exact ⟨swk _ a1, fun r hr => a2 r ((key _ r).mp hr)⟩
    · dsimp only at e
      rw [if_pos ⟨q1, by omega⟩, if_pos ⟨by omega, q3⟩] at e
      exact f3 q r q1 q2 q3 (by rw [← inv (f q), e, inv])
    · dsimp only
      by_cases e : p + 1 ≤ q ∧ q < p + 1 + d
      · rw [if_pos e, if_pos e, inv]
      · rw [if_neg e, f1 q e]
theorem yfree_0 (R : Nat → Nat) (p : Nat) : yfree R 0 p := fun _ hq => absurd hq yb_0
theorem yCC_A {R : Nat → Nat} (hsy : ysy (yad R)) {k : Nat} : ∀ (d p : Nat) (gs : Nat → Nat) (u : Nat), (∀ j, gs j ≠ 0 ↔ j < u) → yCC R k d p gs u = yff k u * yAA R k d p gs := by
  intro d
  induction d with
  | zero => intro p gs u _; exact (Nat.mul_one _).symm
  | succ d ih =>
    intro p gs u hu
    have u0 : gs u = 0 := Classical.byContradiction fun e => by have := (hu u).mp e; omega
    have nz : ∀ g, ygu gs g p g ≠ 0 := fun g e => by
      have : yb (ygu gs g p g) p := ygu_b.mpr (Or.inr ⟨rfl, rfl⟩)
      rw [e] at this
      exact yb_0 this
    have iu := ih (p + 1) (ygu gs u p) (u + 1) (fun j => by
      by_cases e : j = u
      · subst e; exact ⟨fun _ => by omega, fun _ => nz j⟩
      · rw [ygu_n e, hu j]; omega)
    show ysm (fun g => yif (yfree R (gs g) p) (yCC R k d (p + 1) (ygu gs g p) (if g = u then u + 1 else u)) 0) (u + 1) = yff k u * ysm (fun g => yif (yfree R (gs g) p) (yAA R k d (p + 1) (ygu gs g p)) 0) k
    rw [ysm_s]
    rw [u0, yif_t (yfree_0 R p), if_pos rfl, iu]
    have low : ysm (fun g => yif (yfree R (gs g) p) (yCC R k d (p + 1) (ygu gs g p) (if g = u then u + 1 else u)) 0) u = yff k u * ysm (fun g => yif (yfree R (gs g) p) (yAA R k d (p + 1) (ygu gs g p)) 0) u := by
      rw [← ysm_ml]
      apply ysm_c
      intro g hg
      rw [if_neg (by omega)]
      by_cases hf : yfree R (gs g) p
      · rw [yif_t hf, yif_t hf]
        exact ih (p + 1) _ u (fun j => by
          by_cases e : j = g
          · subst e; exact ⟨fun _ => hg, fun _ => nz j⟩
          · rw [ygu_n e]; exact hu j)
      · rw [yif_f hf, yif_f hf, Nat.mul_zero]
    rw [low]
    by_cases hk : u ≤ k
    · have ek : k = u + (k - u) := by omega
      have sp : ysm (fun g => yif (yfree R (gs g) p) (yAA R k d (p + 1) (ygu gs g p)) 0) (u + (k - u)) = ysm (fun g => yif (yfree R (gs g) p) (yAA R k d (p + 1) (ygu gs g p)) 0) u + (k - u) * yAA R k d (p + 1) (ygu gs u p) := by
        apply ysm_k
        intro g g1 g2
        have g0 : gs g = 0 := Classical.byContradiction fun e => by have := (hu g).mp e; omega
        rw [g0, yif_t (yfree_0 R p)]
        exact yAA_sw hsy (by omega) (by omega) g0 u0
      rw [← ek] at sp
      rw [sp, Nat.mul_add, ← Nat.mul_assoc]
      rfl
    · rw [yff_0 (by omega : k < u), yff_0 (by omega : k < u + 1)]
      omega
/-! the model's: colour by colour -/
noncomputable def yck (R : Nat → Nat) : Nat → Nat → Nat
  | 0, w => if w = 0 then 1 else 0
  | c + 1, w => ysm (fun v => yif (ysb v w ∧ yap R v) (yck R c (ynd w v)) 0) (w + 1)
def yCol (R : Nat → Nat) (w c : Nat) (f : Nat → Nat) : Prop := (∀ q, ¬ yb w q → f q = 0) ∧ (∀ q, yb w q → f q < c) ∧ ∀ q r, yb w q → yb w r → f q = f r → ¬ yad R q r
theorem yck_h (R : Nat → Nat) : ∀ (c w : Nat), yhc (yCol R w c) (yck R c w) := by
  intro c
  induction c with
  | zero =>
    intro w
    by_cases e : w = 0
    · subst e
      exact yhc_1 (fun _ => 0) ⟨fun _ _ => rfl, fun q h => absurd h yb_0, fun q r h => absurd h yb_0⟩ fun f hf => funext fun q => hf.1 q yb_0
    · have e2 : yck R 0 w = 0 := if_neg e
      rw [e2]
      obtain ⟨a, ha⟩ := yex_ne e
      exact yhc_0 fun f hf => absurd (hf.2.1 a ha) (by omega)
  | succ c ih =>
    intro w
    refine yhc_c (P := fun f => ∃ v, v < w + 1 ∧ (yCol R w (c + 1) f ∧ ∀ q, yb v q ↔ yb w q ∧ f q = c)) (fun f => ⟨fun ⟨v, _, h, _⟩ => h, fun h => ?_⟩) (yhc_sm (fun v hv => ?_) (fun i j f hij _ h1 h2 => by
      have : i = j := ytb_ext fun q => (h1.2 q).trans (h2.2 q).symm
      omega))
    · have hin : ∀ q, yb (ybs (fun q => yb w q ∧ f q = c) w) q ↔ yb w q ∧ f q = c := fun q => yb_bs.trans ⟨fun t => t.2, fun t => ⟨Nat.lt_of_lt_of_le Nat.lt_two_pow_self (ybge t.1), t⟩⟩
      refine ⟨ybs (fun q => yb w q ∧ f q = c) w, ?_, h, hin⟩
      have := ysb_le (M := ybs (fun q => yb w q ∧ f q = c) w) (S := w) (fun q hq => ((hin q).mp hq).1)
      omega
    · by_cases hc : ysb v w ∧ yap R v
      · rw [yif_t hc]
        refine yhc_b (fun f q => if v.testBit q = true then c else f q) (fun f q => if v.testBit q = true then 0 else f q) (fun f hf => ?_) (fun f hf => ?_) (ih (ynd w v))
        · obtain ⟨f1, f2, f3⟩ := hf
          have cl : ∀ q, yb v q ↔ yb w q ∧ (if v.testBit q = true then c else f q) = c := by
            intro q
            by_cases hb : v.testBit q = true
            · rw [if_pos hb]; exact ⟨fun _ => ⟨hc.1 q hb, rfl⟩, fun _ => hb⟩
            · rw [if_neg hb]
              refine ⟨fun t => absurd t hb, fun t => ?_⟩
              have := f2 q (yb_nd.mpr ⟨t.1, hb⟩)
              omega
          refine ⟨⟨⟨fun q hq => ?_, fun q hq => ?_, fun q r hq hr e => ?_⟩, cl⟩, funext fun q => ?_⟩
          · dsimp only
            rw [if_neg (fun t => hq (hc.1 q t))]
            exact f1 q (fun t => hq (yb_nd.mp t).1)
          · dsimp only
            by_cases hb : v.testBit q = true
            · rw [if_pos hb]; omega
            · rw [if_neg hb]
              have := f2 q (yb_nd.mpr ⟨hq, hb⟩)
              omega
          · dsimp only at e
            by_cases hb : v.testBit q = true
            · by_cases hb2 : v.testBit r = true
              · exact hc.2 q r hb hb2
              · rw [if_pos hb, if_neg hb2] at e
                have := f2 r (yb_nd.mpr ⟨hr, hb2⟩)
                omega
            · by_cases hb2 : v.testBit r = true
              · rw [if_neg hb, if_pos hb2] at e
                have := f2 q (yb_nd.mpr ⟨hq, hb⟩)
                omega
              · rw [if_neg hb, if_neg hb2] at e
                exact f3 q r (yb_nd.mpr ⟨hq, hb⟩) (yb_nd.mpr ⟨hr, hb2⟩) e
          · dsimp only
            by_cases hb : v.testBit q = true
            · rw [if_pos hb]; exact (f1 q (fun t => (yb_nd.mp t).2 hb)).symm
            · rw [if_neg hb, if_neg hb]
        · obtain ⟨⟨f1, f2, f3⟩, cl⟩ := hf
          refine ⟨⟨fun q hq => ?_, fun q hq => ?_, fun q r hq hr e => ?_⟩, funext fun q => ?_⟩
          · dsimp only
            by_cases hb : v.testBit q = true
            · rw [if_pos hb]
            · rw [if_neg hb]; exact f1 q (fun t => hq (yb_nd.mpr ⟨t, hb⟩))
          · have t := yb_nd.mp hq
            dsimp only
            rw [if_neg t.2]
            have := f2 q t.1
            have : f q ≠ c := fun e => t.2 ((cl q).mpr ⟨t.1, e⟩)
            omega
          · have t := yb_nd.mp hq
            have s := yb_nd.mp hr
            dsimp only at e
            rw [if_neg t.2, if_neg s.2] at e
            exact f3 q r t.1 s.1 e
          · dsimp only
            by_cases hb : v.testBit q = true
            · rw [if_pos hb]; exact ((cl q).mp hb).2.symm
            · rw [if_neg hb, if_neg hb]
      · rw [yif_f hc]
        exact yhc_0 fun f hf => hc ⟨fun q hq => ((hf.2 q).mp hq).1, fun p q hp hq => hf.1.2.2 p q ((hf.2 p).mp hp).1 ((hf.2 q).mp hq).1 (((hf.2 p).mp hp).2.trans ((hf.2 q).mp hq).2.symm)⟩
theorem yck_A {R : Nat → Nat} (hsy : ysy (yad R)) (n k : Nat) : yAA R k n 0 (fun _ => 0) = yck R k (2 ^ n - 1) := by
  refine yhc_u (yhc_c (fun f => ?_) (yAA_h hsy (n := n) (k := k) n 0 (Nat.zero_add n) (fun _ => 0))) (yck_h R k (2 ^ n - 1))
  constructor
  · rintro ⟨f1, f2, f3⟩
    refine ⟨fun q hq => f1 q (fun t => hq (yfull.mpr t.2)), fun q hq => (f2 q (Nat.zero_le q) (yfull.mp hq)).1, fun q r hq hr e => ?_⟩
    rcases Nat.lt_trichotomy q r with g | g | g
    · exact f3 q r (Nat.zero_le q) g (yfull.mp hr) e
    · subst g; exact hsy.2 q
    · exact fun t => f3 r q (Nat.zero_le r) g (yfull.mp hq) e.symm (hsy.1 _ _ t)
  · rintro ⟨f1, f2, f3⟩
    exact ⟨fun q hq => f1 q (fun t => hq ⟨Nat.zero_le q, yfull.mp t⟩), fun q _ hq => ⟨f2 q (yfull.mpr hq), yfree_0 R q⟩, fun q r _ hqr hr e => f3 q r (yfull.mpr (by omega)) (yfull.mpr hr) e⟩
/-! the class -/
theorem xcg_113 {a b c k : Nat} {x y x' y' : Int32} (hk : k < 8) : xcg 113 (xrk 113 [.ref a, .ref b, .ref c, .int (nI k), .int x, .int y]) 113 [.ref a, .ref b, .ref c, .int (nI (k + 1)), .int x', .int y'] [] = true := by
  have e1 : xrk 113 [.ref a, .ref b, .ref c, .int (nI k), .int x, .int y] = 0 + (8 - (nI k).toNatClampNeg) := rfl
  have e2 : xrk 113 [.ref a, .ref b, .ref c, .int (nI (k + 1)), .int x', .int y'] = 0 + (8 - (nI (k + 1)).toNatClampNeg) := rfl
  unfold xcg
  rw [e1, e2, nI_clamp (by omega), nI_clamp (by omega)]
  simp only [Bool.and_eq_true]
  refine ⟨⟨⟨⟨⟨⟨Nat.blt_eq.mpr (by omega), rfl⟩, rfl⟩, rfl⟩, ?_⟩, rfl⟩, rfl⟩
  rfl
theorem xcg_112 {x y : Int32} : xcg 112 10 113 [.ref 11, .ref 133, .ref 135, .int (nI 0), .int x, .int y] [] = true := by
  have e1 : xrk 113 [.ref 11, .ref 133, .ref 135, .int (nI 0), .int x, .int y] = 0 + (8 - (nI 0).toNatClampNeg) := rfl
  unfold xcg
  rw [e1, nI_clamp (by omega)]
  rfl
noncomputable def yFF (R : Nat → Nat) (d p : Nat) (gs : Nat → Nat) (u k g : Nat) : Nat := yif (yfree R (gs g) p) (yCC R k d (p + 1) (ygu gs g p) (if g = u then u + 1 else u)) 0
theorem s_part {R : Nat → Nat} {n : Nat} (hG : yGr n R) : ∀ (d p : Nat), p + d = n → ∀ (gs : Nat → Nat) (u : Nat) (ws : Nat → Nat) (m : xmm), yrw 11 R m → (∀ g, g < 8 → m.1 133 g = nI (gs g)) → (∀ g, gs g < 256 ∧ ∀ q, yb (gs g) q → q < p) → (∀ t, t < 9 → m.1 135 t = nI (ws t)) → u ≤ p → ∃ (m' : xmm) (ws' : Nat → Nat), fX10_part 11 133 135 (nI p) (nI n) (nI u) m = some m' ∧ (∀ g, g < 8 → m'.1 133 g = nI (gs g)) ∧ (∀ t, t < 9 → m'.1 135 t = nI (ws' t)) ∧ (∀ k, ysm (fun t => ws' t * yff k t) 9 = ysm (fun t => ws t * yff k t) 9 + yCC R k d p gs u) ∧ yfr [133, 135] m m' := by
  have hn := hG.1
  have n11 : Nat.beq 11 1999 = false := rfl
  have n133 : Nat.beq 133 1999 = false := rfl
  have n135 : Nat.beq 135 1999 = false := rfl
  intro d
  induction d with
  | zero =>
    intro p hp gs u ws m hR h1 h2 h3 h4
    have e : p = n := by omega
    subst e
    refine ⟨xwi m 135 u (nI (ws u + 1)), fun t => if t = u then ws t + 1 else ws t, ?_, fun g hg => by rw [xwi_k (by decide)]; exact h1 g hg, fun t ht => ?_, fun k => ?_, yfr_w yfr_r (by decide)⟩
    · have i135 : xia 1 135 (nI u) = true := xia_t (n := 9) rfl (by omega) (by decide)
      apply fX10_part_i
      simp (disch := omega) only [yl3, yl4, yl5, yl6, yl7, yl8, yl9, yl10, yl13, yl16, yl20, yl21, yl22, yl23, yl24, yl32, yl40, yl48, yl57, yl59, yl63, yl64, yl97, yl99, yl122, yl255, yl256, yl400, yl1000, yl2000, yl2048, yc0_eq, yc0_eq2, yc0_le, yc0_ge, yc0_lt, yc0_gt, yc0_ad, yc0_da, yc0_sb, yc0_ml, yc0_lm, yc1_eq, yc1_eq2, yc1_le, yc1_ge, yc1_lt, yc1_gt, yc1_ad, yc1_da, yc1_sb, yc1_ml, yc1_lm, yc2_eq, yc2_eq2, yc2_le, yc2_ge, yc2_lt, yc2_gt, yc2_ad, yc2_da, yc2_sb, yc2_ml, yc2_lm, yc31_ge, ymodn, yI_1sl, yc2_dv, yn1_eq, yn1_lt, xgd_t, xlt_e, Option.bind_some, nI_add, pk_mul, pk_sub, pk_div, pk_rem, yI_and, yI_or, yI_xor, yI_nd, yI_nd2, yI_31, yI_shl, nI_leI, nI_ltI, nI_eq, nI_clamp, xinb_t, yP_z, yP_if, if_pos]
      apply bX10_part_12_i
      simp (disch := omega) only [yl3, yl4, yl5, yl6, yl7, yl8, yl9, yl10, yl13, yl16, yl20, yl21, yl22, yl23, yl24, yl32, yl40, yl48, yl57, yl59, yl63, yl64, yl97, yl99, yl122, yl255, yl256, yl400, yl1000, yl2000, yl2048, yc0_eq, yc0_eq2, yc0_le, yc0_ge, yc0_lt, yc0_gt, yc0_ad, yc0_da, yc0_sb, yc0_ml, yc0_lm, yc1_eq, yc1_eq2, yc1_le, yc1_ge, yc1_lt, yc1_gt, yc1_ad, yc1_da, yc1_sb, yc1_ml, yc1_lm, yc2_eq, yc2_eq2, yc2_le, yc2_ge, yc2_lt, yc2_gt, yc2_ad, yc2_da, yc2_sb, yc2_ml, yc2_lm, yc31_ge, ymodn, yI_1sl, yc2_dv, yn1_eq, yn1_lt, xgd_t, xlt_e, Option.bind_some, nI_add, pk_mul, pk_sub, pk_div, pk_rem, yI_and, yI_or, yI_xor, yI_nd, yI_nd2, yI_31, yI_shl, nI_leI, nI_ltI, nI_eq, nI_clamp, xinb_t, yP_z, yP_if, n135, Bool.not_false, i135, h3 u (by omega)]
    · dsimp only
      by_cases e : t = u
      · subst e; rw [xwi_e, if_pos rfl]
      · rw [xwi_i e, if_neg e]; exact h3 t ht
    · have e : yCC R k 0 p gs u = yff k u := rfl
      rw [e, ← ysm_up (fun t => ws t * yff k t) u (yff k u) 9 (by omega)]
      apply ysm_c
      intro t _
      dsimp only
      by_cases et : t = u
      · subst et; rw [if_pos rfl, if_pos rfl, Nat.succ_mul]
      · rw [if_neg et, if_neg et]
  | succ d ih =>
    intro p hp gs u ws m hR h1 h2 h3 h4
    have hpn : p < n := by omega
    have rp := yGr_8 hG p
    have loop : ∀ (e g : Nat), g + e = u + 1 → ∀ (vs : Nat → Nat) (m0 : xmm), yrw 11 R m0 → (∀ g, g < 8 → m0.1 133 g = nI (gs g)) → (∀ t, t < 9 → m0.1 135 t = nI (vs t)) → (∀ k, ysm (fun t => vs t * yff k t) 9 = ysm (fun t => ws t * yff k t) 9 + ysm (yFF R d p gs u k) g) → ∃ (m' : xmm) (ws' : Nat → Nat), bX10_part_24 (xrk 113 [.ref 11, .ref 133, .ref 135, .int (nI p), .int (nI n), .int (nI u)]) 11 133 135 (nI p) (nI n) (nI u) (nI g) m0 = some m' ∧ (∀ g, g < 8 → m'.1 133 g = nI (gs g)) ∧ (∀ t, t < 9 → m'.1 135 t = nI (ws' t)) ∧ (∀ k, ysm (fun t => ws' t * yff k t) 9 = ysm (fun t => ws t * yff k t) 9 + ysm (yFF R d p gs u k) (u + 1)) ∧ yfr [133, 135] m0 m' := by
      intro e
      induction e with
      | zero =>
        intro g hg vs m0 gR g1 g2 g3
        have eg : g = u + 1 := by omega
        subst eg
        refine ⟨m0, vs, ?_, g1, g2, g3, yfr_r⟩
        apply bX10_part_24_i
        simp (disch := omega) only [yl3, yl4, yl5, yl6, yl7, yl8, yl9, yl10, yl13, yl16, yl20, yl21, yl22, yl23, yl24, yl32, yl40, yl48, yl57, yl59, yl63, yl64, yl97, yl99, yl122, yl255, yl256, yl400, yl1000, yl2000, yl2048, yc0_eq, yc0_eq2, yc0_le, yc0_ge, yc0_lt, yc0_gt, yc0_ad, yc0_da, yc0_sb, yc0_ml, yc0_lm, yc1_eq, yc1_eq2, yc1_le, yc1_ge, yc1_lt, yc1_gt, yc1_ad, yc1_da, yc1_sb, yc1_ml, yc1_lm, yc2_eq, yc2_eq2, yc2_le, yc2_ge, yc2_lt, yc2_gt, yc2_ad, yc2_da, yc2_sb, yc2_ml, yc2_lm, yc31_ge, ymodn, yI_1sl, yc2_dv, yn1_eq, yn1_lt, xgd_t, xlt_e, Option.bind_some, nI_add, pk_mul, pk_sub, pk_div, pk_rem, yI_and, yI_or, yI_xor, yI_nd, yI_nd2, yI_31, yI_shl, nI_leI, nI_ltI, nI_eq, nI_clamp, xinb_t, yP_z, yP_if, if_pos]
      | succ e ihe =>
        intro g hg vs m0 gR g1 g2 g3
        have hg8 : g < 8 := by omega
        obtain ⟨b1, b2⟩ := h2 g
        have hpg : ¬ yb (gs g) p := fun t => absurd (b2 p t) (by omega)
        have ba := yand_lt (gs g) (R p) (n := 8) b1
        have ec : gs g &&& R p = 0 ↔ yfree R (gs g) p := yan0
        have i133 : xia 1 133 (nI g) = true := xia_t (n := 8) rfl hg8 (by decide)
        have i11 : xia 1 11 (nI p) = true := xia_t (n := 8) rfl (by omega) (by decide)
        by_cases hf : yfree R (gs g) p
        · have bor : gs g ||| 2 ^ p < 256 := Nat.or_lt_two_pow (n := 8) b1 (Nat.pow_lt_pow_right (by decide : 1 < 2) (by omega : p < 8))
          have fr : yfr [133, 135] m0 (xwi m0 133 g (nI (gs g ||| 2 ^ p))) := yfr_w yfr_r (by decide)
          have cells : ∀ j, j < 8 → (xwi m0 133 g (nI (gs g ||| 2 ^ p))).1 133 j = nI (ygu gs g p j) := by
            intro j hj
            by_cases t : j = g
            · subst t; rw [xwi_e, ygu_e]
            · rw [xwi_i t, ygu_n t]; exact g1 j hj
          have gs' : ∀ j, ygu gs g p j < 256 ∧ ∀ q, yb (ygu gs g p j) q → q < p + 1 := by
            intro j
            by_cases t : j = g
            · subst t
              rw [ygu_e]
              refine ⟨bor, fun q hq => ?_⟩
              rcases yb_or.mp hq with q1 | q1
              · have := b2 q q1; omega
              · have := yb_pw.mp q1; omega
            · rw [ygu_n t]
              obtain ⟨u1, u3⟩ := h2 j
              exact ⟨u1, fun q hq => by have := u3 q hq; omega⟩
          obtain ⟨m1, vs1, a1, a2, a3, a4, a5⟩ := ih (p + 1) (by omega) (ygu gs g p) (if g = u then u + 1 else u) vs _ (fun q hq => by rw [yfr_1 fr 11 q (by decide)]; exact gR q hq) cells gs' (fun t ht => by rw [xwi_k (by decide)]; exact g2 t ht) (by by_cases e : g = u <;> simp only [e, if_true, if_false] <;> omega)
          have fr1 : yfr [133, 135] m0 m1 := yfr_t fr a5
          have fr2 : yfr [133, 135] m0 (xwi m1 133 g (nI (gs g))) := yfr_w fr1 (by decide)
          have back : ynd (gs g ||| 2 ^ p) (2 ^ p) = gs g := by
            rw [← yxor_nd (fun i hi => yb_or.mpr (Or.inr hi))]
            exact yxor_pw hpg
          obtain ⟨m', ws', c1, c2, c3, c4, c5⟩ := ihe (g + 1) (by omega) vs1 (xwi m1 133 g (nI (gs g))) (fun q hq => by rw [yfr_1 fr2 11 q (by decide)]; exact gR q hq) (fun j hj => by
            by_cases t : j = g
            · subst t; rw [xwi_e]
            · rw [xwi_i t, a2 j hj, ygu_n t]) (fun t ht => by rw [xwi_k (by decide)]; exact a3 t ht) (fun k => by
            have : yFF R d p gs u k g = yCC R k d (p + 1) (ygu gs g p) (if g = u then u + 1 else u) := yif_t hf
            rw [a4 k, g3 k, ysm_s (yFF R d p gs u k) g, this, Nat.add_assoc])
          refine ⟨m', ws', ?_, c2, c3, c4, yfr_t fr2 c5⟩
          have mg := a2 g hg8
          rw [ygu_e] at mg
          apply bX10_part_24_i
          by_cases eu : g = u
          · subst eu
            rw [if_pos rfl] at a1
            simp (disch := omega) only [yl3, yl4, yl5, yl6, yl7, yl8, yl9, yl10, yl13, yl16, yl20, yl21, yl22, yl23, yl24, yl32, yl40, yl48, yl57, yl59, yl63, yl64, yl97, yl99, yl122, yl255, yl256, yl400, yl1000, yl2000, yl2048, yc0_eq, yc0_eq2, yc0_le, yc0_ge, yc0_lt, yc0_gt, yc0_ad, yc0_da, yc0_sb, yc0_ml, yc0_lm, yc1_eq, yc1_eq2, yc1_le, yc1_ge, yc1_lt, yc1_gt, yc1_ad, yc1_da, yc1_sb, yc1_ml, yc1_lm, yc2_eq, yc2_eq2, yc2_le, yc2_ge, yc2_lt, yc2_gt, yc2_ad, yc2_da, yc2_sb, yc2_ml, yc2_lm, yc31_ge, ymodn, yI_1sl, yc2_dv, yn1_eq, yn1_lt, xgd_t, xlt_e, Option.bind_some, nI_add, pk_mul, pk_sub, pk_div, pk_rem, yI_and, yI_or, yI_xor, yI_nd, yI_nd2, yI_31, yI_shl, nI_leI, nI_ltI, nI_eq, nI_clamp, xinb_t, yP_z, yP_if, if_neg, n133, n11, n135, Bool.not_false, i133, i11, g1 g hg8, gR p (by omega), if_pos (ec.mpr hf), if_true]
            apply bX10_part_83_i
            simp (disch := omega) only [yl3, yl4, yl5, yl6, yl7, yl8, yl9, yl10, yl13, yl16, yl20, yl21, yl22, yl23, yl24, yl32, yl40, yl48, yl57, yl59, yl63, yl64, yl97, yl99, yl122, yl255, yl256, yl400, yl1000, yl2000, yl2048, yc0_eq, yc0_eq2, yc0_le, yc0_ge, yc0_lt, yc0_gt, yc0_ad, yc0_da, yc0_sb, yc0_ml, yc0_lm, yc1_eq, yc1_eq2, yc1_le, yc1_ge, yc1_lt, yc1_gt, yc1_ad, yc1_da, yc1_sb, yc1_ml, yc1_lm, yc2_eq, yc2_eq2, yc2_le, yc2_ge, yc2_lt, yc2_gt, yc2_ad, yc2_da, yc2_sb, yc2_ml, yc2_lm, yc31_ge, ymodn, yI_1sl, yc2_dv, yn1_eq, yn1_lt, xgd_t, xlt_e, Option.bind_some, nI_add, pk_mul, pk_sub, pk_div, pk_rem, yI_and, yI_or, yI_xor, yI_nd, yI_nd2, yI_31, yI_shl, nI_leI, nI_ltI, nI_eq, nI_clamp, xinb_t, yP_z, yP_if, xcg_113 (a := 11) (b := 133) (c := 135) (show p < 8 by omega), a1, n133, Bool.not_false, i133, mg, back]
            exact c1
          · rw [if_neg eu] at a1
            simp (disch := omega) only [yl3, yl4, yl5, yl6, yl7, yl8, yl9, yl10, yl13, yl16, yl20, yl21, yl22, yl23, yl24, yl32, yl40, yl48, yl57, yl59, yl63, yl64, yl97, yl99, yl122, yl255, yl256, yl400, yl1000, yl2000, yl2048, yc0_eq, yc0_eq2, yc0_le, yc0_ge, yc0_lt, yc0_gt, yc0_ad, yc0_da, yc0_sb, yc0_ml, yc0_lm, yc1_eq, yc1_eq2, yc1_le, yc1_ge, yc1_lt, yc1_gt, yc1_ad, yc1_da, yc1_sb, yc1_ml, yc1_lm, yc2_eq, yc2_eq2, yc2_le, yc2_ge, yc2_lt, yc2_gt, yc2_ad, yc2_da, yc2_sb, yc2_ml, yc2_lm, yc31_ge, ymodn, yI_1sl, yc2_dv, yn1_eq, yn1_lt, xgd_t, xlt_e, Option.bind_some, nI_add, pk_mul, pk_sub, pk_div, pk_rem, yI_and, yI_or, yI_xor, yI_nd, yI_nd2, yI_31, yI_shl, nI_leI, nI_ltI, nI_eq, nI_clamp, xinb_t, yP_z, yP_if, if_neg, n133, n11, n135, Bool.not_false, i133, i11, g1 g hg8, gR p (by omega), if_pos (ec.mpr hf)]
            apply bX10_part_83_i
            simp (disch := omega) only [yl3, yl4, yl5, yl6, yl7, yl8, yl9, yl10, yl13, yl16, yl20, yl21, yl22, yl23, yl24, yl32, yl40, yl48, yl57, yl59, yl63, yl64, yl97, yl99, yl122, yl255, yl256, yl400, yl1000, yl2000, yl2048, yc0_eq, yc0_eq2, yc0_le, yc0_ge, yc0_lt, yc0_gt, yc0_ad, yc0_da, yc0_sb, yc0_ml, yc0_lm, yc1_eq, yc1_eq2, yc1_le, yc1_ge, yc1_lt, yc1_gt, yc1_ad, yc1_da, yc1_sb, yc1_ml, yc1_lm, yc2_eq, yc2_eq2, yc2_le, yc2_ge, yc2_lt, yc2_gt, yc2_ad, yc2_da, yc2_sb, yc2_ml, yc2_lm, yc31_ge, ymodn, yI_1sl, yc2_dv, yn1_eq, yn1_lt, xgd_t, xlt_e, Option.bind_some, nI_add, pk_mul, pk_sub, pk_div, pk_rem, yI_and, yI_or, yI_xor, yI_nd, yI_nd2, yI_31, yI_shl, nI_leI, nI_ltI, nI_eq, nI_clamp, xinb_t, yP_z, yP_if, xcg_113 (a := 11) (b := 133) (c := 135) (show p < 8 by omega), a1, n133, Bool.not_false, i133, mg, back]
            exact c1
        · obtain ⟨m', ws', c1, c2, c3, c4, c5⟩ := ihe (g + 1) (by omega) vs m0 gR g1 g2 (fun k => by
            rw [g3 k, ysm_s (yFF R d p gs u k) g]
            have : yFF R d p gs u k g = 0 := yif_f hf
            rw [this, Nat.add_zero])
          refine ⟨m', ws', ?_, c2, c3, c4, c5⟩
          apply bX10_part_24_i
          simp (disch := omega) only [yl3, yl4, yl5, yl6, yl7, yl8, yl9, yl10, yl13, yl16, yl20, yl21, yl22, yl23, yl24, yl32, yl40, yl48, yl57, yl59, yl63, yl64, yl97, yl99, yl122, yl255, yl256, yl400, yl1000, yl2000, yl2048, yc0_eq, yc0_eq2, yc0_le, yc0_ge, yc0_lt, yc0_gt, yc0_ad, yc0_da, yc0_sb, yc0_ml, yc0_lm, yc1_eq, yc1_eq2, yc1_le, yc1_ge, yc1_lt, yc1_gt, yc1_ad, yc1_da, yc1_sb, yc1_ml, yc1_lm, yc2_eq, yc2_eq2, yc2_le, yc2_ge, yc2_lt, yc2_gt, yc2_ad, yc2_da, yc2_sb, yc2_ml, yc2_lm, yc31_ge, ymodn, yI_1sl, yc2_dv, yn1_eq, yn1_lt, xgd_t, xlt_e, Option.bind_some, nI_add, pk_mul, pk_sub, pk_div, pk_rem, yI_and, yI_or, yI_xor, yI_nd, yI_nd2, yI_31, yI_shl, nI_leI, nI_ltI, nI_eq, nI_clamp, xinb_t, yP_z, yP_if, if_neg, n133, n11, Bool.not_false, i133, i11, g1 g hg8, gR p (by omega), if_neg (fun t => hf (ec.mp t))]
          exact c1
    obtain ⟨m', ws', c1, c2, c3, c4, c5⟩ := loop (u + 1) 0 (Nat.zero_add _) ws m hR h1 h3 (fun k => (Nat.add_zero _).symm)
    refine ⟨m', ws', ?_, c2, c3, c4, c5⟩
    apply fX10_part_i
    simp (disch := omega) only [yl3, yl4, yl5, yl6, yl7, yl8, yl9, yl10, yl13, yl16, yl20, yl21, yl22, yl23, yl24, yl32, yl40, yl48, yl57, yl59, yl63, yl64, yl97, yl99, yl122, yl255, yl256, yl400, yl1000, yl2000, yl2048, yc0_eq, yc0_eq2, yc0_le, yc0_ge, yc0_lt, yc0_gt, yc0_ad, yc0_da, yc0_sb, yc0_ml, yc0_lm, yc1_eq, yc1_eq2, yc1_le, yc1_ge, yc1_lt, yc1_gt, yc1_ad, yc1_da, yc1_sb, yc1_ml, yc1_lm, yc2_eq, yc2_eq2, yc2_le, yc2_ge, yc2_lt, yc2_gt, yc2_ad, yc2_da, yc2_sb, yc2_ml, yc2_lm, yc31_ge, ymodn, yI_1sl, yc2_dv, yn1_eq, yn1_lt, xgd_t, xlt_e, Option.bind_some, nI_add, pk_mul, pk_sub, pk_div, pk_rem, yI_and, yI_or, yI_xor, yI_nd, yI_nd2, yI_31, yI_shl, nI_leI, nI_ltI, nI_eq, nI_clamp, xinb_t, yP_z, yP_if, if_neg, if_pos]
    exact c1
theorem s_co_6 : ∀ (d t : Nat) (m : xmm), t + d = 9 → (∀ j, j < t → m.1 135 j = 0) → ∃ m', (∀ {x : Int32} {z : Int32 × xmm}, bX10_colourings_132_10_6 x (nI 9) m' = some z → bX10_colourings_132_10_6 x (nI t) m = some z) ∧ (∀ j, j < 9 → m'.1 135 j = 0) ∧ yfr [135] m m' := by
  intro d
  induction d with
  | zero =>
    intro t m ht h
    have e : t = 9 := by omega
    subst e
    exact ⟨m, fun h => h, h, yfr_r⟩
  | succ d ih =>
    intro t m ht h
    obtain ⟨m', e1, e2, e3⟩ := ih (t + 1) (xwi m 135 t 0) (by omega) (fun j hj => by
      by_cases e : j = t
      · subst e; rw [xwi_e]
      · rw [xwi_i e]; exact h j (by omega))
    refine ⟨m', fun {x z} hz => ?_, e2, yfr_t (yfr_w yfr_r (by decide)) e3⟩
    apply bX10_colourings_132_10_6_i
    simp (disch := omega) only [yl3, yl4, yl5, yl6, yl7, yl8, yl9, yl10, yl13, yl16, yl20, yl21, yl22, yl23, yl24, yl32, yl40, yl48, yl57, yl59, yl63, yl64, yl97, yl99, yl122, yl255, yl256, yl400, yl1000, yl2000, yl2048, yc0_eq, yc0_eq2, yc0_le, yc0_ge, yc0_lt, yc0_gt, yc0_ad, yc0_da, yc0_sb, yc0_ml, yc0_lm, yc1_eq, yc1_eq2, yc1_le, yc1_ge, yc1_lt, yc1_gt, yc1_ad, yc1_da, yc1_sb, yc1_ml, yc1_lm, yc2_eq, yc2_eq2, yc2_le, yc2_ge, yc2_lt, yc2_gt, yc2_ad, yc2_da, yc2_sb, yc2_ml, yc2_lm, yc31_ge, ymodn, yI_1sl, yc2_dv, yn1_eq, yn1_lt, xgd_t, xlt_e, Option.bind_some, nI_add, pk_mul, pk_sub, pk_div, pk_rem, yI_and, yI_or, yI_xor, yI_nd, yI_nd2, yI_31, yI_shl, nI_leI, nI_ltI, nI_eq, nI_clamp, xinb_t, yP_z, yP_if, if_neg]
    exact e1 hz
theorem s_co_59 {ws : Nat → Nat} {k : Nat} (hk : k < 10) {m : xmm} (h : ∀ t, t < 9 → m.1 135 t = nI (ws t)) : ∀ (d t : Nat), t + d = 9 → bX10_colourings_132_10_59 (nI k) (nI (ysm (fun t => ws t * yff k t) t)) (nI (yff k t)) (nI t) m = some (nI (ysm (fun t => ws t * yff k t) 9), m) := by
  intro d
  induction d with
  | zero =>
    intro t ht
    have e : t = 9 := by omega
    subst e
    apply bX10_colourings_132_10_59_i
    simp (disch := omega) only [yl3, yl4, yl5, yl6, yl7, yl8, yl9, yl10, yl13, yl16, yl20, yl21, yl22, yl23, yl24, yl32, yl40, yl48, yl57, yl59, yl63, yl64, yl97, yl99, yl122, yl255, yl256, yl400, yl1000, yl2000, yl2048, yc0_eq, yc0_eq2, yc0_le, yc0_ge, yc0_lt, yc0_gt, yc0_ad, yc0_da, yc0_sb, yc0_ml, yc0_lm, yc1_eq, yc1_eq2, yc1_le, yc1_ge, yc1_lt, yc1_gt, yc1_ad, yc1_da, yc1_sb, yc1_ml, yc1_lm, yc2_eq, yc2_eq2, yc2_le, yc2_ge, yc2_lt, yc2_gt, yc2_ad, yc2_da, yc2_sb, yc2_ml, yc2_lm, yc31_ge, ymodn, yI_1sl, yc2_dv, yn1_eq, yn1_lt, xgd_t, xlt_e, Option.bind_some, nI_add, pk_mul, pk_sub, pk_div, pk_rem, yI_and, yI_or, yI_xor, yI_nd, yI_nd2, yI_31, yI_shl, nI_leI, nI_ltI, nI_eq, nI_clamp, xinb_t, yP_z, yP_if, if_pos]
  | succ d ih =>
    intro t ht
    have e := ih (t + 1) (by omega)
    rw [ysm_s] at e
    have em : nI (yff k t) * (nI k - nI t) = nI (yff k (t + 1)) := by
      show nI (yff k t) * (nI k - nI t) = nI (yff k t * (k - t))
      by_cases g : t ≤ k
      · rw [pk_sub g, pk_mul]
      · rw [yff_0 (by omega : k < t), Nat.zero_mul]
        exact Int32.zero_mul
    have ex : yff k t * ws t = ws t * yff k t := Nat.mul_comm _ _
    apply bX10_colourings_132_10_59_i
    rw [em]
    simp (disch := omega) only [yl3, yl4, yl5, yl6, yl7, yl8, yl9, yl10, yl13, yl16, yl20, yl21, yl22, yl23, yl24, yl32, yl40, yl48, yl57, yl59, yl63, yl64, yl97, yl99, yl122, yl255, yl256, yl400, yl1000, yl2000, yl2048, yc0_eq, yc0_eq2, yc0_le, yc0_ge, yc0_lt, yc0_gt, yc0_ad, yc0_da, yc0_sb, yc0_ml, yc0_lm, yc1_eq, yc1_eq2, yc1_le, yc1_ge, yc1_lt, yc1_gt, yc1_ad, yc1_da, yc1_sb, yc1_ml, yc1_lm, yc2_eq, yc2_eq2, yc2_le, yc2_ge, yc2_lt, yc2_gt, yc2_ad, yc2_da, yc2_sb, yc2_ml, yc2_lm, yc31_ge, ymodn, yI_1sl, yc2_dv, yn1_eq, yn1_lt, xgd_t, xlt_e, Option.bind_some, nI_add, pk_mul, pk_sub, pk_div, pk_rem, yI_and, yI_or, yI_xor, yI_nd, yI_nd2, yI_31, yI_shl, nI_leI, nI_ltI, nI_eq, nI_clamp, xinb_t, yP_z, yP_if, if_neg, h t, ex]
    exact e
/-- the class counts the colourings -/
theorem s_cCol {R : Nat → Nat} {n k : Nat} (hG : yGr n R) (hk : k < 10) {m : xmm} (hR : yrw 11 R m) (hN : m.1 10 0 = nI n) : ∃ m', fX10_colourings_132_10 (nI k) m = some (nI (yck R k (2 ^ n - 1)), m') ∧ yfr [133, 135] m m' := by
  have hn := hG.1
  obtain ⟨m1, a1, a2, a3⟩ := s_clearGroups m
  obtain ⟨m2, b1, b2, b3⟩ := s_co_6 9 0 m1 rfl (fun j hj => absurd hj (Nat.not_lt_zero j))
  have fr : yfr [133, 135] m m2 := yfr_t (yfr_m a3 (by decide)) (yfr_m b3 (by decide))
  obtain ⟨m3, ws, c1, c2, c3, c4, c5⟩ := s_part hG n 0 (Nat.zero_add n) (fun _ => 0) 0 (fun _ => 0) m2 (fun p hp => by rw [yfr_1 fr 11 p (by decide)]; exact hR p hp) (fun g hg => by rw [yfr_1 b3 133 g (by decide)]; exact a2 g hg) (fun g => ⟨by show 0 < 256; decide, fun q hq => absurd hq yb_0⟩) b2 (Nat.le_refl 0)
  refine ⟨m3, ?_, yfr_t fr c5⟩
  have tot : ysm (fun t => ws t * yff k t) 9 = yck R k (2 ^ n - 1) := by
    have c4' : ysm (fun t => ws t * yff k t) 9 = ysm (fun t => 0 * yff k t) 9 + yCC R k n 0 (fun _ => 0) 0 := c4 k
    rw [c4', yCC_A hG.2.2.2 n 0 (fun _ => 0) 0 (fun j => ⟨fun h => absurd rfl h, fun h => absurd h (Nat.not_lt_zero j)⟩), yck_A hG.2.2.2 n k]
    have z : ysm (fun t => 0 * yff k t) 9 = 0 := by
      rw [ysm_c (g := fun _ => 0) (fun t _ => Nat.zero_mul _)]; rfl
    have o : yff k 0 = 1 := rfl
    rw [z, o, Nat.one_mul, Nat.zero_add]
  have e59 := s_co_59 hk c3 9 0 rfl
  rw [tot] at e59
  apply fX10_colourings_132_10_i
  rw [a1]
  apply b1
  apply bX10_colourings_132_10_6_i
  have N2 : m2.1 10 0 = nI n := by rw [yfr_1 fr 10 0 (by decide)]; exact hN
  have cg : xcg 112 10 113 [.ref 11, .ref 133, .ref 135, .int (0 : Int32), .int (nI n), .int (0 : Int32)] [] = true := xcg_112
  have c1' : fX10_part 11 133 135 (0 : Int32) (nI n) (0 : Int32) m2 = some m3 := c1
  simp (disch := omega) only [yl3, yl4, yl5, yl6, yl7, yl8, yl9, yl10, yl13, yl16, yl20, yl21, yl22, yl23, yl24, yl32, yl40, yl48, yl57, yl59, yl63, yl64, yl97, yl99, yl122, yl255, yl256, yl400, yl1000, yl2000, yl2048, yc0_eq, yc0_eq2, yc0_le, yc0_ge, yc0_lt, yc0_gt, yc0_ad, yc0_da, yc0_sb, yc0_ml, yc0_lm, yc1_eq, yc1_eq2, yc1_le, yc1_ge, yc1_lt, yc1_gt, yc1_ad, yc1_da, yc1_sb, yc1_ml, yc1_lm, yc2_eq, yc2_eq2, yc2_le, yc2_ge, yc2_lt, yc2_gt, yc2_ad, yc2_da, yc2_sb, yc2_ml, yc2_lm, yc31_ge, ymodn, yI_1sl, yc2_dv, yn1_eq, yn1_lt, xgd_t, xlt_e, Option.bind_some, nI_add, pk_mul, pk_sub, pk_div, pk_rem, yI_and, yI_or, yI_xor, yI_nd, yI_nd2, yI_31, yI_shl, nI_leI, nI_ltI, nI_eq, nI_clamp, xinb_t, yP_z, yP_if, if_pos, N2, if_neg, cg, c1']
  exact e59
/-! the model -/
theorem yck_0 (R : Nat → Nat) : ∀ c, yck R c 0 = 1 := by
  intro c
  induction c with
  | zero => rfl
  | succ c ih =>
    have e : yck R (c + 1) 0 = ysm (fun v => yif (ysb v 0 ∧ yap R v) (yck R c (ynd 0 v)) 0) 1 := rfl
    have t : ysb 0 0 ∧ yap R 0 := ⟨fun _ h => h, fun p q h => absurd h yb_0⟩
    rw [e, ysm_s]
    rw [yif_t t]
    have : ynd 0 0 = 0 := rfl
    rw [this, ih]; rfl
def ymC (n : Nat) (R : Nat → Nat) (c w : Nat) (m : xmm) : Prop := (∀ c' w', c' < c → w' < 2 ^ n → m.1 178 (256 * c' + w') = nI (yck R c' w')) ∧ ∀ w', w' < w → m.1 178 (256 * c + w') = nI (yck R c w')
noncomputable def yFv (R : Nat → Nat) (c w v : Nat) : Nat := yif (ysb v w ∧ yap R v) (yck R c (ynd w v)) 0
