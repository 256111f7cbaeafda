/-! the model's fewest CHAINS -/
def ysp (R : Nat → Nat) (w c : Nat) : Prop := ∃ f : Nat → Nat, (∀ q, yb w q → f q < c) ∧ ∀ q r, q ≠ r → yb w q → yb w r → f q = f r → yad R q r
theorem ybge {w q : Nat} (h : yb w q) : 2 ^ q ≤ w := ysb_le fun a ha => by rw [yb_pw.mp ha]; exact h
theorem ysp_w (R : Nat → Nat) (w : Nat) : ysp R w w := ⟨fun q => q, fun q hq => Nat.lt_of_lt_of_le Nat.lt_two_pow_self (ybge hq), fun q r h _ _ e => absurd e h⟩
theorem ysp_n (R : Nat → Nat) {w n : Nat} (h : w < 2 ^ n) : ysp R w n := ⟨fun q => q, fun _ hq => ytb_of h hq, fun q r h _ _ e => absurd e h⟩
noncomputable def ymw (R : Nat → Nat) (w : Nat) : Nat := Classical.choose (yleast (P := ysp R w) ⟨w, ysp_w R w⟩)
theorem ymw_s (R : Nat → Nat) (w : Nat) : ysp R w (ymw R w) ∧ ∀ c, c < ymw R w → ¬ ysp R w c := Classical.choose_spec (yleast (P := ysp R w) ⟨w, ysp_w R w⟩)
theorem ymw_le {R : Nat → Nat} {w c : Nat} (h : ysp R w c) : ymw R w ≤ c := by
  rcases Nat.lt_or_ge c (ymw R w) with g | g
  · exact absurd h ((ymw_s R w).2 c g)
  · exact g
theorem ymw_0 (R : Nat → Nat) : ymw R 0 = 0 := Nat.le_zero.mp (ymw_le (ysp_w R 0))
theorem ysp_b {R : Nat → Nat} {w own c : Nat} (h2 : ychn R own) (h : ysp R (ynd w own) c) : ysp R w (c + 1) := by
  obtain ⟨f, f1, f2⟩ := h
  refine ⟨fun q => if own.testBit q = true then c else f q, fun q hq => ?_, fun q r hqr hq hr e => ?_⟩
  · dsimp only
    by_cases hb : own.testBit q = true
    · rw [if_pos hb]; omega
    · rw [if_neg hb]
      have := f1 q (yb_nd.mpr ⟨hq, hb⟩)
      omega
  · dsimp only at e
    by_cases hb : own.testBit q = true
    · by_cases hc : own.testBit r = true
      · exact h2 q r hqr hb hc
      · rw [if_pos hb, if_neg hc] at e
        have := f1 r (yb_nd.mpr ⟨hr, hc⟩)
        omega
    · rw [if_neg hb] at e
      have b1 := f1 q (yb_nd.mpr ⟨hq, hb⟩)
      by_cases hc : own.testBit r = true
      · rw [if_pos hc] at e
        omega
      · rw [if_neg hc] at e
        exact f2 q r hqr (yb_nd.mpr ⟨hq, hb⟩) (yb_nd.mpr ⟨hr, hc⟩) e
theorem ysp_x {R : Nat → Nat} {w c : Nat} (h0 : w ≠ 0) (h : ysp R w c) : ∃ own, own ≠ 0 ∧ ysb own w ∧ ychn R own ∧ ∃ c', c = c' + 1 ∧ ysp R (ynd w own) c' := by
  obtain ⟨f, f1, f2⟩ := h
  obtain ⟨a, ha⟩ := yex_ne h0
  have b1 := f1 a ha
  have hin : ∀ q, yb (ybs (fun q => yb w q ∧ f q = f a) w) q ↔ yb w q ∧ f q = f a := fun q => yb_bs.trans ⟨fun t => t.2, fun t => ⟨Nat.lt_of_lt_of_le Nat.lt_two_pow_self (ybge t.1), t⟩⟩
  refine ⟨ybs (fun q => yb w q ∧ f q = f a) w, fun e => ?_, fun q hq => ((hin q).mp hq).1, fun p q hpq hp hq => ?_, c - 1, by omega, fun q => if f q = c - 1 then f a else f q, fun q hq => ?_, fun q r hqr hq hr e => ?_⟩
  · have := (hin a).mpr ⟨ha, rfl⟩
    rw [e] at this
    exact yb_0 this
  · have t1 := (hin p).mp hp
    have t2 := (hin q).mp hq
    exact f2 p q hpq t1.1 t2.1 (t1.2.trans t2.2.symm)
  · have t := yb_nd.mp hq
    have b2 := f1 q t.1
    have b3 : f q ≠ f a := fun e => t.2 ((hin q).mpr ⟨t.1, e⟩)
    dsimp only
    by_cases e : f q = c - 1
    · rw [if_pos e]; omega
    · rw [if_neg e]; omega
  · have t := yb_nd.mp hq
    have s := yb_nd.mp hr
    have b2 : f q ≠ f a := fun e => t.2 ((hin q).mpr ⟨t.1, e⟩)
    have b3 : f r ≠ f a := fun e => s.2 ((hin r).mpr ⟨s.1, e⟩)
    dsimp only at e
    refine f2 q r hqr t.1 s.1 ?_
    by_cases e1 : f q = c - 1
    · by_cases e2 : f r = c - 1
      · omega
      · rw [if_pos e1, if_neg e2] at e
        exact absurd e.symm b3
    · by_cases e2 : f r = c - 1
      · rw [if_neg e1, if_pos e2] at e
        exact absurd e b2
      · rw [if_neg e1, if_neg e2] at e
        exact e
theorem yfull {n q : Nat} : yb (2 ^ n - 1) q ↔ q < n := by
  show (2 ^ n - 1).testBit q = true ↔ q < n
  rw [Nat.testBit_two_pow_sub_one, decide_eq_true_iff]
theorem ysp_Ex {R : Nat → Nat} (hsy : ysy (yad R)) {n c : Nat} : ysp R (2 ^ n - 1) c ↔ yEx R n c 0 (fun _ => 0) := by
  constructor
  · rintro ⟨f, f1, f2⟩
    exact ⟨f, fun q _ hq => ⟨f1 q (yfull.mpr hq), fun r hr => absurd hr yb_0⟩, fun q r _ hqr hr e => f2 q r (by omega) (yfull.mpr (by omega)) (yfull.mpr hr) e⟩
  · rintro ⟨f, f1, f2⟩
    refine ⟨f, fun q hq => (f1 q (Nat.zero_le q) (yfull.mp hq)).1, fun q r hqr hq hr e => ?_⟩
    rcases Nat.lt_or_ge q r with g | g
    · exact f2 q r (Nat.zero_le q) g (yfull.mp hr) e
    · exact hsy.1 _ _ (f2 r q (Nat.zero_le r) (by omega) (yfull.mp hq) e.symm)
theorem ymw_nc {R : Nat → Nat} (hsy : ysy (yad R)) (n : Nat) : ymw R (2 ^ n - 1) = ync R n := by
  have a1 := ymw_s R (2 ^ n - 1)
  have a2 := ync_s R n
  rcases Nat.lt_trichotomy (ymw R (2 ^ n - 1)) (ync R n) with g | g | g
  · exact absurd ((ysp_Ex hsy).mp a1.1) (a2.2 _ g)
  · exact g
  · exact absurd ((ysp_Ex hsy).mpr a2.1) (a1.2 _ g)
/-! the first sharing -/
theorem ychn_or {R : Nat → Nat} (hsy : ysy (yad R)) {S p : Nat} (h : ychn R S) (hp : ¬ yb S p) : ychn R (S ||| 2 ^ p) ↔ ycpt R S p := by
  constructor
  · intro h2 q hq
    exact h2 p q (fun e => hp (by rw [e]; exact hq)) (yb_or.mpr (Or.inr (yb_pw.mpr rfl))) (yb_or.mpr (Or.inl hq))
  · intro h2 a b hab ha hb
    rcases yb_or.mp ha with a1 | a1
    · rcases yb_or.mp hb with b1 | b1
      · exact h a b hab a1 b1
      · rw [yb_pw.mp b1]
        exact hsy.1 _ _ (h2 a a1)
    · rcases yb_or.mp hb with b1 | b1
      · rw [yb_pw.mp a1]
        exact h2 b b1
      · exact absurd ((yb_pw.mp a1).trans (yb_pw.mp b1).symm) hab
theorem yxor_pw {S p : Nat} (hp : ¬ yb S p) : (S ||| 2 ^ p) ^^^ 2 ^ p = S := by
  rw [yxor_nd (fun i hi => yb_or.mpr (Or.inr hi))]
  apply ytb_ext
  intro i
  have e := yb_nd (A := S ||| 2 ^ p) (B := 2 ^ p) (a := i)
  rw [yb_or, yb_pw] at e
  constructor
  · intro hi
    have := e.mp hi
    exact this.1.elim id fun t => absurd t this.2
  · intro hi
    refine e.mpr ⟨Or.inl hi, fun t => ?_⟩
    subst t
    exact hp hi
theorem yneg1 (k : Nat) : nI (k + 1) + (-1 : Int32) = nI k := by
  have : nI (k + 1) + (-1 : Int32) = nI (k + 1) - 1 := by rw [Int32.sub_eq_add_neg]
  rw [this]
  exact nI_pred k
