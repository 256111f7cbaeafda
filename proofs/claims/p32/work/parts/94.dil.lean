/-! as many chains take all as the widest set apart has -/
def wan (T : yG) (S A : Nat) : Prop := ysb A S ∧ ∀ p q, yb A p → yb A q → ¬ T p q
def wcv (T : yG) (S c : Nat) : Prop := ∃ f : Nat → Nat, (∀ q, yb S q → f q < c) ∧ ∀ q r, yb S q → yb S r → q ≠ r → f q = f r → T q r ∨ T r q
theorem wrev {n : Nat} {T : yG} (hT : yPo n T) : yPo n (fun a b => T b a) := ⟨fun a c h => ⟨(hT.1 c a h).2, (hT.1 c a h).1⟩, hT.2.1, fun a b c h h2 => hT.2.2 c b a h2 h⟩
theorem wmax {n : Nat} {T : yG} (hT : yPo n T) {P : Nat → Prop} (h : ∃ p, P p) : ∃ p, P p ∧ ∀ q, T p q → ¬ P q := yex_min (wrev hT) h
theorem wb8 {S q : Nat} (hS : S < 256) (h : yb S q) : q < 8 := ytb_of (n := 8) hS h
theorem wan_t {T : yG} {S S' A : Nat} (hs : ysb S' S) (h : wan T S' A) : wan T S A := ⟨ysb_t h.1 hs, h.2⟩
set_option maxHeartbeats 1000000 in
theorem wdil {n : Nat} {T : yG} (hT : yPo n T) : ∀ (S : Nat), S < 256 → ∀ k, (∀ A, wan T S A → ypp A ≤ k) → wcv T S k := by
  intro S
  induction S using Nat.strongRecOn with
  | _ S ih =>
  intro hS k hk
  by_cases h0 : S = 0
  · subst h0
    exact ⟨fun _ => 0, fun q hq => absurd hq yb_0, fun q r hq => absurd hq yb_0⟩
  obtain ⟨a, ha, hmax⟩ := wmax hT (yex_ne h0)
  have hsub : ysb (ynd S (2 ^ a)) S := fun q hq => (yb_nd.mp hq).1
  have hmem : ∀ q, yb (ynd S (2 ^ a)) q ↔ yb S q ∧ q ≠ a := fun q => by
    rw [yb_nd, yb_pw]
  have hlt : ynd S (2 ^ a) < S := ysb_lt hsub ha (fun h => ((hmem a).mp h).2 rfl)
  obtain ⟨k', hk1, hk2⟩ := yleast (P := fun j => ∀ A, wan T (ynd S (2 ^ a)) A → ypp A ≤ j) ⟨8, fun A _ => ypp_le A⟩
  obtain ⟨f, hf1, hf2⟩ := ih _ hlt (by omega) k' hk1
  by_cases hkk : k' < k
  · refine ⟨fun q => if q = a then k' else f q, fun q hq => ?_, fun q r hq hr hne he => ?_⟩
    · show (if q = a then k' else f q) < k
      by_cases e : q = a
      · rw [if_pos e]; exact hkk
      · rw [if_neg e]; exact Nat.lt_trans (hf1 q ((hmem q).mpr ⟨hq, e⟩)) hkk
    · have he : (if q = a then k' else f q) = (if r = a then k' else f r) := he
      by_cases e : q = a
      · have e2 : r ≠ a := fun t => hne (e.trans t.symm)
        rw [if_pos e, if_neg e2] at he
        have := hf1 r ((hmem r).mpr ⟨hr, e2⟩)
        omega
      · by_cases e2 : r = a
        · rw [if_neg e, if_pos e2] at he
          have := hf1 q ((hmem q).mpr ⟨hq, e⟩)
          omega
        · rw [if_neg e, if_neg e2] at he
          exact hf2 q r ((hmem q).mpr ⟨hq, e⟩) ((hmem r).mpr ⟨hr, e2⟩) hne he
  -- as wide without a
  have hex : ∃ A, wan T (ynd S (2 ^ a)) A ∧ k' ≤ ypp A := by
    by_cases hz : k' = 0
    · exact ⟨0, ⟨fun q hq => absurd hq yb_0, fun p q hp => absurd hp yb_0⟩, by omega⟩
    · have := hk2 (k' - 1) (by omega)
      refine Classical.byContradiction fun hc => this fun A hA => ?_
      have : ¬ k' ≤ ypp A := fun t => hc ⟨A, hA, t⟩
      omega
  obtain ⟨A0, hA0, hA0k⟩ := hex
  have hle := hk A0 (wan_t hsub hA0)
  have ek : k' = k := by omega
  subst ek
  have hinj : ∀ B, wan T (ynd S (2 ^ a)) B → ∀ y z, yb B y → yb B z → f y = f z → y = z := by
    intro B hB y z hy hz e
    refine Classical.byContradiction fun hn => ?_
    rcases hf2 y z (hB.1 y hy) (hB.1 z hz) hn e with h | h
    · exact hB.2 y z hy hz h
    · exact hB.2 z y hz hy h
  have hmeet : ∀ B, wan T (ynd S (2 ^ a)) B → ypp B = k' → ∀ i, i < k' → ∃ y, yb B y ∧ f y = i := by
    intro B hB hBk i hi
    refine Classical.byContradiction fun hn => ?_
    have := winj (k' - 1) (P := fun q => yb B q) (n := 8) (fun q => if f q = k' - 1 then i else f q) (fun q _ hq => by
      have h1 := hf1 q (hB.1 q hq)
      have h2 : f q ≠ i := fun t => hn ⟨q, hq, t⟩
      show (if f q = k' - 1 then i else f q) < k' - 1
      by_cases e : f q = k' - 1
      · rw [if_pos e]; omega
      · rw [if_neg e]; omega) (fun q r _ _ hq hr e => by
      have h2 : f q ≠ i := fun t => hn ⟨q, hq, t⟩
      have h3 : f r ≠ i := fun t => hn ⟨r, hr, t⟩
      have e : (if f q = k' - 1 then i else f q) = (if f r = k' - 1 then i else f r) := e
      apply hinj B hB q r hq hr
      by_cases e1 : f q = k' - 1
      · by_cases e2 : f r = k' - 1
        · omega
        · rw [if_pos e1, if_neg e2] at e; omega
      · by_cases e2 : f r = k' - 1
        · rw [if_neg e1, if_pos e2] at e; omega
        · rw [if_neg e1, if_neg e2] at e; exact e)
    have h4 : ypp B = yct (fun q => yb B q) 8 := rfl
    omega
  have hch : ∀ i, i < k' → ∃ x, (yb (ynd S (2 ^ a)) x ∧ f x = i ∧ ∃ B, wan T (ynd S (2 ^ a)) B ∧ ypp B = k' ∧ yb B x) ∧ ∀ c, T x c → ¬ (yb (ynd S (2 ^ a)) c ∧ f c = i ∧ ∃ B, wan T (ynd S (2 ^ a)) B ∧ ypp B = k' ∧ yb B c) := by
    intro i hi
    refine wmax hT ?_
    have hAk : ypp A0 = k' := by omega
    obtain ⟨y, hy, e⟩ := hmeet A0 hA0 hAk i hi
    exact ⟨y, hA0.1 y hy, e, A0, hA0, hAk, hy⟩
  obtain ⟨x, hx⟩ : ∃ x : Nat → Nat, ∀ i, i < k' → (yb (ynd S (2 ^ a)) (x i) ∧ f (x i) = i ∧ ∃ B, wan T (ynd S (2 ^ a)) B ∧ ypp B = k' ∧ yb B (x i)) ∧ ∀ c, T (x i) c → ¬ (yb (ynd S (2 ^ a)) c ∧ f c = i ∧ ∃ B, wan T (ynd S (2 ^ a)) B ∧ ypp B = k' ∧ yb B c) := by
    refine ⟨fun i => if h : i < k' then Classical.choose (hch i h) else 0, fun i hi => ?_⟩
    have e : (fun i => if h : i < k' then Classical.choose (hch i h) else 0) i = Classical.choose (hch i hi) := dif_pos hi
    rw [e]
    exact Classical.choose_spec (hch i hi)
  have hup : ∀ i, i < k' → ∀ B, wan T (ynd S (2 ^ a)) B → ypp B = k' → ∃ y, yb B y ∧ f y = i ∧ (y = x i ∨ T y (x i)) := by
    intro i hi B hB hBk
    obtain ⟨y, hy, e⟩ := hmeet B hB hBk i hi
    refine ⟨y, hy, e, ?_⟩
    by_cases ey : y = x i
    · exact Or.inl ey
    · rcases hf2 y (x i) (hB.1 y hy) (hx i hi).1.1 ey (e.trans (hx i hi).1.2.1.symm) with h | h
      · exact Or.inr h
      · exact absurd ⟨hB.1 y hy, e, B, hB, hBk, hy⟩ ((hx i hi).2 y h)
  have hAx : ∀ i j, i < k' → j < k' → ¬ T (x i) (x j) := by
    intro i j hi hj ht
    obtain ⟨B, hB, hBk, hxj⟩ := (hx j hj).1.2.2
    obtain ⟨y, hy, -, h⟩ := hup i hi B hB hBk
    rcases h with h | h
    · rw [h] at hy
      exact hB.2 _ _ hy hxj ht
    · exact hB.2 _ _ hy hxj (hT.2.2 _ _ _ h ht)
  by_cases hc : ∃ i, i < k' ∧ T (x i) a
  · obtain ⟨i, hi, hxa⟩ := hc
    have hm2 : ∀ q, yb (ybs (fun q => yb S q ∧ q ≠ a ∧ ¬ (f q = i ∧ (q = x i ∨ T q (x i)))) 8) q ↔ yb S q ∧ q ≠ a ∧ ¬ (f q = i ∧ (q = x i ∨ T q (x i))) := fun q => by
      rw [yb_bs]
      exact ⟨fun h => h.2, fun h => ⟨wb8 hS h.1, h⟩⟩
    generalize ybs (fun q => yb S q ∧ q ≠ a ∧ ¬ (f q = i ∧ (q = x i ∨ T q (x i)))) 8 = S2 at hm2
    have hs2 : ysb S2 (ynd S (2 ^ a)) := fun q hq => (hmem q).mpr ⟨((hm2 q).mp hq).1, ((hm2 q).mp hq).2.1⟩
    have hl2 : S2 < S := ysb_lt (ysb_t hs2 hsub) ha (fun h => ((hm2 a).mp h).2.1 rfl)
    obtain ⟨g, hg1, hg2⟩ := ih S2 hl2 (by omega) (k' - 1) (fun B hB => by
      have hB' : wan T (ynd S (2 ^ a)) B := wan_t hs2 hB
      have h1 := hk1 B hB'
      have h2 : ypp B ≠ k' := fun e => by
        obtain ⟨y, hy, e2, h3⟩ := hup i hi B hB' e
        exact ((hm2 y).mp (hB.1 y hy)).2.2 ⟨e2, h3⟩
      omega)
    have hin : ∀ q, yb S q → (q = a ∨ (f q = i ∧ (q = x i ∨ T q (x i)))) ∨ yb S2 q := fun q hq => by
      by_cases h1 : q = a ∨ (f q = i ∧ (q = x i ∨ T q (x i)))
      · exact Or.inl h1
      · exact Or.inr ((hm2 q).mpr ⟨hq, fun e => h1 (Or.inl e), fun e => h1 (Or.inr e)⟩)
    have hKa : ∀ r, (f r = i ∧ (r = x i ∨ T r (x i))) → T r a := fun r hr => by
      rcases hr.2 with h | h
      · rw [h]; exact hxa
      · exact hT.2.2 _ _ _ h hxa
    refine ⟨fun q => yif (q = a ∨ (f q = i ∧ (q = x i ∨ T q (x i)))) (k' - 1) (g q), fun q hq => ?_, fun q r hq hr hne he => ?_⟩
    · show yif _ _ _ < k'
      by_cases h1 : q = a ∨ (f q = i ∧ (q = x i ∨ T q (x i)))
      · rw [yif_t h1]; omega
      · rw [yif_f h1]
        have := hg1 q ((hin q hq).resolve_left h1)
        omega
    · have he : yif (q = a ∨ (f q = i ∧ (q = x i ∨ T q (x i)))) (k' - 1) (g q) = yif (r = a ∨ (f r = i ∧ (r = x i ∨ T r (x i)))) (k' - 1) (g r) := he
      by_cases h1 : q = a ∨ (f q = i ∧ (q = x i ∨ T q (x i)))
      · by_cases h2 : r = a ∨ (f r = i ∧ (r = x i ∨ T r (x i)))
        · by_cases e1 : q = a
          · have e2 : r ≠ a := fun t => hne (e1.trans t.symm)
            rw [e1]
            exact Or.inr (hKa r (h2.resolve_left e2))
          · by_cases e2 : r = a
            · rw [e2]
              exact Or.inl (hKa q (h1.resolve_left e1))
            · exact hf2 q r ((hmem q).mpr ⟨hq, e1⟩) ((hmem r).mpr ⟨hr, e2⟩) hne ((h1.resolve_left e1).1.trans (h2.resolve_left e2).1.symm)
        · rw [yif_t h1, yif_f h2] at he
          have := hg1 r ((hin r hr).resolve_left h2)
          omega
      · by_cases h2 : r = a ∨ (f r = i ∧ (r = x i ∨ T r (x i)))
        · rw [yif_f h1, yif_t h2] at he
          have := hg1 q ((hin q hq).resolve_left h1)
          omega
        · rw [yif_f h1, yif_f h2] at he
          exact hg2 q r ((hin q hq).resolve_left h1) ((hin r hr).resolve_left h2) hne he
  · exfalso
    have hA1 : ∀ q, yb (ybs (fun q => ∃ i, i < k' ∧ x i = q) 8) q ↔ ∃ i, i < k' ∧ x i = q := fun q => by
      rw [yb_bs]
      refine ⟨fun h => h.2, fun h => ⟨?_, h⟩⟩
      obtain ⟨i, hi, e⟩ := h
      rw [← e]
      exact wb8 hS (hsub _ (hx i hi).1.1)
    generalize ybs (fun q => ∃ i, i < k' ∧ x i = q) 8 = A1 at hA1
    have ha1 : ¬ yb A1 a := fun h => by
      obtain ⟨i, hi, e⟩ := (hA1 a).mp h
      have := (hx i hi).1.1
      rw [e] at this
      exact ((hmem a).mp this).2 rfl
    have hcard : ypp A1 = k' := by
      have := wct_b (P := fun _ => True) (Q := fun q => yb A1 q) (n := k') (m := 8) x f (fun i hi _ => ⟨wb8 hS (hsub _ (hx i hi).1.1), (hA1 _).mpr ⟨i, hi, rfl⟩, (hx i hi).1.2.1⟩) (fun q _ hq => by
        obtain ⟨i, hi, e⟩ := (hA1 q).mp hq
        have e2 : f q = i := by rw [← e]; exact (hx i hi).1.2.1
        exact ⟨by omega, True.intro, by rw [e2]; exact e⟩)
      rw [wct_all] at this
      exact this.symm
    have hu : ∀ q, yb (A1 ||| 2 ^ a) q ↔ yb A1 q ∨ q = a := fun q => by rw [yb_or, yb_pw]
    have hsu : ysb (A1 ||| 2 ^ a) S := fun q hq => by
      rcases (hu q).mp hq with h | h
      · obtain ⟨i, hi, e⟩ := (hA1 q).mp h
        rw [← e]
        exact hsub _ (hx i hi).1.1
      · rw [h]; exact ha
    have hlt8 : A1 ||| 2 ^ a < 2 ^ 8 := ytb_lt fun q hq => wb8 hS (hsu q hq)
    have e1 : ynd (A1 ||| 2 ^ a) (2 ^ a) = A1 := ysb_eq (fun q hq => by
      have := yb_nd.mp hq
      rcases (hu q).mp this.1 with h | h
      · exact h
      · exact absurd (yb_pw.mpr h) this.2) (fun q hq => yb_nd.mpr ⟨(hu q).mpr (Or.inl hq), fun h => ha1 (by rw [← yb_pw.mp h]; exact hq)⟩)
    have e2 := ypp_rm hlt8 ((hu a).mpr (Or.inr rfl))
    rw [e1] at e2
    have e3 := hk (A1 ||| 2 ^ a) ⟨hsu, fun p q hp hq ht => by
      rcases (hu p).mp hp with h | h
      · obtain ⟨i, hi, e⟩ := (hA1 p).mp h
        rcases (hu q).mp hq with h' | h'
        · obtain ⟨j, hj, e'⟩ := (hA1 q).mp h'
          rw [← e, ← e'] at ht
          exact hAx i j hi hj ht
        · rw [← e, h'] at ht
          exact hc ⟨i, hi, ht⟩
      · rw [h] at ht
        exact hmax q ht (hsu q hq)⟩
    omega
/-- Dilworth, as the class counts it -/
theorem wdilw {n : Nat} {R : Nat → Nat} (hG : yGr n R) (ho : yord (yad R)) : ync R n = ypp (ygs (yap R) (2 ^ n)) := by
  have hT := yT_po hG ho 0
  have hO := yT_TO (yGr_gd hG) ho 0
  have hn := hG.1
  have h256 := y2p8 hn
  have h1 := y2p1 n
  obtain ⟨⟨f, hf1, hf2⟩, hmin⟩ := ync_s R n
  have hP : yap R (ygs (yap R) (2 ^ n)) := wgs_P (fun p q hp => absurd hp yb_0) _
  have hlt : ygs (yap R) (2 ^ n) < 2 ^ n := by
    rcases ygs_lt (yap R) (2 ^ n) with h | h
    · exact h
    · omega
  refine Nat.le_antisymm ?_ ?_
  · refine Nat.le_of_not_lt fun hc => hmin _ hc ?_
    obtain ⟨g, hg1, hg2⟩ := wdil hT (2 ^ n - 1) (by omega) (ypp (ygs (yap R) (2 ^ n))) (fun A hA => by
      refine wgs_ge (2 ^ n) A ?_ fun p q hp hq ha => ?_
      · exact ytb_lt fun q hq => yall_b.mp (hA.1 q hq)
      · rcases hO.2.1 p q ha with h | h
        · exact hA.2 p q hp hq h
        · exact hA.2 q p hq hp h)
    refine ⟨g, fun q _ hq => ⟨hg1 q (yall_b.mpr hq), fun r hr => absurd hr yb_0⟩, fun q r _ hqr hr e => ?_⟩
    rcases hg2 q r (yall_b.mpr (by omega)) (yall_b.mpr hr) (by omega) e with h | h
    · exact hO.1 q r h
    · exact hG.2.2.2.1 _ _ (hO.1 r q h)
  · refine winj (ync R n) f (fun q hq hb => (hf1 q (Nat.zero_le _) (ytb_of hlt hb)).1) (fun q r hq hr hb hb' e => ?_)
    refine Classical.byContradiction fun hne => ?_
    rcases Nat.lt_or_gt_of_ne hne with h | h
    · exact hP q r hb hb' (hf2 q r (Nat.zero_le _) h (ytb_of hlt hb') e)
    · exact hP r q hb' hb (hf2 r q (Nat.zero_le _) h (ytb_of hlt hb) e.symm)
