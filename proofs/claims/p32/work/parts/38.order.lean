/-! the arrows are an order -/
theorem yT_st {R : Nat → Nat} (hR : yGd R) (ho : yord (yad R)) (b : Nat) : ∀ i, i ≤ yN R b → yord (yad (yLs R b i)) ∧ ∀ T', yTO (yad (yLs R b i)) T' → yTO (yad R) fun a c => yTi R b i a c ∨ T' a c
  | 0 => fun _ => ⟨ho, fun T' hT => by
    have e : (fun a c => yTi R b 0 a c ∨ T' a c) = T' := by
      funext a c
      apply propext
      exact ⟨fun h => h.elim (fun ⟨j, hj, _⟩ => absurd hj (Nat.not_lt_zero j)) id, Or.inr⟩
    rw [e]
    exact hT⟩
  | i + 1 => fun hi => by
    obtain ⟨h1, h2⟩ := yT_st hR ho b i (by omega)
    have hL := yLs_gd hR b i
    have hex := (yN_s hR b).2 i (by omega)
    obtain ⟨x64, xar⟩ := ysq_ar hL b i hex
    have e : yad (yLs R b (i + 1)) = yle (yad (yLs R b i)) (yan (ysq b i (ylo (yLs R b i)))) := by
      rw [yLs_s, yif_t hex, ylr_ad hL]
    rw [e]
    refine ⟨yord_le hL.2.1 h1 xar, fun T' hT => ?_⟩
    have h3 := h2 _ (yTO_u hL.2.1 xar (h1 _ xar) hT)
    have e2 : (fun a c => yTi R b (i + 1) a c ∨ T' a c) = fun a c => yTi R b i a c ∨ (ycl (yad (yLs R b i)) (yan (ysq b i (ylo (yLs R b i)))) (a, c) ∨ T' a c) := by
      funext a c
      apply propext
      constructor
      · rintro (⟨j, j1, j2⟩ | h)
        · by_cases ej : j = i
          · subst ej; exact Or.inr (Or.inl j2.2)
          · exact Or.inl ⟨j, by omega, j2⟩
        · exact Or.inr (Or.inr h)
      · rintro (⟨j, j1, j2⟩ | h | h)
        · exact Or.inl ⟨j, by omega, j2⟩
        · exact Or.inl ⟨i, by omega, hex, h⟩
        · exact Or.inr h
    rw [e2]
    exact h3
theorem yT_TO {R : Nat → Nat} (hR : yGd R) (ho : yord (yad R)) (b : Nat) : yTO (yad R) (yT R b) := by
  have h := (yT_st hR ho b (yN R b) (Nat.le_refl _)).2 (fun _ _ => False) ⟨fun _ _ h => h.elim, fun a c h => ?_, fun _ _ h => h.elim, fun _ _ _ h => h.elim⟩
  · have e : (fun a c => yTi R b (yN R b) a c ∨ False) = yT R b := by
      funext a c
      apply propext
      exact ⟨fun h => h.elim id False.elim, Or.inl⟩
    rw [e] at h
    exact h
  · obtain ⟨k, k1, k2⟩ := yan_ex (yLs_gd hR b (yN R b)).2.2 (y := (a, c)) h
    refine absurd ⟨k, ?_⟩ (yN_s hR b).1
    unfold yar
    rw [k2]
    exact h
/-- an order of the posts below n -/
def yPo (n : Nat) (T : yG) : Prop := (∀ a c, T a c → a < n ∧ c < n) ∧ (∀ a, ¬ T a a) ∧ ∀ a b c, T a b → T b c → T a c
theorem yTO_po {R : Nat → Nat} {n : Nat} (hn : ∀ a c, yad R a c → a < n ∧ c < n) {T : yG} (h : yTO (yad R) T) : yPo n T := ⟨fun a c e => hn a c (h.1 a c e), fun a e => h.2.2.1 a a e e, h.2.2.2⟩
/-- networks: n posts, rows within -/
def yGr (n : Nat) (R : Nat → Nat) : Prop := n ≤ 8 ∧ (∀ p, R p < 2 ^ n) ∧ (∀ p, n ≤ p → R p = 0) ∧ ysy (yad R)
theorem yGr_n {n : Nat} {R : Nat → Nat} (h : yGr n R) {a c : Nat} (e : yad R a c) : a < n ∧ c < n := by
  have e' : yb (R a) c := e
  refine ⟨?_, ytb_of (h.2.1 a) e'⟩
  rcases Nat.lt_or_ge a n with h1 | h1
  · exact h1
  · rw [h.2.2.1 a h1] at e'
    exact absurd e' yb_0
theorem yGr_8 {n : Nat} {R : Nat → Nat} (h : yGr n R) (p : Nat) : R p < 256 := Nat.lt_of_lt_of_le (h.2.1 p) (Nat.pow_le_pow_right (by decide) h.1)
theorem yGr_gd {n : Nat} {R : Nat → Nat} (h : yGr n R) : yGd R := ⟨fun p _ => yGr_8 h p, h.2.2.2, fun a b e => by have := yGr_n h e; have := h.1; omega⟩
/-- the other network -/
noncomputable def yop (n : Nat) (R : Nat → Nat) : Nat → Nat := fun p => yif (p < n) (ynd (ynd (2 ^ n - 1) (R p)) (2 ^ p)) 0
theorem yop_b {n : Nat} {R : Nat → Nat} {a c : Nat} : yad (yop n R) a c ↔ a < n ∧ c < n ∧ a ≠ c ∧ ¬ yad R a c := by
  show yb (yop n R a) c ↔ _
  unfold yop
  by_cases h : a < n
  · rw [yif_t h, yb_nd, yb_nd, yb_pw]
    have : yb (2 ^ n - 1) c ↔ c < n := by
      unfold yb
      rw [Nat.testBit_two_pow_sub_one, decide_eq_true_iff]
    rw [this]
    constructor
    · rintro ⟨⟨h1, h2⟩, h3⟩
      exact ⟨h, h1, fun e => h3 e.symm, h2⟩
    · rintro ⟨_, h1, h2, h3⟩
      exact ⟨⟨h1, h3⟩, fun e => h2 e.symm⟩
  · rw [yif_f h]
    exact ⟨fun e => absurd e yb_0, fun e => absurd e.1 h⟩
theorem yop_gr {n : Nat} {R : Nat → Nat} (h : yGr n R) : yGr n (yop n R) := by
  refine ⟨h.1, fun p => ?_, fun p hp => ?_, fun a b e => ?_, fun a e => ?_⟩
  · apply ytb_lt
    intro i hi
    exact (yop_b.mp hi).2.1
  · unfold yop
    exact yif_f (by omega)
  · rw [yop_b] at e ⊢
    exact ⟨e.2.1, e.1, e.2.2.1.symm, fun e2 => e.2.2.2 (h.2.2.2.1 _ _ e2)⟩
  · exact (yop_b.mp e).2.2.1 rfl
theorem yT_po {n : Nat} {R : Nat → Nat} (h : yGr n R) (ho : yord (yad R)) (b : Nat) : yPo n (yT R b) := yTO_po (fun _ _ => yGr_n h) (yT_TO (yGr_gd h) ho b)
theorem yro_b {n : Nat} {T : yG} (h : yPo n T) (hn : n ≤ 8) {a c : Nat} : yb (yro T a) c ↔ T a c := by
  show yb (ybs _ 8) c ↔ _
  rw [yb_bs]
  exact ⟨fun e => e.2, fun e => ⟨by have := (h.1 _ _ e).2; omega, e⟩⟩
theorem yci_b {n : Nat} {T : yG} (h : yPo n T) (hn : n ≤ 8) {a c : Nat} : yb (yci T c) a ↔ T a c := by
  show yb (ybs _ 8) a ↔ _
  rw [yb_bs]
  exact ⟨fun e => e.2, fun e => ⟨by have := (h.1 _ _ e).1; omega, e⟩⟩
