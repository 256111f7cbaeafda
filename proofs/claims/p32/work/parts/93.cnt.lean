/-! counts: one-to-one maps, turns without a fixed place, parts of what is counted -/
theorem wls_len (P : Nat → Prop) : ∀ n : Nat, (yls P n).length = yct P n
  | 0 => rfl
  | n + 1 => by
    rw [yls_s, List.length_append, wls_len P n, yct_s]
    by_cases h : P n
    · rw [yif_t h, yif_t h]; rfl
    · rw [yif_f h, yif_f h]; rfl
theorem wct_h (P : Nat → Prop) (n : Nat) : yhc (fun k => k < n ∧ P k) (yct P n) := ⟨yls P n, yls_n P n, fun x => yls_m P x n, wls_len P n⟩
theorem wct_b {P Q : Nat → Prop} {n m : Nat} (f f' : Nat → Nat) (h1 : ∀ x, x < n → P x → f x < m ∧ Q (f x) ∧ f' (f x) = x) (h2 : ∀ y, y < m → Q y → f' y < n ∧ P (f' y) ∧ f (f' y) = y) : yct P n = yct Q m :=
  yhc_u (yhc_b (P := fun k => k < n ∧ P k) (Q := fun k => k < m ∧ Q k) f f' (fun x hx => ⟨⟨(h1 x hx.1 hx.2).1, (h1 x hx.1 hx.2).2.1⟩, (h1 x hx.1 hx.2).2.2⟩) (fun y hy => ⟨⟨(h2 y hy.1 hy.2).1, (h2 y hy.1 hy.2).2.1⟩, (h2 y hy.1 hy.2).2.2⟩) (wct_h P n)) (wct_h Q m)
theorem wct_rm {P : Nat → Prop} {q n : Nat} (hq : q < n) (h : P q) : yct P n = yct (fun x => P x ∧ x ≠ q) n + 1 := by
  have a := yhc_or (wct_h (fun x => P x ∧ x ≠ q) n) (yhc_1 (P := fun x => x = q) q rfl (fun x hx => hx)) (fun x hx e => hx.2.2 e)
  refine yhc_u (wct_h P n) (yhc_c (fun x => ⟨fun hx => ?_, fun hx => ?_⟩) a)
  · rcases hx with hx | hx
    · exact ⟨hx.1, hx.2.1⟩
    · have hx : x = q := hx
      subst hx
      exact ⟨hq, h⟩
  · by_cases e : x = q
    · exact Or.inr e
    · exact Or.inl ⟨hx.1, hx.2, e⟩
theorem winj : ∀ (k : Nat) {P : Nat → Prop} {n : Nat} (f : Nat → Nat), (∀ q, q < n → P q → f q < k) → (∀ q r, q < n → r < n → P q → P r → f q = f r → q = r) → yct P n ≤ k := by
  intro k
  induction k with
  | zero => intro P n f h1 _; rw [yct_0 (fun q hq hp => absurd (h1 q hq hp) (Nat.not_lt_zero _))]; exact Nat.le_refl 0
  | succ k ih =>
    intro P n f h1 h2
    by_cases hx : ∃ q, q < n ∧ P q ∧ f q = k
    · obtain ⟨q, hq, hp, e⟩ := hx
      rw [wct_rm hq hp]
      have := ih (P := fun x => P x ∧ x ≠ q) (n := n) f (fun r hr hpr => by
        have a := h1 r hr hpr.1
        have b : f r ≠ k := fun t => hpr.2 (h2 r q hr hq hpr.1 hp (t.trans e.symm))
        omega) (fun r s hr hs hpr hps => h2 r s hr hs hpr.1 hps.1)
      omega
    · have := ih (P := P) (n := n) f (fun r hr hpr => by
        have a := h1 r hr hpr
        have b : f r ≠ k := fun t => hx ⟨r, hr, hpr, t⟩
        omega) h2
      omega
theorem weven {P : Nat → Prop} {n : Nat} (φ : Nat → Nat) (h : ∀ x, x < n → P x → φ x < n ∧ P (φ x) ∧ φ (φ x) = x ∧ φ x ≠ x) : ∃ w, yct P n = 2 * w ∧ w = yct (fun x => P x ∧ x < φ x) n := by
  have e1 : yct P n = yct (fun x => P x ∧ x < φ x) n + yct (fun x => P x ∧ φ x < x) n := by
    refine yhc_u (wct_h P n) (yhc_c (fun x => ⟨fun hx => ?_, fun hx => ?_⟩) (yhc_or (wct_h (fun x => P x ∧ x < φ x) n) (wct_h (fun x => P x ∧ φ x < x) n) (fun x hx hy => by have := hx.2.2; have := hy.2.2; omega)))
    · rcases hx with hx | hx
      · exact ⟨hx.1, hx.2.1⟩
      · exact ⟨hx.1, hx.2.1⟩
    · have := (h x hx.1 hx.2).2.2.2
      rcases Nat.lt_or_gt_of_ne this with t | t
      · exact Or.inr ⟨hx.1, hx.2, t⟩
      · exact Or.inl ⟨hx.1, hx.2, t⟩
  have e2 : yct (fun x => P x ∧ x < φ x) n = yct (fun x => P x ∧ φ x < x) n := wct_b φ φ (fun x hx hp => by
    obtain ⟨a, b, c, d⟩ := h x hx hp.1
    exact ⟨a, ⟨b, by rw [c]; exact hp.2⟩, c⟩) (fun x hx hp => by
    obtain ⟨a, b, c, d⟩ := h x hx hp.1
    exact ⟨a, ⟨b, by rw [c]; exact hp.2⟩, c⟩)
  exact ⟨_, by omega, rfl⟩
theorem wsub {α : Type} {P Q : α → Prop} {j : Nat} (h : yhc Q j) (hs : ∀ x, P x → Q x) : ∃ k, k ≤ j ∧ yhc P k := by
  obtain ⟨l, h1, h2, h3⟩ := h
  refine ⟨(l.filter (fun x => @decide (P x) (Classical.propDecidable _))).length, by rw [← h3]; exact List.length_filter_le _ _, _, List.Pairwise.filter _ h1, fun x => ?_, rfl⟩
  rw [List.mem_filter]
  constructor
  · intro hx
    exact @of_decide_eq_true _ (Classical.propDecidable _) hx.2
  · intro hx
    exact ⟨(h2 x).mpr (hs x hx), @decide_eq_true _ (Classical.propDecidable _) hx⟩
theorem wmono {α : Type} {P Q : α → Prop} {k j : Nat} (h : yhc P k) (h2 : yhc Q j) (hs : ∀ x, P x → Q x) : k ≤ j := by
  obtain ⟨i, h3, h4⟩ := wsub h2 hs
  rw [yhc_u h h4]
  exact h3
theorem wct_all (n : Nat) : yct (fun _ => True) n = n := by
  induction n with
  | zero => rfl
  | succ n ih => rw [yct_s, ih, yif_t True.intro]
/-! the greatest set of a kind -/
theorem wgs_P {P : Nat → Prop} (h0 : P 0) : ∀ k, P (ygs P k)
  | 0 => h0
  | k + 1 => by
    rw [ygs_s]
    by_cases h : P k ∧ ypp (ygs P k) < ypp k
    · rw [yif_t h]; exact h.1
    · rw [yif_f h]; exact wgs_P h0 k
theorem wgs_ge {P : Nat → Prop} : ∀ (k S : Nat), S < k → P S → ypp S ≤ ypp (ygs P k)
  | 0, S, h, _ => absurd h (Nat.not_lt_zero S)
  | k + 1, S, h, hS => by
    rw [ygs_s]
    by_cases c : P k ∧ ypp (ygs P k) < ypp k
    · rw [yif_t c]
      by_cases e : S = k
      · rw [e]; exact Nat.le_refl _
      · have := wgs_ge k S (by omega) hS
        omega
    · rw [yif_f c]
      by_cases e : S = k
      · subst e
        by_cases d : ypp (ygs P S) < ypp S
        · exact absurd ⟨hS, d⟩ c
        · omega
      · exact wgs_ge k S (by omega) hS
