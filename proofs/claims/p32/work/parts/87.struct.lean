/-! what a text without a FAULT of form looks like -/
def yss (kd : Nat → Nat) : Nat → Nat
  | 0 => 0
  | k + 1 => yfl (yss kd k) (kd k)
def yzpp (kd : Nat → Nat) : Nat → Nat
  | 0 => 0
  | k + 1 => yzfp (yss kd k) (yzpp kd k) (kd k)
def yhd (kd : Nat → Nat) : Nat → Nat
  | 0 => 0
  | k + 1 => if 4 ≤ kd k then k else yhd kd k
theorem yfl_9 : ∀ s, s < 9 → yfl s 9 = 8 ∧ yfl s 8 = 8 := by decide
theorem yss_8 {kd : Nat → Nat} (hkd : ∀ k, 1 ≤ kd k ∧ kd k ≤ 9) : ∀ k, yss kd k ≤ 8
  | 0 => Nat.zero_le _
  | k + 1 => yfl_b _ (by have := yss_8 hkd k; omega) _ (by have := hkd k; omega)
theorem yfo_ok {kd : Nat → Nat} : ∀ (f k : Nat), k + f = 401 → (yfo kd f (yss kd k) (yzpp kd k) k).1 = 0 → k ≤ (yfo kd f (yss kd k) (yzpp kd k) k).2 ∧ (yfo kd f (yss kd k) (yzpp kd k) k).2 ≤ 400 ∧ kd (yfo kd f (yss kd k) (yzpp kd k) k).2 = 9 ∧ yss kd (yfo kd f (yss kd k) (yzpp kd k) k).2 = 2 ∧ ∀ i, k ≤ i → i < (yfo kd f (yss kd k) (yzpp kd k) k).2 → yss kd (i + 1) ≠ 8 ∧ yzpp kd (i + 1) ≤ 8
  | 0, k, _, h => absurd h (show (2 : Nat) ≠ 0 by decide)
  | f + 1, k, hk, h => by
    by_cases q1 : kd k = 9 ∧ yss kd k = 2
    · rw [yfo_end q1]
      exact ⟨Nat.le_refl k, by show k ≤ 400; omega, q1.1, q1.2, fun i a b => by have b' : i < k := b; omega⟩
    by_cases q2 : yfl (yss kd k) (kd k) = 8
    · rw [yfo_1 q1 q2] at h
      exact absurd h (show (1 : Nat) ≠ 0 by decide)
    by_cases q3 : 8 < yzfp (yss kd k) (yzpp kd k) (kd k) ∨ ¬ k < 400
    · rw [yfo_2 q1 q2 q3] at h
      exact absurd h (show (2 : Nat) ≠ 0 by decide)
    have e : yfo kd (f + 1) (yss kd k) (yzpp kd k) k = yfo kd f (yss kd (k + 1)) (yzpp kd (k + 1)) (k + 1) := yfo_go q1 rfl q2 rfl (show yzfp (yss kd k) (yzpp kd k) (kd k) ≤ 8 by omega) (by omega)
    rw [e] at h ⊢
    obtain ⟨a1, a2, a3, a4, a5⟩ := yfo_ok f (k + 1) (by omega) h
    refine ⟨by omega, a2, a3, a4, fun i i1 i2 => ?_⟩
    by_cases g : i = k
    · subst g
      have p : yzpp kd (i + 1) = yzfp (yss kd i) (yzpp kd i) (kd i) := rfl
      exact ⟨q2, by omega⟩
    · exact a5 i (by omega) i2
theorem yhd_l {kd : Nat → Nat} : ∀ i, 0 < i → yhd kd i < i
  | i + 1, _ => by
    show (if 4 ≤ kd i then i else yhd kd i) < i + 1
    by_cases g : 4 ≤ kd i
    · rw [if_pos g]; omega
    · rw [if_neg g]
      by_cases z : 0 < i
      · have := yhd_l (kd := kd) i z; omega
      · have : i = 0 := by omega
        subst this
        exact Nat.zero_lt_one
theorem yhd_at {kd : Nat → Nat} {k : Nat} (hk : 4 ≤ kd k) : ∀ i, k < i → (∀ j, k < j → j < i → kd j < 4) → yhd kd i = k
  | i + 1, h, hj => by
    show (if 4 ≤ kd i then i else yhd kd i) = k
    by_cases g : i = k
    · rw [g, if_pos hk]
    · rw [if_neg (by have := hj i (by omega) (by omega); omega)]
      exact yhd_at hk i (by omega) (fun j a b => hj j a (by omega))
/-- a text whose form is right: K tokens, of which the q-th is the first ; -/
def yzS (kd : Nat → Nat) (K q : Nat) : Prop := (1 ≤ q ∧ q ≤ 9 ∧ q < K ∧ K ≤ 400) ∧ (kd K = 9 ∧ yss kd K = 2 ∧ kd 0 = 4 ∧ kd q = 3) ∧ (∀ j, 1 ≤ j → j < q → kd j = 1) ∧ (∀ i, i < K → 1 ≤ kd i ∧ kd i ≤ 7 ∧ yss kd (i + 1) ≠ 8) ∧ (∀ i, 1 ≤ i → i ≤ q → yhd kd i = 0 ∧ yss kd i = 1) ∧ (∀ i, q < i → i ≤ K → 2 ≤ yss kd i ∧ yss kd i ≤ 7 ∧ (3 ≤ yss kd i → q < yhd kd i ∧ yhd kd i < i ∧ yss kd (yhd kd i) = 2 ∧ (yss kd i ≤ 5 → (kd (yhd kd i) = 5 ∨ kd (yhd kd i) = 6) ∧ ∀ j, yhd kd i < j → j < i → kd j = 1) ∧ (6 ≤ yss kd i → kd (yhd kd i) = 7 ∧ ∀ j, yhd kd i < j → j < i → kd j = 2)))
theorem yfl_t : ∀ s, s < 9 → ∀ k, k < 10 → yfl s k ≠ 8 → (s = 0 ∧ k = 4 ∧ yfl s k = 1) ∨ (s = 1 ∧ k = 1 ∧ yfl s k = 1) ∨ (s = 1 ∧ k = 3 ∧ yfl s k = 2) ∨ (s = 2 ∧ (k = 5 ∨ k = 6) ∧ yfl s k = 3) ∨ (s = 2 ∧ k = 7 ∧ yfl s k = 6) ∨ (s = 3 ∧ k = 1 ∧ yfl s k = 4) ∨ (s = 4 ∧ k = 1 ∧ yfl s k = 5) ∨ (s = 5 ∧ k = 1 ∧ yfl s k = 5) ∨ (s = 5 ∧ k = 3 ∧ yfl s k = 2) ∨ (s = 6 ∧ k = 2 ∧ yfl s k = 7) ∨ (s = 7 ∧ k = 2 ∧ yfl s k = 7) ∨ (s = 7 ∧ k = 3 ∧ yfl s k = 2) := by
  intro s hs k hk h
  have a : s = 0 ∨ s = 1 ∨ s = 2 ∨ s = 3 ∨ s = 4 ∨ s = 5 ∨ s = 6 ∨ s = 7 ∨ s = 8 := by omega
  have b : k = 0 ∨ k = 1 ∨ k = 2 ∨ k = 3 ∨ k = 4 ∨ k = 5 ∨ k = 6 ∨ k = 7 ∨ k = 8 ∨ k = 9 := by omega
  rcases a with e | e | e | e | e | e | e | e | e <;> subst e <;> rcases b with e | e | e | e | e | e | e | e | e | e <;> subst e <;> first | exact absurd rfl h | simp [yfl]
theorem yzS_p {kd : Nat → Nat} (hkd : ∀ k, 1 ≤ kd k ∧ kd k ≤ 9) {K : Nat} (h8 : ∀ i, i < K → yss kd (i + 1) ≠ 8) : ∀ i, 1 ≤ i → i ≤ K → (yss kd i = 1 ∧ kd 0 = 4 ∧ (∀ j, 1 ≤ j → j < i → kd j = 1) ∧ (∀ j, 1 ≤ j → j ≤ i → yhd kd j = 0 ∧ yss kd j = 1) ∧ yzpp kd i = i - 1) ∨ (∃ q, 1 ≤ q ∧ q < i ∧ kd 0 = 4 ∧ kd q = 3 ∧ (∀ j, 1 ≤ j → j < q → kd j = 1) ∧ (∀ j, 1 ≤ j → j ≤ q → yhd kd j = 0 ∧ yss kd j = 1) ∧ yzpp kd i = q - 1 ∧ 2 ≤ yss kd i)
  | i + 1, _, hi => by
    have sb := yss_8 hkd i
    have kb := hkd i
    have t := yfl_t _ (show yss kd i < 9 by omega) _ (show kd i < 10 by omega) (h8 i (by omega))
    have es : yss kd (i + 1) = yfl (yss kd i) (kd i) := rfl
    have ep : yzpp kd (i + 1) = yzfp (yss kd i) (yzpp kd i) (kd i) := rfl
    by_cases z : i = 0
    · subst z
      have s0 : yss kd 0 = 0 := rfl
      rw [s0] at t
      have c : kd 0 = 4 := by omega
      refine Or.inl ⟨by rw [es, s0, c]; rfl, c, fun j a b => by omega, fun j a b => ?_, by rw [ep, s0, c]; rfl⟩
      have : j = 1 := by omega
      subst this
      refine ⟨?_, by rw [es, s0, c]; rfl⟩
      show (if 4 ≤ kd 0 then 0 else yhd kd 0) = 0
      rw [if_pos (by omega)]
    · rcases yzS_p hkd h8 i (by omega) (by omega) with ⟨a1, a2, a3, a4, a5⟩ | ⟨q, a1, a2, a3, a4, a5, a6, a7, a8⟩
      · rw [a1] at t
        by_cases c : kd i = 1
        · have e1 : yss kd (i + 1) = 1 := by rw [es, a1, c]; rfl
          refine Or.inl ⟨e1, a2, fun j b1 b2 => ?_, fun j b1 b2 => ?_, ?_⟩
          · by_cases g : j = i
            · rw [g]; exact c
            · exact a3 j b1 (by omega)
          · by_cases g : j = i + 1
            · rw [g]
              refine ⟨?_, e1⟩
              show (if 4 ≤ kd i then i else yhd kd i) = 0
              rw [if_neg (by omega)]
              exact (a4 i (by omega) (Nat.le_refl i)).1
            · exact a4 j b1 (by omega)
          · rw [ep, a1, c]
            show yzpp kd i + 1 = i + 1 - 1
            omega
        · have c3 : kd i = 3 := by omega
          refine Or.inr ⟨i, by omega, by omega, a2, c3, a3, a4, ?_, ?_⟩
          · rw [ep, a1, c3]
            exact a5
          · rw [es, a1, c3]
            decide
      · refine Or.inr ⟨q, a1, by omega, a3, a4, a5, a6, ?_, ?_⟩
        · rw [ep]
          unfold yzfp
          rw [if_neg (by omega)]
          exact a7
        · rw [es]
          omega
theorem yzS_of {kd : Nat → Nat} (hkd : ∀ k, 1 ≤ kd k ∧ kd k ≤ 9) (h : (yfo kd 401 0 0 0).1 = 0) : ∃ q, yzS kd (yfo kd 401 0 0 0).2 q := by
  obtain ⟨_, a2, a3, a4, a5⟩ := yfo_ok 401 0 rfl h
  have e : yfo kd 401 (yss kd 0) (yzpp kd 0) 0 = yfo kd 401 0 0 0 := rfl
  rw [e] at a2 a3 a4 a5
  generalize (yfo kd 401 0 0 0).2 = K at a2 a3 a4 a5
  have h8 : ∀ i, i < K → yss kd (i + 1) ≠ 8 := fun i hi => (a5 i (Nat.zero_le i) hi).1
  have K0 : K ≠ 0 := fun t => by
    have z : yss kd 0 = 0 := rfl
    rw [t] at a4
    omega
  rcases yzS_p hkd h8 K (by omega) (Nat.le_refl K) with ⟨b1, _⟩ | ⟨q, b1, b2, b3, b4, b5, b6, b7, b8⟩
  · omega
  have p8 := (a5 (K - 1) (Nat.zero_le _) (by omega)).2
  rw [show K - 1 + 1 = K by omega] at p8
  have kb : ∀ i, i < K → 1 ≤ kd i ∧ kd i ≤ 7 ∧ yss kd (i + 1) ≠ 8 := by
    intro i hi
    have k1 := hkd i
    have n := h8 i hi
    have f := yfl_9 (yss kd i) (by have := yss_8 hkd i; omega)
    have es : yss kd (i + 1) = yfl (yss kd i) (kd i) := rfl
    have n9 : kd i ≠ 9 := fun t => n (by rw [es, t]; exact f.1)
    have n8 : kd i ≠ 8 := fun t => n (by rw [es, t]; exact f.2)
    exact ⟨k1.1, by omega, n⟩
  refine ⟨q, ⟨b1, by omega, b2, a2⟩, ⟨a3, a4, b3, b4⟩, b5, kb, b6, ?_⟩
  intro i
  induction i with
  | zero => intro h; omega
  | succ i ih =>
    intro hi hK
    have es : yss kd (i + 1) = yfl (yss kd i) (kd i) := rfl
    have eh : yhd kd (i + 1) = if 4 ≤ kd i then i else yhd kd i := rfl
    have sb := yss_8 hkd i
    have k1 := kb i (by omega)
    have t := yfl_t _ (show yss kd i < 9 by omega) _ (show kd i < 10 by omega) (h8 i (by omega))
    by_cases g : i = q
    · subst g
      have s1 := (b6 i b1 (Nat.le_refl i)).2
      rw [s1, b4] at t
      have s2 : yss kd (i + 1) = 2 := by rw [es, s1, b4]; rfl
      rw [s2]
      exact ⟨by decide, by decide, fun u => absurd u (by decide)⟩
    · obtain ⟨c1, c2, c3⟩ := ih (by omega) (by omega)
      refine ⟨by rw [es]; omega, by rw [es]; omega, fun c4 => ?_⟩
      by_cases s2 : yss kd i = 2
      · have hh : yhd kd (i + 1) = i := by rw [eh, if_pos (by omega)]
        rw [hh, s2]
        refine ⟨by omega, by omega, rfl, fun c5 => ⟨by omega, fun j d1 d2 => by omega⟩, fun c5 => ⟨by omega, fun j d1 d2 => by omega⟩⟩
      · have c3' := c3 (by omega)
        have hh : yhd kd (i + 1) = yhd kd i := by rw [eh, if_neg (by omega)]
        rw [hh]
        refine ⟨c3'.1, by omega, c3'.2.2.1, fun c5 => ?_, fun c5 => ?_⟩
        · have w := c3'.2.2.2.1 (by omega)
          refine ⟨w.1, fun j d1 d2 => ?_⟩
          by_cases g2 : j = i
          · rw [g2]; omega
          · exact w.2 j d1 (by omega)
        · have w := c3'.2.2.2.2 (by omega)
          refine ⟨w.1, fun j d1 d2 => ?_⟩
          by_cases g2 : j = i
          · rw [g2]; omega
          · exact w.2 j d1 (by omega)
theorem yph : ∀ (P n : Nat) (f : Nat → Nat), (∀ i, i < n → f i < P) → (∀ i j, i < j → j < n → f i ≠ f j) → n ≤ P
  | 0, n, f, h, _ => by
    rcases Nat.eq_zero_or_pos n with e | e
    · omega
    · exact absurd (h 0 e) (Nat.not_lt_zero _)
  | P + 1, n, f, h, d => by
    by_cases c : ∃ i, i < n ∧ f i = P
    · obtain ⟨i, i1, i2⟩ := c
      have r := yph P (n - 1) (fun j => if j < i then f j else f (j + 1)) (fun j hj => by
        show (if j < i then f j else f (j + 1)) < P
        by_cases g : j < i
        · rw [if_pos g]
          have a := h j (by omega)
          have b := d j i g i1
          omega
        · rw [if_neg g]
          have a := h (j + 1) (by omega)
          have b := d i (j + 1) (by omega) (by omega)
          omega) (fun a b hab hb => by
        show (if a < i then f a else f (a + 1)) ≠ (if b < i then f b else f (b + 1))
        by_cases g : a < i
        · rw [if_pos g]
          by_cases g2 : b < i
          · rw [if_pos g2]; exact d a b hab (by omega)
          · rw [if_neg g2]; exact d a (b + 1) (by omega) (by omega)
        · rw [if_neg g, if_neg (by omega)]
          exact d (a + 1) (b + 1) (by omega) (by omega))
      omega
    · have r := yph P n f (fun i hi => by
        have a := h i hi
        have b : f i ≠ P := fun e => c ⟨i, hi, e⟩
        omega) d
      omega
