/-! the FORM of a text: the model -/
def yMF (kd st : Nat → Nat) (K : Nat) (m : xmm) : Prop := ∀ j, j < K → m.1 147 j = nI (ymk (kd j)) ∧ m.1 148 j = nI (st j)
theorem yMF_k {kd st : Nat → Nat} {K : Nat} {L J : List Nat} {m m' : xmm} (h : yMF kd st K m) (hf : yfm L J m m') (h1 : 147 ∉ 144 :: L) (h2 : 148 ∉ 144 :: L) : yMF kd st K m' := fun j hj => by
  rw [yfm_1 hf 147 j h1, yfm_1 hf 148 j h2]; exact h j hj
def yOk (kd : Nat → Nat) (k : Nat) (m : xmm) : Prop := m.1 144 11 = nI k ∧ m.1 144 12 = nI 0 ∧ k ≤ 400 ∧ ∀ i, i < k → kd i ≠ 9
def yBd (st : Nat → Nat) (o j : Nat) (m : xmm) : Prop := m.1 144 12 = nI o ∧ 0 < o ∧ o < 9 ∧ m.1 144 13 = nI (st j)
theorem ymk_i : ∀ a, a < 10 → 1 ≤ a → ∀ b, b < 10 → 1 ≤ b → ymk a = ymk b → a = b := by decide
theorem ymk_b : ∀ a, a < 10 → ymk a < 24 := by decide
/-! how the outcome goes on -/
theorem yfo_go {kd : Nat → Nat} {f s p k s' p' : Nat} (h2 : ¬ (kd k = 9 ∧ s = 2)) (hs : yfl s (kd k) = s') (h8 : s' ≠ 8) (hp : yzfp s p (kd k) = p') (hp8 : p' ≤ 8) (hk : k < 400) : yfo kd (f + 1) s p k = yfo kd f s' p' (k + 1) := by
  show (if kd k = 9 ∧ s = 2 then (0, k) else if yfl s (kd k) = 8 then (1, k) else if 8 < yzfp s p (kd k) then (2, k) else if 400 ≤ k then (2, k) else yfo kd f (yfl s (kd k)) (yzfp s p (kd k)) (k + 1)) = _
  rw [if_neg h2, hs, if_neg h8, hp, if_neg (by omega), if_neg (by omega)]
theorem yfo_end {kd : Nat → Nat} {f s p k : Nat} (h2 : kd k = 9 ∧ s = 2) : yfo kd (f + 1) s p k = (0, k) := by
  show (if kd k = 9 ∧ s = 2 then (0, k) else if yfl s (kd k) = 8 then (1, k) else if 8 < yzfp s p (kd k) then (2, k) else if 400 ≤ k then (2, k) else yfo kd f (yfl s (kd k)) (yzfp s p (kd k)) (k + 1)) = _
  rw [if_pos h2]
theorem yfo_1 {kd : Nat → Nat} {f s p k : Nat} (h2 : ¬ (kd k = 9 ∧ s = 2)) (hs : yfl s (kd k) = 8) : yfo kd (f + 1) s p k = (1, k) := by
  show (if kd k = 9 ∧ s = 2 then (0, k) else if yfl s (kd k) = 8 then (1, k) else if 8 < yzfp s p (kd k) then (2, k) else if 400 ≤ k then (2, k) else yfo kd f (yfl s (kd k)) (yzfp s p (kd k)) (k + 1)) = _
  rw [if_neg h2, if_pos hs]
theorem yfo_2 {kd : Nat → Nat} {f s p k : Nat} (h2 : ¬ (kd k = 9 ∧ s = 2)) (hs : yfl s (kd k) ≠ 8) (h : 8 < yzfp s p (kd k) ∨ ¬ k < 400) : yfo kd (f + 1) s p k = (2, k) := by
  show (if kd k = 9 ∧ s = 2 then (0, k) else if yfl s (kd k) = 8 then (1, k) else if 8 < yzfp s p (kd k) then (2, k) else if 400 ≤ k then (2, k) else yfo kd f (yfl s (kd k)) (yzfp s p (kd k)) (k + 1)) = _
  rw [if_neg h2, if_neg hs]
  by_cases g : 8 < yzfp s p (kd k)
  · rw [if_pos g]
  · rw [if_neg g, if_pos (by omega)]
/-- where the walk stands: behind a sentence, or at a FAULT -/
def yPg (kd st : Nat → Nat) (r : Nat × Nat) (p f : Nat) (m : xmm) : Prop := (∃ f' k', k' + f' = 401 ∧ f' < f ∧ r = yfo kd f' 2 p k' ∧ yOk kd k' m) ∨ (r.1 ≠ 0 ∧ yBd st r.1 r.2 m)
theorem yPg_m {kd st : Nat → Nat} {r : Nat × Nat} {p f f' : Nat} {m : xmm} (h : yPg kd st r p f m) (hf : f ≤ f') : yPg kd st r p f' m := h.imp (fun ⟨a, b, c, d, e⟩ => ⟨a, b, c, by omega, e⟩) id
/-- the end of the form -/
def yzFe (st : Nat → Nat) (r : Nat × Nat) (m : xmm) : Prop := (r.1 = 0 → m.1 144 12 = nI 0) ∧ (r.1 ≠ 0 → yBd st r.1 r.2 m)
