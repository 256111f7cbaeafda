/-! WAYS: the model goes through all -/
/-- lines by number -/
def yLn (R : Nat → Nat) (n M : Nat) (ln : Nat → Nat × Nat) : Prop := (∀ k, k < M → (ln k).1 < (ln k).2 ∧ (ln k).2 < n ∧ yad R (ln k).1 (ln k).2) ∧ (∀ p q, p < q → yad R p q → ∃ k, k < M ∧ ln k = (p, q)) ∧ ∀ j k, j < k → k < M → ln j ≠ ln k
def ywf (ln : Nat → Nat × Nat) (s : Nat → Nat) (k : Nat) : Nat := if s k = 0 then (ln k).1 else (ln k).2
def ywt (ln : Nat → Nat × Nat) (s : Nat → Nat) (k : Nat) : Nat := if s k = 0 then (ln k).2 else (ln k).1
def yAk (ln : Nat → Nat × Nat) (s : Nat → Nat) : Nat → yG
  | 0 => fun _ _ => False
  | k + 1 => fun x y => yAk ln s k x y ∨ (x = ywf ln s k ∧ y = ywt ln s k)
theorem yAk_s (ln : Nat → Nat × Nat) (s : Nat → Nat) (k x y : Nat) : yAk ln s (k + 1) x y ↔ yAk ln s k x y ∨ (x = ywf ln s k ∧ y = ywt ln s k) := Iff.rfl
theorem yAk_c {ln : Nat → Nat × Nat} {s s' : Nat → Nat} : ∀ {k : Nat}, (∀ j, j < k → s j = s' j) → yAk ln s k = yAk ln s' k
  | 0, _ => rfl
  | k + 1, h => by
    have e1 := yAk_c (ln := ln) (s := s) (s' := s') (k := k) fun j hj => h j (Nat.lt_succ_of_lt hj)
    have e2 := h k (Nat.lt_succ_self k)
    funext x y
    apply propext
    rw [yAk_s, yAk_s, e1]
    unfold ywf ywt
    rw [e2]
theorem yAk_ex {ln : Nat → Nat × Nat} {s : Nat → Nat} : ∀ {k x y : Nat}, yAk ln s k x y → ∃ j, j < k ∧ x = ywf ln s j ∧ y = ywt ln s j
  | 0, _, _, h => h.elim
  | k + 1, x, y, h => by
    rcases (yAk_s ln s k x y).mp h with h | h
    · obtain ⟨j, j1, j2⟩ := yAk_ex h
      exact ⟨j, by omega, j2⟩
    · exact ⟨k, Nat.lt_succ_self k, h⟩
theorem yAk_of {ln : Nat → Nat × Nat} {s : Nat → Nat} {j : Nat} : ∀ {k : Nat}, j < k → yAk ln s k (ywf ln s j) (ywt ln s j)
  | 0, h => absurd h (Nat.not_lt_zero j)
  | k + 1, h => by
    rw [yAk_s]
    by_cases e : j = k
    · subst e; exact Or.inr ⟨rfl, rfl⟩
    · exact Or.inl (yAk_of (by omega))
theorem ywft {ln : Nat → Nat × Nat} {s : Nat → Nat} {k x y : Nat} (hx : x = ywf ln s k) (hy : y = ywt ln s k) : ln k = (x, y) ∨ ln k = (y, x) := by
  unfold ywf at hx
  unfold ywt at hy
  by_cases e : s k = 0
  · rw [if_pos e] at hx hy
    subst hx; subst hy; exact Or.inl rfl
  · rw [if_neg e] at hx hy
    subst hx; subst hy; exact Or.inr rfl
theorem yAk_g {R : Nat → Nat} {n M : Nat} {ln : Nat → Nat × Nat} (hsy : ysy (yad R)) (hL : yLn R n M ln) {s : Nat → Nat} {k x y : Nat} (hk : k ≤ M) (h : yAk ln s k x y) : yad R x y ∧ x < n ∧ y < n := by
  obtain ⟨j, j1, j2, j3⟩ := yAk_ex h
  have := hL.1 j (by omega)
  rcases ywft j2 j3 with e | e
  · rw [e] at this; exact ⟨this.2.2, by have h1 := this.1; have h2 := this.2.1; dsimp only at h1 h2; omega, this.2.1⟩
  · rw [e] at this; exact ⟨hsy.1 _ _ this.2.2, this.2.1, by have h1 := this.1; have h2 := this.2.1; dsimp only at h1 h2; omega⟩
/-- one arrow a line -/
theorem yAk_an {R : Nat → Nat} {n M : Nat} {ln : Nat → Nat × Nat} (hL : yLn R n M ln) {s : Nat → Nat} {k x y : Nat} (hk : k ≤ M) (h : yAk ln s k x y) (h2 : yAk ln s k y x) : False := by
  obtain ⟨i, i1, i2, i3⟩ := yAk_ex h
  obtain ⟨j, j1, j2, j3⟩ := yAk_ex h2
  have hi := hL.1 i (by omega)
  have hj := hL.1 j (by omega)
  have same : i = j := by
    have e : ln i = ln j := by
      rcases ywft i2 i3 with a | a <;> rcases ywft j2 j3 with b | b
      · rw [a] at hi; rw [b] at hj
        have h1 := hi.1; have h2 := hj.1; dsimp only at h1 h2; omega
      · rw [a, b]
      · rw [a, b]
      · rw [a] at hi; rw [b] at hj
        have h1 := hi.1; have h2 := hj.1; dsimp only at h1 h2; omega
    rcases Nat.lt_trichotomy i j with g | g | g
    · exact absurd e (hL.2.2 i j g (by omega))
    · exact g
    · exact absurd e.symm (hL.2.2 j i g (by omega))
  subst same
  have h1 := hi.1
  have : x = y := i2.trans (j2 ▸ rfl)
  unfold ywf at i2
  unfold ywt at i3
  by_cases e : s i = 0
  · rw [if_pos e] at i2 i3; omega
  · rw [if_neg e] at i2 i3; omega
/-- none lacking, none against -/
def yok (R : Nat → Nat) (A : yG) : Prop := ∀ a b c, A a b → A b c → yad R a c ∧ ¬ A c a
def yagr (R : Nat → Nat) (n : Nat) (A : yG) (a b : Nat) : Prop := ∀ c, c < n → c ≠ a → c ≠ b → (A b c → yad R a c ∧ ¬ A c a) ∧ (A c a → yad R c b ∧ ¬ A b c)
theorem yok_s {R : Nat → Nat} {n M : Nat} {ln : Nat → Nat × Nat} (hsy : ysy (yad R)) (hL : yLn R n M ln) {s : Nat → Nat} {k : Nat} (hk : k < M) (h : yok R (yAk ln s k)) (ha : yagr R n (yAk ln s (k + 1)) (ywf ln s k) (ywt ln s k)) : yok R (yAk ln s (k + 1)) := by
  have new : yAk ln s (k + 1) (ywf ln s k) (ywt ln s k) := (yAk_s _ _ _ _ _).mpr (Or.inr ⟨rfl, rfl⟩)
  have an : ∀ {x y}, yAk ln s (k + 1) x y → yAk ln s (k + 1) y x → False := fun h1 h2 => yAk_an hL (by omega) h1 h2
  have nl : ∀ {x y}, yAk ln s (k + 1) x y → x < n ∧ y < n ∧ x ≠ y := fun {x y} h1 => by
    have := yAk_g hsy hL (by omega) h1
    refine ⟨this.2.1, this.2.2, fun e => ?_⟩
    subst e
    exact hsy.2 _ this.1
  intro a b c hab hbc
  have lab := nl hab
  have lbc := nl hbc
  have hca : c ≠ a := fun e => by subst e; exact an hab hbc
  by_cases e1 : a = ywf ln s k ∧ b = ywt ln s k
  · obtain ⟨rfl, rfl⟩ := e1
    exact (ha c lbc.2.1 hca lbc.2.2.symm).1 hbc
  · by_cases e2 : b = ywf ln s k ∧ c = ywt ln s k
    · obtain ⟨rfl, rfl⟩ := e2
      have := (ha a lab.1 lab.2.2 hca.symm).2 hab
      exact ⟨this.1, this.2⟩
    · have o1 : yAk ln s k a b := ((yAk_s _ _ _ _ _).mp hab).resolve_right e1
      have o2 : yAk ln s k b c := ((yAk_s _ _ _ _ _).mp hbc).resolve_right e2
      have := h a b c o1 o2
      refine ⟨this.1, fun hcaA => ?_⟩
      rcases (yAk_s _ _ _ _ _).mp hcaA with g | ⟨g1, g2⟩
      · exact this.2 g
      · subst g1; subst g2
        -- the arrow c to a is the latest: b is between
        have := (ha b lab.2.1 lbc.2.2 lab.2.2.symm).1 hab
        exact this.2 hbc
theorem yagr_of {R : Nat → Nat} {n : Nat} {T A : yG} {a b : Nat} (hT : yTO (yad R) T) (hA : ∀ x y, A x y → T x y) (hab : T a b) : yagr R n A a b := by
  intro c _ _ _
  constructor
  · intro h
    have h1 := hT.2.2.2 _ _ _ hab (hA _ _ h)
    exact ⟨hT.1 _ _ h1, fun h2 => hT.2.2.1 _ _ h1 (hA _ _ h2)⟩
  · intro h
    have h1 := hT.2.2.2 _ _ _ (hA _ _ h) hab
    exact ⟨hT.1 _ _ h1, fun h2 => hT.2.2.1 _ _ h1 (hA _ _ h2)⟩
/-- the arrows that go on from some -/
def yext (R : Nat → Nat) (A T : yG) : Prop := yTO (yad R) T ∧ ∀ x y, A x y → T x y
theorem yext_leaf {R : Nat → Nat} {n M : Nat} {ln : Nat → Nat × Nat} (hsy : ysy (yad R)) (hL : yLn R n M ln) {s : Nat → Nat} (h : yok R (yAk ln s M)) : yhc (yext R (yAk ln s M)) 1 := by
  have tot : ∀ a b, yad R a b → yAk ln s M a b ∨ yAk ln s M b a := by
    have half : ∀ a b, a < b → yad R a b → yAk ln s M a b ∨ yAk ln s M b a := by
      intro a b hab hl
      obtain ⟨k, k1, k2⟩ := hL.2.1 a b hab hl
      have h1 := yAk_of (ln := ln) (s := s) k1
      unfold ywf ywt at h1
      rw [k2] at h1
      by_cases e : s k = 0
      · rw [if_pos e, if_pos e] at h1; exact Or.inl h1
      · rw [if_neg e, if_neg e] at h1; exact Or.inr h1
    intro a b hl
    rcases Nat.lt_trichotomy a b with e | e | e
    · exact half a b e hl
    · subst e; exact absurd hl (hsy.2 a)
    · exact (half b a e (hsy.1 _ _ hl)).symm
  have TO : yTO (yad R) (yAk ln s M) := by
    refine ⟨fun a b g => (yAk_g hsy hL (Nat.le_refl M) g).1, tot, fun a b g g2 => yAk_an hL (Nat.le_refl M) g g2, fun a b c g g2 => ?_⟩
    have := h a b c g g2
    rcases tot a c this.1 with e | e
    · exact e
    · exact absurd e this.2
  refine yhc_1 _ ⟨TO, fun _ _ g => g⟩ ?_
  rintro T ⟨hT, hA⟩
  funext x y
  apply propext
  constructor
  · intro g
    rcases tot x y (hT.1 _ _ g) with e | e
    · exact e
    · exact absurd g (hT.2.2.1 _ _ (hA _ _ e))
  · exact hA x y
/-! the code: lines, arrows put on and taken off -/
def yWL (R : Nat → Nat) (n M : Nat) (ln : Nat → Nat × Nat) (m : xmm) : Prop := yMN n R m ∧ ∀ k, k < M → m.1 167 k = nI (ln k).1 ∧ m.1 168 k = nI (ln k).2
theorem yWL_r {R : Nat → Nat} {n M : Nat} {ln : Nat → Nat × Nat} {L : List Nat} {m m' : xmm} (h : yWL R n M ln m) (hf : yfr L m m') (h1 : 144 ∉ L) (h2 : 152 ∉ L) (h3 : 167 ∉ L) (h4 : 168 ∉ L) : yWL R n M ln m' := ⟨yMN_r h.1 hf h1 h2, fun k hk => by rw [yfr_1 hf 167 k h3, yfr_1 hf 168 k h4]; exact h.2 k hk⟩
theorem ywf_n {R : Nat → Nat} {n M : Nat} {ln : Nat → Nat × Nat} (hL : yLn R n M ln) {s : Nat → Nat} {k : Nat} (hk : k < M) : ywf ln s k < n ∧ ywt ln s k < n := by
  have := hL.1 k hk
  unfold ywf ywt
  by_cases e : s k = 0
  · rw [if_pos e, if_pos e]; omega
  · rw [if_neg e, if_neg e]; omega
/-! the search -/
def yset (s : Nat → Nat) (k v : Nat) : Nat → Nat := fun j => if j = k then v else s j
theorem yset_e (s : Nat → Nat) (k v : Nat) : yset s k v k = v := if_pos rfl
theorem yset_n {s : Nat → Nat} {k v j : Nat} (h : j ≠ k) : yset s k v j = s j := if_neg h
/-! the lines told -/
/-- the lines with the greater post below q, and of q those with the lesser one below p -/
def yLq (R : Nat → Nat) (q p M : Nat) (ln : Nat → Nat × Nat) : Prop := (∀ k, k < M → (ln k).1 < (ln k).2 ∧ ((ln k).2 < q ∨ ((ln k).2 = q ∧ (ln k).1 < p)) ∧ yad R (ln k).1 (ln k).2) ∧ (∀ a b, a < b → (b < q ∨ (b = q ∧ a < p)) → yad R a b → ∃ k, k < M ∧ ln k = (a, b)) ∧ ∀ j k, j < k → k < M → ln j ≠ ln k
theorem yin_all {n : Nat} {R : Nat → Nat} (hG : yGr n R) : yin (yad R) (2 ^ n - 1) = yad R := by
  funext a b
  apply propext
  exact ⟨fun h => h.1, fun h => ⟨h, yall_b.mpr (yGr_n hG h).1, yall_b.mpr (yGr_n hG h).2⟩⟩
