/-! WAYS: the model goes through all -/
/-- lines by number -/
def yLn (R : Nat → Nat) (n M : Nat) (ln : Nat → Nat × Nat) : Prop := (∀ k, k < M → (ln k).1 < (ln k).2 ∧ (ln k).2 < n ∧ yad R (ln k).1 (ln k).2) ∧ (∀ p q, p < q → yad R p q → ∃ k, k < M ∧ ln k = (p, q)) ∧ ∀ j k, j < k → k < M → ln j ≠ ln k
def ywf (ln : Nat → Nat × Nat) (s : Nat → Nat) (k : Nat) : Nat := if s k = 0 then (ln k).1 else (ln k).2
def ywt (ln : Nat → Nat × Nat) (s : Nat → Nat) (k : Nat) : Nat := if s k = 0 then (ln k).2 else (ln k).1
def yAk (ln : Nat → Nat × Nat) (s : Nat → Nat) : Nat → yG
  | 0 => fun _ _ => False
  | k + 1 => fun x y => yAk ln s k x y ∨ (x = ywf ln s k ∧ y = ywt ln s k)
theorem yAk_s (ln : Nat → Nat × Nat) (s : Nat → Nat) (k x y : Nat) : yAk ln s (k + 1) x y ↔ yAk ln s k x y ∨ (x = ywf ln s k ∧ y = ywt ln s k) := Iff.rfl
theorem yAk_c {ln : Nat → Nat × Nat} {s s' : Nat → Nat} : ∀ {k : Nat}, (∀ j, j < k → s j = s' j) → yAk ln s k = yAk ln s' k
  | 0, _ => rfl
  | k + 1, h => by
    have e1 := yAk_c (ln := ln) (s := s) (s' := s') (k := k) fun j hj => h j (Nat.lt_succ_of_lt hj)
    have e2 := h k (Nat.lt_succ_self k)
    funext x y
    apply propext
    rw [yAk_s, yAk_s, e1]
    unfold ywf ywt
    rw [e2]
theorem yAk_ex {ln : Nat → Nat × Nat} {s : Nat → Nat} : ∀ {k x y : Nat}, yAk ln s k x y → ∃ j, j < k ∧ x = ywf ln s j ∧ y = ywt ln s j
  | 0, _, _, h => h.elim
  | k + 1, x, y, h => by
    rcases (yAk_s ln s k x y).mp h with h | h
    · obtain ⟨j, j1, j2⟩ := yAk_ex h
      exact ⟨j, by omega, j2⟩
    · exact ⟨k, Nat.lt_succ_self k, h⟩
theorem yAk_of {ln : Nat → Nat × Nat} {s : Nat → Nat} {j : Nat} : ∀ {k : Nat}, j < k → yAk ln s k (ywf ln s j) (ywt ln s j)
  | 0, h => absurd h (Nat.not_lt_zero j)
  | k + 1, h => by
    rw [yAk_s]
    by_cases e : j = k
    · subst e; exact Or.inr ⟨rfl, rfl⟩
    · exact Or.inl (yAk_of (by omega))
theorem ywft {ln : Nat → Nat × Nat} {s : Nat → Nat} {k x y : Nat} (hx : x = ywf ln s k) (hy : y = ywt ln s k) : ln k = (x, y) ∨ ln k = (y, x) := by
  unfold ywf at hx
  unfold ywt at hy
  by_cases e : s k = 0
  · rw [if_pos e] at hx hy
    subst hx; subst hy; exact Or.inl rfl
  · rw [if_neg e] at hx hy
    subst hx; subst hy; exact Or.inr rfl
theorem yAk_g {R : Nat → Nat} {n M : Nat} {ln : Nat → Nat × Nat} (hsy : ysy (yad R)) (hL : yLn R n M ln) {s : Nat → Nat} {k x y : Nat} (hk : k ≤ M) (h : yAk ln s k x y) : yad R x y ∧ x < n ∧ y < n := by
  obtain ⟨j, j1, j2, j3⟩ := yAk_ex h
  have := hL.1 j (by omega)
  rcases ywft j2 j3 with e | e
  · rw [e] at this; exact ⟨this.2.2, by have h1 := this.1; have h2 := this.2.1; dsimp only at h1 h2; omega, this.2.1⟩
  · rw [e] at this; exact ⟨hsy.1 _ _ this.2.2, this.2.1, by have h1 := this.1; have h2 := this.2.1; dsimp only at h1 h2; omega⟩
/-- one arrow a line -/
theorem yAk_an {R : Nat → Nat} {n M : Nat} {ln : Nat → Nat × Nat} (hL : yLn R n M ln) {s : Nat → Nat} {k x y : Nat} (hk : k ≤ M) (h : yAk ln s k x y) (h2 : yAk ln s k y x) : False := by
  obtain ⟨i, i1, i2, i3⟩ := yAk_ex h
  obtain ⟨j, j1, j2, j3⟩ := yAk_ex h2
  have hi := hL.1 i (by omega)
  have hj := hL.1 j (by omega)
  have same : i = j := by
    have e : ln i = ln j := by
      rcases ywft i2 i3 with a | a <;> rcases ywft j2 j3 with b | b
      · rw [a] at hi; rw [b] at hj
        have h1 := hi.1; have h2 := hj.1; dsimp only at h1 h2; omega
      · rw [a, b]
      · rw [a, b]
      · rw [a] at hi; rw [b] at hj
        have h1 := hi.1; have h2 := hj.1; dsimp only at h1 h2; omega
    rcases Nat.lt_trichotomy i j with g | g | g
    · exact absurd e (hL.2.2 i j g (by omega))
    · exact g
    · exact absurd e.symm (hL.2.2 j i g (by omega))
  subst same
  have h1 := hi.1
  have : x = y := i2.trans (j2 ▸ rfl)
  unfold ywf at i2
  unfold ywt at i3
  by_cases e : s i = 0
  · rw [if_pos e] at i2 i3; omega
  · rw [if_neg e] at i2 i3; omega
/-- none lacking, none against -/
def yok (R : Nat → Nat) (A : yG) : Prop := ∀ a b c, A a b → A b c → yad R a c ∧ ¬ A c a
def yagr (R : Nat → Nat) (n : Nat) (A : yG) (a b : Nat) : Prop := ∀ c, c < n → c ≠ a → c ≠ b → (A b c → yad R a c ∧ ¬ A c a) ∧ (A c a → yad R c b ∧ ¬ A b c)
theorem yok_s {R : Nat → Nat} {n M : Nat} {ln : Nat → Nat × Nat} (hsy : ysy (yad R)) (hL : yLn R n M ln) {s : Nat → Nat} {k : Nat} (hk : k < M) (h : yok R (yAk ln s k)) (ha : yagr R n (yAk ln s (k + 1)) (ywf ln s k) (ywt ln s k)) : yok R (yAk ln s (k + 1)) := by
  have new : yAk ln s (k + 1) (ywf ln s k) (ywt ln s k) := (yAk_s _ _ _ _ _).mpr (Or.inr ⟨rfl, rfl⟩)
  have an : ∀ {x y}, yAk ln s (k + 1) x y → yAk ln s (k + 1) y x → False := fun h1 h2 => yAk_an hL (by omega) h1 h2
  have nl : ∀ {x y}, yAk ln s (k + 1) x y → x < n ∧ y < n ∧ x ≠ y := fun {x y} h1 => by
    have := yAk_g hsy hL (by omega) h1
    refine ⟨this.2.1, this.2.2, fun e => ?_⟩
    subst e
    exact hsy.2 _ this.1
  intro a b c hab hbc
  have lab := nl hab
  have lbc := nl hbc
  have hca : c ≠ a := fun e => by subst e; exact an hab hbc
  by_cases e1 : a = ywf ln s k ∧ b = ywt ln s k
  · obtain ⟨rfl, rfl⟩ := e1
    exact (ha c lbc.2.1 hca lbc.2.2.symm).1 hbc
  · by_cases e2 : b = ywf ln s k ∧ c = ywt ln s k
    · obtain ⟨rfl, rfl⟩ := e2
      have := (ha a lab.1 lab.2.2 hca.symm).2 hab
      exact ⟨this.1, this.2⟩
    · have o1 : yAk ln s k a b := ((yAk_s _ _ _ _ _).mp hab).resolve_right e1
      have o2 : yAk ln s k b c := ((yAk_s _ _ _ _ _).mp hbc).resolve_right e2
      have := h a b c o1 o2
      refine ⟨this.1, fun hcaA => ?_⟩
      rcases (yAk_s _ _ _ _ _).mp hcaA with g | ⟨g1, g2⟩
      · exact this.2 g
      · subst g1; subst g2
        -- the arrow c to a is the latest: b is between
        have := (ha b lab.2.1 lbc.2.2 lab.2.2.symm).1 hab
        exact this.2 hbc
theorem yagr_of {R : Nat → Nat} {n : Nat} {T A : yG} {a b : Nat} (hT : yTO (yad R) T) (hA : ∀ x y, A x y → T x y) (hab : T a b) : yagr R n A a b := by
  intro c _ _ _
  constructor
  · intro h
    have h1 := hT.2.2.2 _ _ _ hab (hA _ _ h)
    exact ⟨hT.1 _ _ h1, fun h2 => hT.2.2.1 _ _ h1 (hA _ _ h2)⟩
  · intro h
    have h1 := hT.2.2.2 _ _ _ (hA _ _ h) hab
    exact ⟨hT.1 _ _ h1, fun h2 => hT.2.2.1 _ _ h1 (hA _ _ h2)⟩
/-- the arrows that go on from some -/
def yext (R : Nat → Nat) (A T : yG) : Prop := yTO (yad R) T ∧ ∀ x y, A x y → T x y
theorem yext_leaf {R : Nat → Nat} {n M : Nat} {ln : Nat → Nat × Nat} (hsy : ysy (yad R)) (hL : yLn R n M ln) {s : Nat → Nat} (h : yok R (yAk ln s M)) : yhc (yext R (yAk ln s M)) 1 := by
  have tot : ∀ a b, yad R a b → yAk ln s M a b ∨ yAk ln s M b a := by
    have half : ∀ a b, a < b → yad R a b → yAk ln s M a b ∨ yAk ln s M b a := by
      intro a b hab hl
      obtain ⟨k, k1, k2⟩ := hL.2.1 a b hab hl
      have h1 := yAk_of (ln := ln) (s := s) k1
      unfold ywf ywt at h1
      rw [k2] at h1
      by_cases e : s k = 0
      · rw [if_pos e, if_pos e] at h1; exact Or.inl h1
      · rw [if_neg e, if_neg e] at h1; exact Or.inr h1
    intro a b hl
    rcases Nat.lt_trichotomy a b with e | e | e
    · exact half a b e hl
    · subst e; exact absurd hl (hsy.2 a)
    · exact (half b a e (hsy.1 _ _ hl)).symm
  have TO : yTO (yad R) (yAk ln s M) := by
    refine ⟨fun a b g => (yAk_g hsy hL (Nat.le_refl M) g).1, tot, fun a b g g2 => yAk_an hL (Nat.le_refl M) g g2, fun a b c g g2 => ?_⟩
    have := h a b c g g2
    rcases tot a c this.1 with e | e
    · exact e
    · exact absurd e this.2
  refine yhc_1 _ ⟨TO, fun _ _ g => g⟩ ?_
  rintro T ⟨hT, hA⟩
  funext x y
  apply propext
  constructor
  · intro g
    rcases tot x y (hT.1 _ _ g) with e | e
    · exact e
    · exact absurd g (hT.2.2.1 _ _ (hA _ _ e))
  · exact hA x y
/-! the code: lines, arrows put on and taken off -/
def yWL (R : Nat → Nat) (n M : Nat) (ln : Nat → Nat × Nat) (m : xmm) : Prop := yMN n R m ∧ ∀ k, k < M → m.1 167 k = nI (ln k).1 ∧ m.1 168 k = nI (ln k).2
theorem yWL_r {R : Nat → Nat} {n M : Nat} {ln : Nat → Nat × Nat} {L : List Nat} {m m' : xmm} (h : yWL R n M ln m) (hf : yfr L m m') (h1 : 144 ∉ L) (h2 : 152 ∉ L) (h3 : 167 ∉ L) (h4 : 168 ∉ L) : yWL R n M ln m' := ⟨yMN_r h.1 hf h1 h2, fun k hk => by rw [yfr_1 hf 167 k h3, yfr_1 hf 168 k h4]; exact h.2 k hk⟩
theorem s_fromOf {R : Nat → Nat} {n M : Nat} {ln : Nat → Nat × Nat} (hM : M ≤ 28) {s : Nat → Nat} {m : xmm} (h : yWL R n M ln m) {k : Nat} (hk : k < M) (hs : m.1 169 k = nI (s k)) (hs2 : s k < 4) : fX12_fromOf_144 (nI k) m = some (nI (ywf ln s k), m) := by
  obtain ⟨e1, e2⟩ := h.2 k hk
  apply fX12_fromOf_144_i
  unfold ywf
  by_cases e : s k = 0
  · simp (disch := omega) only [yl3, yl4, yl5, yl6, yl7, yl8, yl9, yl10, yl13, yl16, yl20, yl21, yl22, yl23, yl24, yl32, yl40, yl48, yl57, yl59, yl63, yl64, yl97, yl99, yl122, yl255, yl256, yl400, yl1000, yl2000, yl2048, yc0_eq, yc0_eq2, yc0_le, yc0_ge, yc0_lt, yc0_gt, yc0_ad, yc0_da, yc0_sb, yc0_ml, yc0_lm, yc1_eq, yc1_eq2, yc1_le, yc1_ge, yc1_lt, yc1_gt, yc1_ad, yc1_da, yc1_sb, yc1_ml, yc1_lm, yc2_eq, yc2_eq2, yc2_le, yc2_ge, yc2_lt, yc2_gt, yc2_ad, yc2_da, yc2_sb, yc2_ml, yc2_lm, yc31_ge, ymodn, yI_1sl, yc2_dv, yn1_eq, yn1_lt, xgd_t, xlt_e, Option.bind_some, nI_add, pk_mul, pk_sub, pk_div, pk_rem, yI_and, yI_or, yI_xor, yI_nd, yI_nd2, yI_31, yI_shl, nI_leI, nI_ltI, nI_eq, nI_clamp, xinb_t, yP_z, yP_if, hs, if_pos e, e1]
  · simp (disch := omega) only [yl3, yl4, yl5, yl6, yl7, yl8, yl9, yl10, yl13, yl16, yl20, yl21, yl22, yl23, yl24, yl32, yl40, yl48, yl57, yl59, yl63, yl64, yl97, yl99, yl122, yl255, yl256, yl400, yl1000, yl2000, yl2048, yc0_eq, yc0_eq2, yc0_le, yc0_ge, yc0_lt, yc0_gt, yc0_ad, yc0_da, yc0_sb, yc0_ml, yc0_lm, yc1_eq, yc1_eq2, yc1_le, yc1_ge, yc1_lt, yc1_gt, yc1_ad, yc1_da, yc1_sb, yc1_ml, yc1_lm, yc2_eq, yc2_eq2, yc2_le, yc2_ge, yc2_lt, yc2_gt, yc2_ad, yc2_da, yc2_sb, yc2_ml, yc2_lm, yc31_ge, ymodn, yI_1sl, yc2_dv, yn1_eq, yn1_lt, xgd_t, xlt_e, Option.bind_some, nI_add, pk_mul, pk_sub, pk_div, pk_rem, yI_and, yI_or, yI_xor, yI_nd, yI_nd2, yI_31, yI_shl, nI_leI, nI_ltI, nI_eq, nI_clamp, xinb_t, yP_z, yP_if, hs, if_neg e, e2]
theorem s_toOf {R : Nat → Nat} {n M : Nat} {ln : Nat → Nat × Nat} (hM : M ≤ 28) {s : Nat → Nat} {m : xmm} (h : yWL R n M ln m) {k : Nat} (hk : k < M) (hs : m.1 169 k = nI (s k)) (hs2 : s k < 4) : fX12_toOf_144 (nI k) m = some (nI (ywt ln s k), m) := by
  obtain ⟨e1, e2⟩ := h.2 k hk
  apply fX12_toOf_144_i
  unfold ywt
  by_cases e : s k = 0
  · simp (disch := omega) only [yl3, yl4, yl5, yl6, yl7, yl8, yl9, yl10, yl13, yl16, yl20, yl21, yl22, yl23, yl24, yl32, yl40, yl48, yl57, yl59, yl63, yl64, yl97, yl99, yl122, yl255, yl256, yl400, yl1000, yl2000, yl2048, yc0_eq, yc0_eq2, yc0_le, yc0_ge, yc0_lt, yc0_gt, yc0_ad, yc0_da, yc0_sb, yc0_ml, yc0_lm, yc1_eq, yc1_eq2, yc1_le, yc1_ge, yc1_lt, yc1_gt, yc1_ad, yc1_da, yc1_sb, yc1_ml, yc1_lm, yc2_eq, yc2_eq2, yc2_le, yc2_ge, yc2_lt, yc2_gt, yc2_ad, yc2_da, yc2_sb, yc2_ml, yc2_lm, yc31_ge, ymodn, yI_1sl, yc2_dv, yn1_eq, yn1_lt, xgd_t, xlt_e, Option.bind_some, nI_add, pk_mul, pk_sub, pk_div, pk_rem, yI_and, yI_or, yI_xor, yI_nd, yI_nd2, yI_31, yI_shl, nI_leI, nI_ltI, nI_eq, nI_clamp, xinb_t, yP_z, yP_if, hs, if_pos e, e2]
  · simp (disch := omega) only [yl3, yl4, yl5, yl6, yl7, yl8, yl9, yl10, yl13, yl16, yl20, yl21, yl22, yl23, yl24, yl32, yl40, yl48, yl57, yl59, yl63, yl64, yl97, yl99, yl122, yl255, yl256, yl400, yl1000, yl2000, yl2048, yc0_eq, yc0_eq2, yc0_le, yc0_ge, yc0_lt, yc0_gt, yc0_ad, yc0_da, yc0_sb, yc0_ml, yc0_lm, yc1_eq, yc1_eq2, yc1_le, yc1_ge, yc1_lt, yc1_gt, yc1_ad, yc1_da, yc1_sb, yc1_ml, yc1_lm, yc2_eq, yc2_eq2, yc2_le, yc2_ge, yc2_lt, yc2_gt, yc2_ad, yc2_da, yc2_sb, yc2_ml, yc2_lm, yc31_ge, ymodn, yI_1sl, yc2_dv, yn1_eq, yn1_lt, xgd_t, xlt_e, Option.bind_some, nI_add, pk_mul, pk_sub, pk_div, pk_rem, yI_and, yI_or, yI_xor, yI_nd, yI_nd2, yI_31, yI_shl, nI_leI, nI_ltI, nI_eq, nI_clamp, xinb_t, yP_z, yP_if, hs, if_neg e, e1]
theorem ywf_n {R : Nat → Nat} {n M : Nat} {ln : Nat → Nat × Nat} (hL : yLn R n M ln) {s : Nat → Nat} {k : Nat} (hk : k < M) : ywf ln s k < n ∧ ywt ln s k < n := by
  have := hL.1 k hk
  unfold ywf ywt
  by_cases e : s k = 0
  · rw [if_pos e, if_pos e]; omega
  · rw [if_neg e, if_neg e]; omega
theorem s_putsOn {R : Nat → Nat} {n M : Nat} {ln : Nat → Nat × Nat} (hn : n ≤ 8) (hM : M ≤ 28) (hL : yLn R n M ln) {s : Nat → Nat} {m : xmm} (h : yWL R n M ln m) {k : Nat} (hk : k < M) (hs : m.1 169 k = nI (s k)) (hs2 : s k < 4) (hA : yrw 170 (yro (yAk ln s k)) m) : ∃ m', fX12_putsOn_144 (nI k) m = some m' ∧ yrw 170 (yro (yAk ln s (k + 1))) m' ∧ yfr [170] m m' := by
  have b := ywf_n hL (s := s) hk
  have h1 := s_fromOf hM h hk hs hs2
  have h2 := s_toOf hM h hk hs hs2
  have o1 : nI (yro (yAk ln s k) (ywf ln s k) ||| 2 ^ (ywt ln s k)) = nI (yro (yAk ln s (k + 1)) (ywf ln s k)) := by
    unfold yro
    rw [ybs_o1 (by omega)]
    congr 1
    apply ybs_c
    intro c _
    rw [yAk_s]
    exact ⟨fun g => g.elim Or.inl fun g => Or.inr ⟨rfl, g⟩, fun g => g.elim Or.inl fun g => Or.inr g.2⟩
  refine ⟨xwi m 170 (ywf ln s k) (nI (yro (yAk ln s (k + 1)) (ywf ln s k))), ?_, fun p hp => ?_, yfr_w yfr_r (by decide)⟩
  · apply fX12_putsOn_144_i
    simp (disch := omega) only [yl3, yl4, yl5, yl6, yl7, yl8, yl9, yl10, yl13, yl16, yl20, yl21, yl22, yl23, yl24, yl32, yl40, yl48, yl57, yl59, yl63, yl64, yl97, yl99, yl122, yl255, yl256, yl400, yl1000, yl2000, yl2048, yc0_eq, yc0_eq2, yc0_le, yc0_ge, yc0_lt, yc0_gt, yc0_ad, yc0_da, yc0_sb, yc0_ml, yc0_lm, yc1_eq, yc1_eq2, yc1_le, yc1_ge, yc1_lt, yc1_gt, yc1_ad, yc1_da, yc1_sb, yc1_ml, yc1_lm, yc2_eq, yc2_eq2, yc2_le, yc2_ge, yc2_lt, yc2_gt, yc2_ad, yc2_da, yc2_sb, yc2_ml, yc2_lm, yc31_ge, ymodn, yI_1sl, yc2_dv, yn1_eq, yn1_lt, xgd_t, xlt_e, Option.bind_some, nI_add, pk_mul, pk_sub, pk_div, pk_rem, yI_and, yI_or, yI_xor, yI_nd, yI_nd2, yI_31, yI_shl, nI_leI, nI_ltI, nI_eq, nI_clamp, xinb_t, yP_z, yP_if, h1, h2, hA _ (by omega : ywf ln s k < 8), o1]
  · by_cases e : p = ywf ln s k
    · subst e; rw [xwi_e]
    · rw [xwi_i e, hA p hp]
      congr 1
      unfold yro
      apply ybs_c
      intro c _
      rw [yAk_s]
      exact ⟨Or.inl, fun g => g.elim id fun g => absurd g.1 e⟩
theorem s_takesOff {R : Nat → Nat} {n M : Nat} {ln : Nat → Nat × Nat} (hn : n ≤ 8) (hM : M ≤ 28) (hL : yLn R n M ln) {s : Nat → Nat} {m : xmm} (h : yWL R n M ln m) {k : Nat} (hk : k < M) (hs : m.1 169 k = nI (s k)) (hs2 : s k < 4) (hA : yrw 170 (yro (yAk ln s (k + 1))) m) : ∃ m', fX12_takesOff_144 (nI k) m = some m' ∧ yrw 170 (yro (yAk ln s k)) m' ∧ yfr [170] m m' := by
  have b := ywf_n hL (s := s) hk
  have h1 := s_fromOf hM h hk hs hs2
  have h2 := s_toOf hM h hk hs hs2
  have hno : ¬ yAk ln s k (ywf ln s k) (ywt ln s k) := by
    intro g
    obtain ⟨j, j1, j2, j3⟩ := yAk_ex g
    have hj := hL.1 j (by omega)
    have hk' := hL.1 k hk
    have e : ln j = ln k := by
      rcases ywft j2 j3 with a | a <;> rcases ywft (ln := ln) (s := s) (k := k) rfl rfl with c | c
      · rw [a, c]
      · rw [a] at hj; rw [c] at hk'
        have g1 := hj.1; have g2 := hk'.1; dsimp only at g1 g2; omega
      · rw [a] at hj; rw [c] at hk'
        have g1 := hj.1; have g2 := hk'.1; dsimp only at g1 g2; omega
      · rw [a, c]
    exact hL.2.2 j k j1 hk e
  have o1 : nI (ynd (yro (yAk ln s (k + 1)) (ywf ln s k)) (2 ^ (ywt ln s k))) = nI (yro (yAk ln s k) (ywf ln s k)) := by
    unfold yro
    rw [ybs_n1]
    congr 1
    apply ybs_c
    intro c _
    rw [yAk_s]
    constructor
    · rintro ⟨g1 | g1, g2⟩
      · exact g1
      · exact absurd g1.2 g2
    · intro g
      refine ⟨Or.inl g, fun e => ?_⟩
      subst e
      exact hno g
  refine ⟨xwi m 170 (ywf ln s k) (nI (yro (yAk ln s k) (ywf ln s k))), ?_, fun p hp => ?_, yfr_w yfr_r (by decide)⟩
  · apply fX12_takesOff_144_i
    simp (disch := omega) only [yl3, yl4, yl5, yl6, yl7, yl8, yl9, yl10, yl13, yl16, yl20, yl21, yl22, yl23, yl24, yl32, yl40, yl48, yl57, yl59, yl63, yl64, yl97, yl99, yl122, yl255, yl256, yl400, yl1000, yl2000, yl2048, yc0_eq, yc0_eq2, yc0_le, yc0_ge, yc0_lt, yc0_gt, yc0_ad, yc0_da, yc0_sb, yc0_ml, yc0_lm, yc1_eq, yc1_eq2, yc1_le, yc1_ge, yc1_lt, yc1_gt, yc1_ad, yc1_da, yc1_sb, yc1_ml, yc1_lm, yc2_eq, yc2_eq2, yc2_le, yc2_ge, yc2_lt, yc2_gt, yc2_ad, yc2_da, yc2_sb, yc2_ml, yc2_lm, yc31_ge, ymodn, yI_1sl, yc2_dv, yn1_eq, yn1_lt, xgd_t, xlt_e, Option.bind_some, nI_add, pk_mul, pk_sub, pk_div, pk_rem, yI_and, yI_or, yI_xor, yI_nd, yI_nd2, yI_31, yI_shl, nI_leI, nI_ltI, nI_eq, nI_clamp, xinb_t, yP_z, yP_if, h1, h2, hA _ (by omega : ywf ln s k < 8), o1]
  · by_cases e : p = ywf ln s k
    · subst e; rw [xwi_e]
    · rw [xwi_i e, hA p hp]
      congr 1
      unfold yro
      apply ybs_c
      intro c _
      rw [yAk_s]
      exact ⟨fun g => g.elim id fun g => absurd g.1 e, Or.inl⟩
theorem s_agr_l {R : Nat → Nat} {n : Nat} (hG : yGr n R) {A : yG} (hA8 : ∀ x y, A x y → y < 8) {m : xmm} (h : yMN n R m) (hA : yrw 170 (yro A) m) {a b : Nat} (ha : a < n) (hb : b < n) : ∀ (d k : Nat), k + d = n → bX12_agrees_144_15 (nI a) (nI b) (nI k) m = some (yP (∀ c, k ≤ c → c < n → c ≠ a → c ≠ b → (A b c → yad R a c ∧ ¬ A c a) ∧ (A c a → yad R c b ∧ ¬ A b c)), m) := by
  have hn := hG.1
  have ba : ∀ x y, yb (yro A x) y ↔ A x y := fun x y => by
    show yb (ybs _ 8) y ↔ _
    rw [yb_bs]
    exact ⟨fun g => g.2, fun g => ⟨hA8 x y g, g⟩⟩
  intro d
  induction d with
  | zero =>
    intro k hk
    have e : k = n := by omega
    subst e
    rw [yP_t yal_e]
    apply bX12_agrees_144_15_i
    simp (disch := omega) only [yl3, yl4, yl5, yl6, yl7, yl8, yl9, yl10, yl13, yl16, yl20, yl21, yl22, yl23, yl24, yl32, yl40, yl48, yl57, yl59, yl63, yl64, yl97, yl99, yl122, yl255, yl256, yl400, yl1000, yl2000, yl2048, yc0_eq, yc0_eq2, yc0_le, yc0_ge, yc0_lt, yc0_gt, yc0_ad, yc0_da, yc0_sb, yc0_ml, yc0_lm, yc1_eq, yc1_eq2, yc1_le, yc1_ge, yc1_lt, yc1_gt, yc1_ad, yc1_da, yc1_sb, yc1_ml, yc1_lm, yc2_eq, yc2_eq2, yc2_le, yc2_ge, yc2_lt, yc2_gt, yc2_ad, yc2_da, yc2_sb, yc2_ml, yc2_lm, yc31_ge, ymodn, yI_1sl, yc2_dv, yn1_eq, yn1_lt, xgd_t, xlt_e, Option.bind_some, nI_add, pk_mul, pk_sub, pk_div, pk_rem, yI_and, yI_or, yI_xor, yI_nd, yI_nd2, yI_31, yI_shl, nI_leI, nI_ltI, nI_eq, nI_clamp, xinb_t, yP_z, yP_if, h.1, if_pos]
  | succ d ih =>
    intro k hk
    have e := ih (k + 1) (by omega)
    rw [yP_c (yal_s (P := fun c => c ≠ a → c ≠ b → (A b c → yad R a c ∧ ¬ A c a) ∧ (A c a → yad R c b ∧ ¬ A b c)) (by omega : k < n))]
    apply bX12_agrees_144_15_i
    by_cases e1 : k = a
    · simp (disch := omega) only [yl3, yl4, yl5, yl6, yl7, yl8, yl9, yl10, yl13, yl16, yl20, yl21, yl22, yl23, yl24, yl32, yl40, yl48, yl57, yl59, yl63, yl64, yl97, yl99, yl122, yl255, yl256, yl400, yl1000, yl2000, yl2048, yc0_eq, yc0_eq2, yc0_le, yc0_ge, yc0_lt, yc0_gt, yc0_ad, yc0_da, yc0_sb, yc0_ml, yc0_lm, yc1_eq, yc1_eq2, yc1_le, yc1_ge, yc1_lt, yc1_gt, yc1_ad, yc1_da, yc1_sb, yc1_ml, yc1_lm, yc2_eq, yc2_eq2, yc2_le, yc2_ge, yc2_lt, yc2_gt, yc2_ad, yc2_da, yc2_sb, yc2_ml, yc2_lm, yc31_ge, ymodn, yI_1sl, yc2_dv, yn1_eq, yn1_lt, xgd_t, xlt_e, Option.bind_some, nI_add, pk_mul, pk_sub, pk_div, pk_rem, yI_and, yI_or, yI_xor, yI_nd, yI_nd2, yI_31, yI_shl, nI_leI, nI_ltI, nI_eq, nI_clamp, xinb_t, yP_z, yP_if, h.1, if_neg, if_pos e1]
      rw [e]
      exact yPm ⟨fun g => ⟨fun g1 => absurd e1 g1, g⟩, fun g => g.2⟩ m
    · by_cases e2 : k = b
      · simp (disch := omega) only [yl3, yl4, yl5, yl6, yl7, yl8, yl9, yl10, yl13, yl16, yl20, yl21, yl22, yl23, yl24, yl32, yl40, yl48, yl57, yl59, yl63, yl64, yl97, yl99, yl122, yl255, yl256, yl400, yl1000, yl2000, yl2048, yc0_eq, yc0_eq2, yc0_le, yc0_ge, yc0_lt, yc0_gt, yc0_ad, yc0_da, yc0_sb, yc0_ml, yc0_lm, yc1_eq, yc1_eq2, yc1_le, yc1_ge, yc1_lt, yc1_gt, yc1_ad, yc1_da, yc1_sb, yc1_ml, yc1_lm, yc2_eq, yc2_eq2, yc2_le, yc2_ge, yc2_lt, yc2_gt, yc2_ad, yc2_da, yc2_sb, yc2_ml, yc2_lm, yc31_ge, ymodn, yI_1sl, yc2_dv, yn1_eq, yn1_lt, xgd_t, xlt_e, Option.bind_some, nI_add, pk_mul, pk_sub, pk_div, pk_rem, yI_and, yI_or, yI_xor, yI_nd, yI_nd2, yI_31, yI_shl, nI_leI, nI_ltI, nI_eq, nI_clamp, xinb_t, yP_z, yP_if, h.1, if_neg, if_neg e1, if_pos e2]
        rw [e]
        exact yPm ⟨fun g => ⟨fun _ g2 => absurd e2 g2, g⟩, fun g => g.2⟩ m
      · have r0 := yro_lt A k
        have r1 := yro_lt A b
        have r2 := yGr_8 hG a
        have r3 := yGr_8 hG k
        -- behind the first test
        have last : (A b k → yad R a k ∧ ¬ A k a) → bX12_agrees_144_91 (nI a) (nI b) (nI k) (yP (A k a)) (yP (A b k)) m = some (yP ((k ≠ a → k ≠ b → (A b k → yad R a k ∧ ¬ A k a) ∧ (A k a → yad R k b ∧ ¬ A b k)) ∧ ∀ c, k + 1 ≤ c → c < n → c ≠ a → c ≠ b → (A b c → yad R a c ∧ ¬ A c a) ∧ (A c a → yad R c b ∧ ¬ A b c)), m) := by
          intro hfst
          apply bX12_agrees_144_91_i
          by_cases c1 : A k a
          · have hl' : yb (R k) b ↔ yad R k b := Iff.rfl
            by_cases c2 : yad R k b
            · by_cases c3 : A b k
              · simp (disch := omega) only [yl3, yl4, yl5, yl6, yl7, yl8, yl9, yl10, yl13, yl16, yl20, yl21, yl22, yl23, yl24, yl32, yl40, yl48, yl57, yl59, yl63, yl64, yl97, yl99, yl122, yl255, yl256, yl400, yl1000, yl2000, yl2048, yc0_eq, yc0_eq2, yc0_le, yc0_ge, yc0_lt, yc0_gt, yc0_ad, yc0_da, yc0_sb, yc0_ml, yc0_lm, yc1_eq, yc1_eq2, yc1_le, yc1_ge, yc1_lt, yc1_gt, yc1_ad, yc1_da, yc1_sb, yc1_ml, yc1_lm, yc2_eq, yc2_eq2, yc2_le, yc2_ge, yc2_lt, yc2_gt, yc2_ad, yc2_da, yc2_sb, yc2_ml, yc2_lm, yc31_ge, ymodn, yI_1sl, yc2_dv, yn1_eq, yn1_lt, xgd_t, xlt_e, Option.bind_some, nI_add, pk_mul, pk_sub, pk_div, pk_rem, yI_and, yI_or, yI_xor, yI_nd, yI_nd2, yI_31, yI_shl, nI_leI, nI_ltI, nI_eq, nI_clamp, xinb_t, yP_z, yP_if, yif_t c1, h.2 k (by omega), s_has, yif_t (hl'.mpr c2), yif_t c3]
                rw [yP_f (fun g => (g.1 e1 e2).2 c1 |>.2 c3)]
              · simp (disch := omega) only [yl3, yl4, yl5, yl6, yl7, yl8, yl9, yl10, yl13, yl16, yl20, yl21, yl22, yl23, yl24, yl32, yl40, yl48, yl57, yl59, yl63, yl64, yl97, yl99, yl122, yl255, yl256, yl400, yl1000, yl2000, yl2048, yc0_eq, yc0_eq2, yc0_le, yc0_ge, yc0_lt, yc0_gt, yc0_ad, yc0_da, yc0_sb, yc0_ml, yc0_lm, yc1_eq, yc1_eq2, yc1_le, yc1_ge, yc1_lt, yc1_gt, yc1_ad, yc1_da, yc1_sb, yc1_ml, yc1_lm, yc2_eq, yc2_eq2, yc2_le, yc2_ge, yc2_lt, yc2_gt, yc2_ad, yc2_da, yc2_sb, yc2_ml, yc2_lm, yc31_ge, ymodn, yI_1sl, yc2_dv, yn1_eq, yn1_lt, xgd_t, xlt_e, Option.bind_some, nI_add, pk_mul, pk_sub, pk_div, pk_rem, yI_and, yI_or, yI_xor, yI_nd, yI_nd2, yI_31, yI_shl, nI_leI, nI_ltI, nI_eq, nI_clamp, xinb_t, yP_z, yP_if, yif_t c1, h.2 k (by omega), s_has, yif_t (hl'.mpr c2), yif_f c3]
                rw [e]
                exact yPm ⟨fun g => ⟨fun _ _ => ⟨hfst, fun _ => ⟨c2, c3⟩⟩, g⟩, fun g => g.2⟩ m
            · simp (disch := omega) only [yl3, yl4, yl5, yl6, yl7, yl8, yl9, yl10, yl13, yl16, yl20, yl21, yl22, yl23, yl24, yl32, yl40, yl48, yl57, yl59, yl63, yl64, yl97, yl99, yl122, yl255, yl256, yl400, yl1000, yl2000, yl2048, yc0_eq, yc0_eq2, yc0_le, yc0_ge, yc0_lt, yc0_gt, yc0_ad, yc0_da, yc0_sb, yc0_ml, yc0_lm, yc1_eq, yc1_eq2, yc1_le, yc1_ge, yc1_lt, yc1_gt, yc1_ad, yc1_da, yc1_sb, yc1_ml, yc1_lm, yc2_eq, yc2_eq2, yc2_le, yc2_ge, yc2_lt, yc2_gt, yc2_ad, yc2_da, yc2_sb, yc2_ml, yc2_lm, yc31_ge, ymodn, yI_1sl, yc2_dv, yn1_eq, yn1_lt, xgd_t, xlt_e, Option.bind_some, nI_add, pk_mul, pk_sub, pk_div, pk_rem, yI_and, yI_or, yI_xor, yI_nd, yI_nd2, yI_31, yI_shl, nI_leI, nI_ltI, nI_eq, nI_clamp, xinb_t, yP_z, yP_if, yif_t c1, h.2 k (by omega), s_has, yif_f (fun g => c2 (hl'.mp g))]
              rw [yP_f (fun g => c2 ((g.1 e1 e2).2 c1).1)]
          · simp (disch := omega) only [yl3, yl4, yl5, yl6, yl7, yl8, yl9, yl10, yl13, yl16, yl20, yl21, yl22, yl23, yl24, yl32, yl40, yl48, yl57, yl59, yl63, yl64, yl97, yl99, yl122, yl255, yl256, yl400, yl1000, yl2000, yl2048, yc0_eq, yc0_eq2, yc0_le, yc0_ge, yc0_lt, yc0_gt, yc0_ad, yc0_da, yc0_sb, yc0_ml, yc0_lm, yc1_eq, yc1_eq2, yc1_le, yc1_ge, yc1_lt, yc1_gt, yc1_ad, yc1_da, yc1_sb, yc1_ml, yc1_lm, yc2_eq, yc2_eq2, yc2_le, yc2_ge, yc2_lt, yc2_gt, yc2_ad, yc2_da, yc2_sb, yc2_ml, yc2_lm, yc31_ge, ymodn, yI_1sl, yc2_dv, yn1_eq, yn1_lt, xgd_t, xlt_e, Option.bind_some, nI_add, pk_mul, pk_sub, pk_div, pk_rem, yI_and, yI_or, yI_xor, yI_nd, yI_nd2, yI_31, yI_shl, nI_leI, nI_ltI, nI_eq, nI_clamp, xinb_t, yP_z, yP_if, yif_f c1]
            rw [e]
            exact yPm ⟨fun g => ⟨fun _ _ => ⟨hfst, fun h => absurd h c1⟩, g⟩, fun g => g.2⟩ m
        have hs1 : fX12_has (nI (yro A k)) (nI a) m = some (yP (A k a), m) := by
          rw [s_has (by omega) (by omega), yP_c (ba k a)]
        have hs2 : fX12_has (nI (yro A b)) (nI k) m = some (yP (A b k), m) := by
          rw [s_has (by omega) (by omega), yP_c (ba b k)]
        have hl' : yb (R a) k ↔ yad R a k := Iff.rfl
        by_cases c3 : A b k
        · by_cases c2 : yad R a k
          · by_cases c1 : A k a
            · simp (disch := omega) only [yl3, yl4, yl5, yl6, yl7, yl8, yl9, yl10, yl13, yl16, yl20, yl21, yl22, yl23, yl24, yl32, yl40, yl48, yl57, yl59, yl63, yl64, yl97, yl99, yl122, yl255, yl256, yl400, yl1000, yl2000, yl2048, yc0_eq, yc0_eq2, yc0_le, yc0_ge, yc0_lt, yc0_gt, yc0_ad, yc0_da, yc0_sb, yc0_ml, yc0_lm, yc1_eq, yc1_eq2, yc1_le, yc1_ge, yc1_lt, yc1_gt, yc1_ad, yc1_da, yc1_sb, yc1_ml, yc1_lm, yc2_eq, yc2_eq2, yc2_le, yc2_ge, yc2_lt, yc2_gt, yc2_ad, yc2_da, yc2_sb, yc2_ml, yc2_lm, yc31_ge, ymodn, yI_1sl, yc2_dv, yn1_eq, yn1_lt, xgd_t, xlt_e, Option.bind_some, nI_add, pk_mul, pk_sub, pk_div, pk_rem, yI_and, yI_or, yI_xor, yI_nd, yI_nd2, yI_31, yI_shl, nI_leI, nI_ltI, nI_eq, nI_clamp, xinb_t, yP_z, yP_if, h.1, if_neg, if_neg e1, if_neg e2, hA k (by omega), hA b (by omega), hs1, hs2, yif_t c3, h.2 a (by omega), s_has, yif_t (hl'.mpr c2), yif_t c1]
              rw [yP_f (fun g => ((g.1 e1 e2).1 c3).2 c1)]
            · have l := last fun _ => ⟨c2, c1⟩
              simp (disch := omega) only [yl3, yl4, yl5, yl6, yl7, yl8, yl9, yl10, yl13, yl16, yl20, yl21, yl22, yl23, yl24, yl32, yl40, yl48, yl57, yl59, yl63, yl64, yl97, yl99, yl122, yl255, yl256, yl400, yl1000, yl2000, yl2048, yc0_eq, yc0_eq2, yc0_le, yc0_ge, yc0_lt, yc0_gt, yc0_ad, yc0_da, yc0_sb, yc0_ml, yc0_lm, yc1_eq, yc1_eq2, yc1_le, yc1_ge, yc1_lt, yc1_gt, yc1_ad, yc1_da, yc1_sb, yc1_ml, yc1_lm, yc2_eq, yc2_eq2, yc2_le, yc2_ge, yc2_lt, yc2_gt, yc2_ad, yc2_da, yc2_sb, yc2_ml, yc2_lm, yc31_ge, ymodn, yI_1sl, yc2_dv, yn1_eq, yn1_lt, xgd_t, xlt_e, Option.bind_some, nI_add, pk_mul, pk_sub, pk_div, pk_rem, yI_and, yI_or, yI_xor, yI_nd, yI_nd2, yI_31, yI_shl, nI_leI, nI_ltI, nI_eq, nI_clamp, xinb_t, yP_z, yP_if, h.1, if_neg, if_neg e1, if_neg e2, hA k (by omega), hA b (by omega), hs1, hs2, yif_t c3, h.2 a (by omega), s_has, yif_t (hl'.mpr c2), yif_f c1]
              exact l
          · simp (disch := omega) only [yl3, yl4, yl5, yl6, yl7, yl8, yl9, yl10, yl13, yl16, yl20, yl21, yl22, yl23, yl24, yl32, yl40, yl48, yl57, yl59, yl63, yl64, yl97, yl99, yl122, yl255, yl256, yl400, yl1000, yl2000, yl2048, yc0_eq, yc0_eq2, yc0_le, yc0_ge, yc0_lt, yc0_gt, yc0_ad, yc0_da, yc0_sb, yc0_ml, yc0_lm, yc1_eq, yc1_eq2, yc1_le, yc1_ge, yc1_lt, yc1_gt, yc1_ad, yc1_da, yc1_sb, yc1_ml, yc1_lm, yc2_eq, yc2_eq2, yc2_le, yc2_ge, yc2_lt, yc2_gt, yc2_ad, yc2_da, yc2_sb, yc2_ml, yc2_lm, yc31_ge, ymodn, yI_1sl, yc2_dv, yn1_eq, yn1_lt, xgd_t, xlt_e, Option.bind_some, nI_add, pk_mul, pk_sub, pk_div, pk_rem, yI_and, yI_or, yI_xor, yI_nd, yI_nd2, yI_31, yI_shl, nI_leI, nI_ltI, nI_eq, nI_clamp, xinb_t, yP_z, yP_if, h.1, if_neg, if_neg e1, if_neg e2, hA k (by omega), hA b (by omega), hs1, hs2, yif_t c3, h.2 a (by omega), s_has, yif_f (fun g => c2 (hl'.mp g))]
            rw [yP_f (fun g => c2 ((g.1 e1 e2).1 c3).1)]
        · have l := last fun g => absurd g c3
          simp (disch := omega) only [yl3, yl4, yl5, yl6, yl7, yl8, yl9, yl10, yl13, yl16, yl20, yl21, yl22, yl23, yl24, yl32, yl40, yl48, yl57, yl59, yl63, yl64, yl97, yl99, yl122, yl255, yl256, yl400, yl1000, yl2000, yl2048, yc0_eq, yc0_eq2, yc0_le, yc0_ge, yc0_lt, yc0_gt, yc0_ad, yc0_da, yc0_sb, yc0_ml, yc0_lm, yc1_eq, yc1_eq2, yc1_le, yc1_ge, yc1_lt, yc1_gt, yc1_ad, yc1_da, yc1_sb, yc1_ml, yc1_lm, yc2_eq, yc2_eq2, yc2_le, yc2_ge, yc2_lt, yc2_gt, yc2_ad, yc2_da, yc2_sb, yc2_ml, yc2_lm, yc31_ge, ymodn, yI_1sl, yc2_dv, yn1_eq, yn1_lt, xgd_t, xlt_e, Option.bind_some, nI_add, pk_mul, pk_sub, pk_div, pk_rem, yI_and, yI_or, yI_xor, yI_nd, yI_nd2, yI_31, yI_shl, nI_leI, nI_ltI, nI_eq, nI_clamp, xinb_t, yP_z, yP_if, h.1, if_neg, if_neg e1, if_neg e2, hA k (by omega), hA b (by omega), hs1, hs2, yif_f c3]
          exact l
theorem s_agrees {R : Nat → Nat} {n M : Nat} {ln : Nat → Nat × Nat} (hG : yGr n R) (hM : M ≤ 28) (hL : yLn R n M ln) {s : Nat → Nat} {m : xmm} (h : yWL R n M ln m) {k : Nat} (hk : k < M) (hs : m.1 169 k = nI (s k)) (hs2 : s k < 4) (hA : yrw 170 (yro (yAk ln s (k + 1))) m) : fX12_agrees_144 (nI k) m = some (yP (yagr R n (yAk ln s (k + 1)) (ywf ln s k) (ywt ln s k)), m) := by
  have hn := hG.1
  have b := ywf_n hL (s := s) hk
  have h1 := s_fromOf hM h hk hs hs2
  have h2 := s_toOf hM h hk hs hs2
  have e := s_agr_l hG (fun x y g => by have := (yAk_g hG.2.2.2 hL (by omega) g).2.2; omega) h.1 hA b.1 b.2 n 0 (by omega)
  apply fX12_agrees_144_i
  rw [h1, Option.bind_some, h2, Option.bind_some]
  rw [show (0 : Int32) = nI 0 from rfl, e]
  exact yPm ⟨fun g c hc => g c (Nat.zero_le c) hc, fun g c _ hc => g c hc⟩ m
/-! the search -/
def yset (s : Nat → Nat) (k v : Nat) : Nat → Nat := fun j => if j = k then v else s j
theorem yset_e (s : Nat → Nat) (k v : Nat) : yset s k v k = v := if_pos rfl
theorem yset_n {s : Nat → Nat} {k v j : Nat} (h : j ≠ k) : yset s k v j = s j := if_neg h
theorem s_mw_main {R : Nat → Nat} {n M : Nat} {ln : Nat → Nat × Nat} (hG : yGr n R) (hM : M ≤ 28) (hL : yLn R n M ln) : ∀ (d k : Nat), k + d = M → 0 < d → ∀ (s : Nat → Nat) (m : xmm), yWL R n M ln m → (∀ j, j < k → m.1 169 j = nI (s j)) → m.1 169 k = -1 → yrw 170 (yro (yAk ln s k)) m → yok R (yAk ln s k) → ∃ (N : Nat) (m' : xmm), (∀ (found : Nat) {z : Int32 × xmm}, bX12_ways_144_102 (nI M) (nI (found + N)) (nI k + (-1 : Int32)) m' = some z → bX12_ways_144_102 (nI M) (nI found) (nI k) m = some z) ∧ yrw 170 (yro (yAk ln s k)) m' ∧ (∀ j, j < k → m'.1 169 j = nI (s j)) ∧ yfr [169, 170] m m' ∧ yhc (yext R (yAk ln s k)) N := by
  have hn := hG.1
  have hsy := hG.2.2.2
  intro d
  induction d with
  | zero => intro k hk h0; omega
  | succ d ih =>
    intro k hk h0 s m h h1 h2 hA hok
    have hkM : k < M := by omega
    -- one of the two ways of line k
    have go : ∀ (v : Nat), v < 2 → ∀ (m0 : xmm), yWL R n M ln m0 → (∀ j, j < k → m0.1 169 j = nI (s j)) → yrw 170 (yro (yAk ln s k)) m0 → ∃ (N : Nat) (m' : xmm), (∀ (found : Nat) {z : Int32 × xmm}, bX12_ways_144_102 (nI M) (nI (found + N)) (nI k) m' = some z → ((fX12_putsOn_144 (nI k) (xwi m0 169 k (nI v))).bind fun (w3 : xmm) => (fX12_agrees_144 (nI k) w3).bind fun (w5 : Int32 × xmm) => if w5.1 = 0 then bX12_ways_144_102 (nI M) (nI found) (nI k) w5.2 else if nI k = ((nI M) - (1 : Int32)) then bX12_ways_144_102 (nI M) ((nI found) + (1 : Int32)) (nI k) w5.2 else xgd (xinb 28 ((nI k) + (1 : Int32))) (xlt (xwi w5.2 169 (((nI k) + (1 : Int32))).toNatClampNeg (-1 : Int32)) fun (m8 : xmm) => bX12_ways_144_102 (nI M) (nI found) ((nI k) + (1 : Int32)) m8)) = some z) ∧ yrw 170 (yro (yAk ln (yset s k v) (k + 1))) m' ∧ (∀ j, j < k → m'.1 169 j = nI (s j)) ∧ m'.1 169 k = nI v ∧ yfr [169, 170] m0 m' ∧ yhc (yext R (yAk ln (yset s k v) (k + 1))) N := by
      intro v hv m0 g0 g1 gA
      have eAk : yAk ln (yset s k v) k = yAk ln s k := yAk_c fun j hj => yset_n (by omega)
      have fr0 : yfr [169, 170] m0 (xwi m0 169 k (nI v)) := yfr_w yfr_r (by decide)
      have g0' := yWL_r g0 fr0 (by decide) (by decide) (by decide) (by decide)
      have sv : (xwi m0 169 k (nI v)).1 169 k = nI (yset s k v k) := by rw [xwi_e, yset_e]
      have sv2 : yset s k v k < 4 := by rw [yset_e]; omega
      obtain ⟨m1, p1, p2, p3⟩ := s_putsOn hn hM hL (s := yset s k v) g0' hkM sv sv2 (fun p hp => by rw [xwi_k (by decide), eAk]; exact gA p hp)
      have fr1 : yfr [169, 170] m0 m1 := yfr_t fr0 (yfr_m p3 (by decide))
      have w1 := yWL_r g0 fr1 (by decide) (by decide) (by decide) (by decide)
      have k169 : ∀ j, m1.1 169 j = (xwi m0 169 k (nI v)).1 169 j := fun j => yfr_1 p3 169 j (by decide)
      have sv1 : m1.1 169 k = nI (yset s k v k) := by rw [k169]; exact sv
      have low : ∀ j, j < k → m1.1 169 j = nI (s j) := fun j hj => by rw [k169, xwi_i (by omega)]; exact g1 j hj
      have ag := s_agrees hG hM hL (s := yset s k v) w1 hkM sv1 sv2 p2
      by_cases hag : yagr R n (yAk ln (yset s k v) (k + 1)) (ywf ln (yset s k v) k) (ywt ln (yset s k v) k)
      · have hok1 : yok R (yAk ln (yset s k v) (k + 1)) := yok_s hsy hL hkM (by rw [eAk]; exact hok) hag
        by_cases hlast : k + 1 = M
        · refine ⟨1, m1, fun found {z} hz => ?_, p2, low, by rw [sv1, yset_e], fr1, ?_⟩
          · simp (disch := omega) only [p1, Option.bind_some, ag, yP_if, yif_t hag, yc1_sb, nI_eq, if_pos, yc1_ad]
            exact hz
          · have := yext_leaf hsy hL (s := yset s k v) (by rw [← hlast]; exact hok1)
            rw [hlast]
            exact this
        · have fr2 : yfr [169, 170] m1 (xwi m1 169 (k + 1) (-1)) := yfr_w yfr_r (by decide)
          obtain ⟨N, m', e1, e2, e3, e4, e5⟩ := ih (k + 1) (by omega) (by omega) (yset s k v) (xwi m1 169 (k + 1) (-1)) (yWL_r w1 fr2 (by decide) (by decide) (by decide) (by decide)) (fun j hj => by
            rw [xwi_i (by omega)]
            by_cases e : j = k
            · subst e; exact sv1
            · rw [yset_n e]; exact low j (by omega)) (xwi_e _ _ _ _) (fun p hp => by rw [xwi_k (by decide)]; exact p2 p hp) hok1
          refine ⟨N, m', fun found {z} hz => ?_, e2, fun j hj => by rw [e3 j (by omega), yset_n (by omega)], by rw [e3 k (by omega), yset_e], yfr_t fr1 (yfr_t fr2 e4), e5⟩
          have e6 : nI (k + 1) + (-1 : Int32) = nI k := pk_m1 k
          rw [e6] at e1
          simp (disch := omega) only [p1, Option.bind_some, ag, yP_if, yif_t hag, yc1_sb, nI_eq, if_neg, yc1_ad, xinb_t, xgd_t, nI_clamp, xlt_e]
          exact e1 found hz
      · refine ⟨0, m1, fun found {z} hz => ?_, p2, low, by rw [sv1, yset_e], fr1, ?_⟩
        · simp (disch := omega) only [p1, Option.bind_some, ag, yP_if, yif_f hag]
          exact hz
        · refine yhc_0 ?_
          rintro T ⟨hT, hTA⟩
          exact hag (yagr_of hT hTA (hTA _ _ ((yAk_s _ _ _ _ _).mpr (Or.inr ⟨rfl, rfl⟩))))
    obtain ⟨N0, m1, a1, a2, a3, a4, a5, a6⟩ := go 0 (by decide) m h h1 hA
    -- the first is taken off
    have w1 := yWL_r h a5 (by decide) (by decide) (by decide) (by decide)
    obtain ⟨m2, b1, b2, b3⟩ := s_takesOff hn hM hL (s := yset s k 0) w1 hkM (by rw [a4, yset_e]) (by rw [yset_e]; decide) a2
    have eAk0 : yAk ln (yset s k 0) k = yAk ln s k := yAk_c fun j hj => yset_n (by omega)
    have fr2 : yfr [169, 170] m m2 := yfr_t a5 (yfr_m b3 (by decide))
    have w2 := yWL_r h fr2 (by decide) (by decide) (by decide) (by decide)
    have k2 : ∀ j, m2.1 169 j = m1.1 169 j := fun j => yfr_1 b3 169 j (by decide)
    obtain ⟨N1, m3, c1, c2, c3, c4, c5, c6⟩ := go 1 (by decide) m2 w2 (fun j hj => by rw [k2]; exact a3 j hj) (fun p hp => by rw [← eAk0]; exact b2 p hp)
    have fr3 : yfr [169, 170] m m3 := yfr_t fr2 c5
    have w3 := yWL_r h fr3 (by decide) (by decide) (by decide) (by decide)
    obtain ⟨m4, d1, d2, d3⟩ := s_takesOff hn hM hL (s := yset s k 1) w3 hkM (by rw [c4, yset_e]) (by rw [yset_e]; decide) c2
    have eAk1 : yAk ln (yset s k 1) k = yAk ln s k := yAk_c fun j hj => yset_n (by omega)
    have k4 : ∀ j, m4.1 169 j = m3.1 169 j := fun j => yfr_1 d3 169 j (by decide)
    have fr4 : yfr [169, 170] m (xwi m4 169 k (nI 2)) := yfr_w (yfr_t fr3 (yfr_m d3 (by decide))) (by decide)
    refine ⟨N0 + N1, xwi m4 169 k (nI 2), fun found {z} hz => ?_, fun p hp => by rw [xwi_k (by decide), ← eAk1]; exact d2 p hp, fun j hj => by rw [xwi_i (by omega), k4]; exact c3 j hj, fr4, ?_⟩
    · -- third, second, first time at k
      have t3 : bX12_ways_144_102 (nI M) (nI (found + N0 + N1)) (nI k) m3 = some z := by
        have t3b : bX12_ways_144_120 (nI M) (nI (found + N0 + N1)) (nI k) m4 = some z := by
          have q : m4.1 169 k = nI 1 := by rw [k4]; exact c4
          apply bX12_ways_144_120_i
          have n1 : ¬ nI 2 ≤ (1 : Int32) := by decide
          simp (disch := omega) only [yl3, yl4, yl5, yl6, yl7, yl8, yl9, yl10, yl13, yl16, yl20, yl21, yl22, yl23, yl24, yl32, yl40, yl48, yl57, yl59, yl63, yl64, yl97, yl99, yl122, yl255, yl256, yl400, yl1000, yl2000, yl2048, yc0_eq, yc0_eq2, yc0_le, yc0_ge, yc0_lt, yc0_gt, yc0_ad, yc0_da, yc0_sb, yc0_ml, yc0_lm, yc1_eq, yc1_eq2, yc1_le, yc1_ge, yc1_lt, yc1_gt, yc1_ad, yc1_da, yc1_sb, yc1_ml, yc1_lm, yc2_eq, yc2_eq2, yc2_le, yc2_ge, yc2_lt, yc2_gt, yc2_ad, yc2_da, yc2_sb, yc2_ml, yc2_lm, yc31_ge, ymodn, yI_1sl, yc2_dv, yn1_eq, yn1_lt, xgd_t, xlt_e, Option.bind_some, nI_add, pk_mul, pk_sub, pk_div, pk_rem, yI_and, yI_or, yI_xor, yI_nd, yI_nd2, yI_31, yI_shl, nI_leI, nI_ltI, nI_eq, nI_clamp, xinb_t, yP_z, yP_if, q, xwi_e, n1, if_false]
          rw [show found + N0 + N1 = found + (N0 + N1) by omega]
          exact hz
        apply bX12_ways_144_102_i
        simp (disch := omega) only [yl3, yl4, yl5, yl6, yl7, yl8, yl9, yl10, yl13, yl16, yl20, yl21, yl22, yl23, yl24, yl32, yl40, yl48, yl57, yl59, yl63, yl64, yl97, yl99, yl122, yl255, yl256, yl400, yl1000, yl2000, yl2048, yc0_eq, yc0_eq2, yc0_le, yc0_ge, yc0_lt, yc0_gt, yc0_ad, yc0_da, yc0_sb, yc0_ml, yc0_lm, yc1_eq, yc1_eq2, yc1_le, yc1_ge, yc1_lt, yc1_gt, yc1_ad, yc1_da, yc1_sb, yc1_ml, yc1_lm, yc2_eq, yc2_eq2, yc2_le, yc2_ge, yc2_lt, yc2_gt, yc2_ad, yc2_da, yc2_sb, yc2_ml, yc2_lm, yc31_ge, ymodn, yI_1sl, yc2_dv, yn1_eq, yn1_lt, xgd_t, xlt_e, Option.bind_some, nI_add, pk_mul, pk_sub, pk_div, pk_rem, yI_and, yI_or, yI_xor, yI_nd, yI_nd2, yI_31, yI_shl, nI_leI, nI_ltI, nI_eq, nI_clamp, xinb_t, yP_z, yP_if, if_neg, c4, d1, t3b]
      have t2 : bX12_ways_144_102 (nI M) (nI (found + N0)) (nI k) m1 = some z := by
        have t2b : bX12_ways_144_120 (nI M) (nI (found + N0)) (nI k) m2 = some z := by
          have q : m2.1 169 k = nI 0 := by rw [k2]; exact a4
          have e01 : nI 0 + (1 : Int32) = nI 1 := rfl
          have n1 : nI 1 ≤ (1 : Int32) := by decide
          apply bX12_ways_144_120_i
          have i28 : xinb 28 (nI k) = true := xinb_t (by omega) (by decide)
          have cl : (nI k).toNatClampNeg = k := nI_clamp (by omega)
          rw [i28, cl, q, e01]
          simp only [xgd_t, xlt_e, xwi_e, n1, if_true]
          exact c1 (found + N0) t3
        apply bX12_ways_144_102_i
        simp (disch := omega) only [yl3, yl4, yl5, yl6, yl7, yl8, yl9, yl10, yl13, yl16, yl20, yl21, yl22, yl23, yl24, yl32, yl40, yl48, yl57, yl59, yl63, yl64, yl97, yl99, yl122, yl255, yl256, yl400, yl1000, yl2000, yl2048, yc0_eq, yc0_eq2, yc0_le, yc0_ge, yc0_lt, yc0_gt, yc0_ad, yc0_da, yc0_sb, yc0_ml, yc0_lm, yc1_eq, yc1_eq2, yc1_le, yc1_ge, yc1_lt, yc1_gt, yc1_ad, yc1_da, yc1_sb, yc1_ml, yc1_lm, yc2_eq, yc2_eq2, yc2_le, yc2_ge, yc2_lt, yc2_gt, yc2_ad, yc2_da, yc2_sb, yc2_ml, yc2_lm, yc31_ge, ymodn, yI_1sl, yc2_dv, yn1_eq, yn1_lt, xgd_t, xlt_e, Option.bind_some, nI_add, pk_mul, pk_sub, pk_div, pk_rem, yI_and, yI_or, yI_xor, yI_nd, yI_nd2, yI_31, yI_shl, nI_leI, nI_ltI, nI_eq, nI_clamp, xinb_t, yP_z, yP_if, if_neg, a4, b1, t2b]
      have t1 : bX12_ways_144_120 (nI M) (nI found) (nI k) m = some z := by
        have e01 : (-1 : Int32) + (1 : Int32) = nI 0 := by decide
        have n1 : nI 0 ≤ (1 : Int32) := by decide
        apply bX12_ways_144_120_i
        have i28 : xinb 28 (nI k) = true := xinb_t (by omega) (by decide)
        have cl : (nI k).toNatClampNeg = k := nI_clamp (by omega)
        rw [i28, cl, h2, e01]
        simp only [xgd_t, xlt_e, xwi_e, n1, if_true]
        exact a1 found t2
      have n2 : (-1 : Int32) < 0 := by decide
      apply bX12_ways_144_102_i
      simp (disch := omega) only [yl3, yl4, yl5, yl6, yl7, yl8, yl9, yl10, yl13, yl16, yl20, yl21, yl22, yl23, yl24, yl32, yl40, yl48, yl57, yl59, yl63, yl64, yl97, yl99, yl122, yl255, yl256, yl400, yl1000, yl2000, yl2048, yc0_eq, yc0_eq2, yc0_le, yc0_ge, yc0_lt, yc0_gt, yc0_ad, yc0_da, yc0_sb, yc0_ml, yc0_lm, yc1_eq, yc1_eq2, yc1_le, yc1_ge, yc1_lt, yc1_gt, yc1_ad, yc1_da, yc1_sb, yc1_ml, yc1_lm, yc2_eq, yc2_eq2, yc2_le, yc2_ge, yc2_lt, yc2_gt, yc2_ad, yc2_da, yc2_sb, yc2_ml, yc2_lm, yc31_ge, ymodn, yI_1sl, yc2_dv, yn1_eq, yn1_lt, xgd_t, xlt_e, Option.bind_some, nI_add, pk_mul, pk_sub, pk_div, pk_rem, yI_and, yI_or, yI_xor, yI_nd, yI_nd2, yI_31, yI_shl, nI_leI, nI_ltI, nI_eq, nI_clamp, xinb_t, yP_z, yP_if, if_neg, h2, n2, if_true, t1]
    · -- the two ways make all
      refine yhc_c ?_ (yhc_or a6 c6 ?_)
      · intro T
        have hf0 : ywf ln (yset s k 0) k = (ln k).1 ∧ ywt ln (yset s k 0) k = (ln k).2 := by
          unfold ywf ywt
          rw [yset_e, if_pos rfl, if_pos rfl]
          exact ⟨rfl, rfl⟩
        have hf1 : ywf ln (yset s k 1) k = (ln k).2 ∧ ywt ln (yset s k 1) k = (ln k).1 := by
          unfold ywf ywt
          rw [yset_e, if_neg (by decide), if_neg (by decide)]
          exact ⟨rfl, rfl⟩
        constructor
        · rintro (⟨g1, g2⟩ | ⟨g1, g2⟩)
          · exact ⟨g1, fun x y hxy => g2 x y ((yAk_s _ _ _ _ _).mpr (Or.inl (by rw [eAk0]; exact hxy)))⟩
          · exact ⟨g1, fun x y hxy => g2 x y ((yAk_s _ _ _ _ _).mpr (Or.inl (by rw [eAk1]; exact hxy)))⟩
        · rintro ⟨g1, g2⟩
          have hl := (hL.1 k hkM).2.2
          rcases g1.2.1 _ _ hl with g | g
          · refine Or.inl ⟨g1, fun x y hxy => ?_⟩
            rcases (yAk_s _ _ _ _ _).mp hxy with e | ⟨e1, e2⟩
            · rw [eAk0] at e; exact g2 x y e
            · rw [e1, e2, hf0.1, hf0.2]; exact g
          · refine Or.inr ⟨g1, fun x y hxy => ?_⟩
            rcases (yAk_s _ _ _ _ _).mp hxy with e | ⟨e1, e2⟩
            · rw [eAk1] at e; exact g2 x y e
            · rw [e1, e2, hf1.1, hf1.2]; exact g
      · rintro T ⟨g1, g2⟩ ⟨_, g3⟩
        have h3 := g2 _ _ ((yAk_s _ _ _ _ _).mpr (Or.inr ⟨rfl, rfl⟩))
        have h4 := g3 _ _ ((yAk_s _ _ _ _ _).mpr (Or.inr ⟨rfl, rfl⟩))
        unfold ywf ywt at h3 h4
        rw [yset_e, if_pos rfl, if_pos rfl] at h3
        rw [yset_e, if_neg (by decide), if_neg (by decide)] at h4
        exact g1.2.2.1 _ _ h3 h4
/-! the lines told -/
/-- the lines with the greater post below q, and of q those with the lesser one below p -/
def yLq (R : Nat → Nat) (q p M : Nat) (ln : Nat → Nat × Nat) : Prop := (∀ k, k < M → (ln k).1 < (ln k).2 ∧ ((ln k).2 < q ∨ ((ln k).2 = q ∧ (ln k).1 < p)) ∧ yad R (ln k).1 (ln k).2) ∧ (∀ a b, a < b → (b < q ∨ (b = q ∧ a < p)) → yad R a b → ∃ k, k < M ∧ ln k = (a, b)) ∧ ∀ j k, j < k → k < M → ln j ≠ ln k
theorem s_mwl_14 {R : Nat → Nat} {n : Nat} (hG : yGr n R) {q : Nat} (hq : q < n) : ∀ (d p : Nat), p + d = q → ∀ (M : Nat) (ln : Nat → Nat × Nat) (m : xmm), M ≤ ysm (fun j => j) q + p → yLq R q p M ln → yWL R n M ln m → ∃ (M' : Nat) (ln' : Nat → Nat × Nat) (m' : xmm), (∀ {z : Int32 × xmm}, bX12_ways_144_4 (nI M') (nI (q + 1)) m' = some z → bX12_ways_144_14 (nI M) (nI q) (nI p) m = some z) ∧ M' ≤ ysm (fun j => j) q + q ∧ yLq R q q M' ln' ∧ yWL R n M' ln' m' ∧ yfr [167, 168] m m' := by
  have hn := hG.1
  have b28 : ysm (fun j => j) q + q ≤ 28 := by
    have h1 := ysm_mono (fun j => j) (q + 1) (8 - (q + 1))
    rw [show q + 1 + (8 - (q + 1)) = 8 by omega, ysm_s] at h1
    have h2 : ysm (fun j => j) 8 = 28 := by decide
    omega
  intro d
  induction d with
  | zero =>
    intro p hp M ln m hM hL h
    have e : p = q := by omega
    subst e
    refine ⟨M, ln, m, fun {z} hz => ?_, hM, hL, h, yfr_r⟩
    apply bX12_ways_144_14_i
    simp (disch := omega) only [yl3, yl4, yl5, yl6, yl7, yl8, yl9, yl10, yl13, yl16, yl20, yl21, yl22, yl23, yl24, yl32, yl40, yl48, yl57, yl59, yl63, yl64, yl97, yl99, yl122, yl255, yl256, yl400, yl1000, yl2000, yl2048, yc0_eq, yc0_eq2, yc0_le, yc0_ge, yc0_lt, yc0_gt, yc0_ad, yc0_da, yc0_sb, yc0_ml, yc0_lm, yc1_eq, yc1_eq2, yc1_le, yc1_ge, yc1_lt, yc1_gt, yc1_ad, yc1_da, yc1_sb, yc1_ml, yc1_lm, yc2_eq, yc2_eq2, yc2_le, yc2_ge, yc2_lt, yc2_gt, yc2_ad, yc2_da, yc2_sb, yc2_ml, yc2_lm, yc31_ge, ymodn, yI_1sl, yc2_dv, yn1_eq, yn1_lt, xgd_t, xlt_e, Option.bind_some, nI_add, pk_mul, pk_sub, pk_div, pk_rem, yI_and, yI_or, yI_xor, yI_nd, yI_nd2, yI_31, yI_shl, nI_leI, nI_ltI, nI_eq, nI_clamp, xinb_t, yP_z, yP_if, if_pos]
    exact hz
  | succ d ih =>
    intro p hp M ln m hM hL h
    have rp := yGr_8 hG p
    by_cases hl : yad R p q
    · have hl' : yb (R p) q := hl
      let ln2 : Nat → Nat × Nat := fun k => if k = M then (p, q) else ln k
      have e2 : ln2 M = (p, q) := if_pos rfl
      have e3 : ∀ k, k ≠ M → ln2 k = ln k := fun k hk => if_neg hk
      have fr : yfr [167, 168] m (xwi (xwi m 167 M (nI p)) 168 M (nI q)) := yfr_w (yfr_w yfr_r (by decide)) (by decide)
      obtain ⟨M', ln', m', c1, c2, c3, c4, c5⟩ := ih (p + 1) (by omega) (M + 1) ln2 (xwi (xwi m 167 M (nI p)) 168 M (nI q)) (by omega) (by
        obtain ⟨l1, l2, l3⟩ := hL
        refine ⟨fun k hk => ?_, fun a b hab hb hl2 => ?_, fun j k hjk hk => ?_⟩
        · by_cases e : k = M
          · subst e
            rw [e2]
            exact ⟨by show p < q; omega, Or.inr ⟨rfl, Nat.lt_succ_self p⟩, hl⟩
          · rw [e3 k e]
            have := l1 k (by omega)
            exact ⟨this.1, this.2.1.elim Or.inl fun g => Or.inr ⟨g.1, by omega⟩, this.2.2⟩
        · by_cases e : b = q ∧ a = p
          · obtain ⟨rfl, rfl⟩ := e
            exact ⟨M, Nat.lt_succ_self M, e2⟩
          · obtain ⟨k, k1, k2⟩ := l2 a b hab (by omega) hl2
            exact ⟨k, by omega, by rw [e3 k (by omega)]; exact k2⟩
        · rw [e3 j (by omega)]
          by_cases e : k = M
          · subst e
            rw [e2]
            intro g
            have := (l1 j (by omega)).2.1
            rw [g] at this
            dsimp only at this
            omega
          · rw [e3 k e]
            exact l3 j k hjk (by omega)) ⟨yMN_r h.1 fr (by decide) (by decide), fun k hk => by
        by_cases e : k = M
        · subst e
          rw [e2, xwi_k (by decide), xwi_e, xwi_e]
          exact ⟨rfl, rfl⟩
        · rw [e3 k e, xwi_k (by decide), xwi_i e, xwi_i e, xwi_k (by decide)]
          exact h.2 k (by omega)⟩
      refine ⟨M', ln', m', fun {z} hz => ?_, c2, c3, c4, yfr_t fr c5⟩
      apply bX12_ways_144_14_i
      simp (disch := omega) only [yl3, yl4, yl5, yl6, yl7, yl8, yl9, yl10, yl13, yl16, yl20, yl21, yl22, yl23, yl24, yl32, yl40, yl48, yl57, yl59, yl63, yl64, yl97, yl99, yl122, yl255, yl256, yl400, yl1000, yl2000, yl2048, yc0_eq, yc0_eq2, yc0_le, yc0_ge, yc0_lt, yc0_gt, yc0_ad, yc0_da, yc0_sb, yc0_ml, yc0_lm, yc1_eq, yc1_eq2, yc1_le, yc1_ge, yc1_lt, yc1_gt, yc1_ad, yc1_da, yc1_sb, yc1_ml, yc1_lm, yc2_eq, yc2_eq2, yc2_le, yc2_ge, yc2_lt, yc2_gt, yc2_ad, yc2_da, yc2_sb, yc2_ml, yc2_lm, yc31_ge, ymodn, yI_1sl, yc2_dv, yn1_eq, yn1_lt, xgd_t, xlt_e, Option.bind_some, nI_add, pk_mul, pk_sub, pk_div, pk_rem, yI_and, yI_or, yI_xor, yI_nd, yI_nd2, yI_31, yI_shl, nI_leI, nI_ltI, nI_eq, nI_clamp, xinb_t, yP_z, yP_if, if_neg, h.1.2 p (by omega), s_has, yif_t hl']
      exact c1 hz
    · have hl' : ¬ yb (R p) q := hl
      obtain ⟨M', ln', m', c1, c2, c3, c4, c5⟩ := ih (p + 1) (by omega) M ln m (by omega) (by
        obtain ⟨l1, l2, l3⟩ := hL
        refine ⟨fun k hk => ?_, fun a b hab hb hl2 => ?_, l3⟩
        · have := l1 k hk
          exact ⟨this.1, this.2.1.elim Or.inl fun g => Or.inr ⟨g.1, by omega⟩, this.2.2⟩
        · by_cases e : b = q ∧ a = p
          · obtain ⟨rfl, rfl⟩ := e
            exact absurd hl2 hl
          · exact l2 a b hab (by omega) hl2) h
      refine ⟨M', ln', m', fun {z} hz => ?_, c2, c3, c4, c5⟩
      apply bX12_ways_144_14_i
      simp (disch := omega) only [yl3, yl4, yl5, yl6, yl7, yl8, yl9, yl10, yl13, yl16, yl20, yl21, yl22, yl23, yl24, yl32, yl40, yl48, yl57, yl59, yl63, yl64, yl97, yl99, yl122, yl255, yl256, yl400, yl1000, yl2000, yl2048, yc0_eq, yc0_eq2, yc0_le, yc0_ge, yc0_lt, yc0_gt, yc0_ad, yc0_da, yc0_sb, yc0_ml, yc0_lm, yc1_eq, yc1_eq2, yc1_le, yc1_ge, yc1_lt, yc1_gt, yc1_ad, yc1_da, yc1_sb, yc1_ml, yc1_lm, yc2_eq, yc2_eq2, yc2_le, yc2_ge, yc2_lt, yc2_gt, yc2_ad, yc2_da, yc2_sb, yc2_ml, yc2_lm, yc31_ge, ymodn, yI_1sl, yc2_dv, yn1_eq, yn1_lt, xgd_t, xlt_e, Option.bind_some, nI_add, pk_mul, pk_sub, pk_div, pk_rem, yI_and, yI_or, yI_xor, yI_nd, yI_nd2, yI_31, yI_shl, nI_leI, nI_ltI, nI_eq, nI_clamp, xinb_t, yP_z, yP_if, if_neg, h.1.2 p (by omega), s_has, yif_f hl']
      exact c1 hz
theorem s_mwl_4 {R : Nat → Nat} {n : Nat} (hG : yGr n R) : ∀ (d q : Nat), q + d = n → ∀ (M : Nat) (ln : Nat → Nat × Nat) (m : xmm), M ≤ ysm (fun j => j) q → yLq R q 0 M ln → yWL R n M ln m → ∃ (M' : Nat) (ln' : Nat → Nat × Nat) (m' : xmm), (∀ {z : Int32 × xmm}, bX12_ways_144_66 (nI M') 0 m' = some z → bX12_ways_144_4 (nI M) (nI q) m = some z) ∧ M' ≤ 28 ∧ yLq R n 0 M' ln' ∧ yWL R n M' ln' m' ∧ yfr [167, 168] m m' := by
  have hn := hG.1
  intro d
  induction d with
  | zero =>
    intro q hq M ln m hM hL h
    have e : q = n := by omega
    subst e
    have b28 : ysm (fun j => j) q ≤ 28 := by
      have h1 := ysm_mono (fun j => j) q (8 - q)
      rw [show q + (8 - q) = 8 by omega] at h1
      have h2 : ysm (fun j => j) 8 = 28 := by decide
      omega
    refine ⟨M, ln, m, fun {z} hz => ?_, by omega, hL, h, yfr_r⟩
    apply bX12_ways_144_4_i
    simp (disch := omega) only [yl3, yl4, yl5, yl6, yl7, yl8, yl9, yl10, yl13, yl16, yl20, yl21, yl22, yl23, yl24, yl32, yl40, yl48, yl57, yl59, yl63, yl64, yl97, yl99, yl122, yl255, yl256, yl400, yl1000, yl2000, yl2048, yc0_eq, yc0_eq2, yc0_le, yc0_ge, yc0_lt, yc0_gt, yc0_ad, yc0_da, yc0_sb, yc0_ml, yc0_lm, yc1_eq, yc1_eq2, yc1_le, yc1_ge, yc1_lt, yc1_gt, yc1_ad, yc1_da, yc1_sb, yc1_ml, yc1_lm, yc2_eq, yc2_eq2, yc2_le, yc2_ge, yc2_lt, yc2_gt, yc2_ad, yc2_da, yc2_sb, yc2_ml, yc2_lm, yc31_ge, ymodn, yI_1sl, yc2_dv, yn1_eq, yn1_lt, xgd_t, xlt_e, Option.bind_some, nI_add, pk_mul, pk_sub, pk_div, pk_rem, yI_and, yI_or, yI_xor, yI_nd, yI_nd2, yI_31, yI_shl, nI_leI, nI_ltI, nI_eq, nI_clamp, xinb_t, yP_z, yP_if, h.1.1, if_pos]
    exact hz
  | succ d ih =>
    intro q hq M ln m hM hL h
    obtain ⟨M1, ln1, m1, a1, a2, a3, a4, a5⟩ := s_mwl_14 hG (q := q) (by omega) q 0 (Nat.zero_add q) M ln m (by omega) hL h
    obtain ⟨M', ln', m', c1, c2, c3, c4, c5⟩ := ih (q + 1) (by omega) M1 ln1 m1 (by rw [ysm_s]; exact a2) (by
      obtain ⟨l1, l2, l3⟩ := a3
      refine ⟨fun k hk => ?_, fun a b hab hb hl2 => l2 a b hab (by omega) hl2, l3⟩
      have := l1 k hk
      refine ⟨this.1, Or.inl ?_, this.2.2⟩
      rcases this.2.1 with g | g
      · omega
      · omega) a4
    refine ⟨M', ln', m', fun {z} hz => ?_, c2, c3, c4, yfr_t a5 c5⟩
    apply bX12_ways_144_4_i
    simp (disch := omega) only [yl3, yl4, yl5, yl6, yl7, yl8, yl9, yl10, yl13, yl16, yl20, yl21, yl22, yl23, yl24, yl32, yl40, yl48, yl57, yl59, yl63, yl64, yl97, yl99, yl122, yl255, yl256, yl400, yl1000, yl2000, yl2048, yc0_eq, yc0_eq2, yc0_le, yc0_ge, yc0_lt, yc0_gt, yc0_ad, yc0_da, yc0_sb, yc0_ml, yc0_lm, yc1_eq, yc1_eq2, yc1_le, yc1_ge, yc1_lt, yc1_gt, yc1_ad, yc1_da, yc1_sb, yc1_ml, yc1_lm, yc2_eq, yc2_eq2, yc2_le, yc2_ge, yc2_lt, yc2_gt, yc2_ad, yc2_da, yc2_sb, yc2_ml, yc2_lm, yc31_ge, ymodn, yI_1sl, yc2_dv, yn1_eq, yn1_lt, xgd_t, xlt_e, Option.bind_some, nI_add, pk_mul, pk_sub, pk_div, pk_rem, yI_and, yI_or, yI_xor, yI_nd, yI_nd2, yI_31, yI_shl, nI_leI, nI_ltI, nI_eq, nI_clamp, xinb_t, yP_z, yP_if, h.1.1, if_neg]
    exact a1 (c1 hz)
theorem s_mw_66 {M : Nat} (hM : M ≤ 28) : ∀ (d k : Nat), k + d = 8 → ∀ (m : xmm), (∀ p, p < k → m.1 170 p = 0) → ∃ m', (∀ {z : Int32 × xmm}, bX12_ways_144_66 (nI M) (nI 8) m' = some z → bX12_ways_144_66 (nI M) (nI k) m = some z) ∧ (∀ p, p < 8 → m'.1 170 p = 0) ∧ yfr [170] m m' := by
  intro d
  induction d with
  | zero =>
    intro k hk m h
    have e : k = 8 := by omega
    subst e
    exact ⟨m, id, h, yfr_r⟩
  | succ d ih =>
    intro k hk m h
    obtain ⟨m', e1, e2, e3⟩ := ih (k + 1) (by omega) (xwi m 170 k 0) (fun p hp => by
      by_cases e : p = k
      · subst e; rw [xwi_e]
      · rw [xwi_i e]; exact h p (by omega))
    refine ⟨m', fun {z} hz => ?_, e2, yfr_t (yfr_w yfr_r (by decide)) e3⟩
    apply bX12_ways_144_66_i
    simp (disch := omega) only [yl3, yl4, yl5, yl6, yl7, yl8, yl9, yl10, yl13, yl16, yl20, yl21, yl22, yl23, yl24, yl32, yl40, yl48, yl57, yl59, yl63, yl64, yl97, yl99, yl122, yl255, yl256, yl400, yl1000, yl2000, yl2048, yc0_eq, yc0_eq2, yc0_le, yc0_ge, yc0_lt, yc0_gt, yc0_ad, yc0_da, yc0_sb, yc0_ml, yc0_lm, yc1_eq, yc1_eq2, yc1_le, yc1_ge, yc1_lt, yc1_gt, yc1_ad, yc1_da, yc1_sb, yc1_ml, yc1_lm, yc2_eq, yc2_eq2, yc2_le, yc2_ge, yc2_lt, yc2_gt, yc2_ad, yc2_da, yc2_sb, yc2_ml, yc2_lm, yc31_ge, ymodn, yI_1sl, yc2_dv, yn1_eq, yn1_lt, xgd_t, xlt_e, Option.bind_some, nI_add, pk_mul, pk_sub, pk_div, pk_rem, yI_and, yI_or, yI_xor, yI_nd, yI_nd2, yI_31, yI_shl, nI_leI, nI_ltI, nI_eq, nI_clamp, xinb_t, yP_z, yP_if, if_neg]
    exact e1 hz
theorem yin_all {n : Nat} {R : Nat → Nat} (hG : yGr n R) : yin (yad R) (2 ^ n - 1) = yad R := by
  funext a b
  apply propext
  exact ⟨fun h => h.1, fun h => ⟨h, yall_b.mpr (yGr_n hG h).1, yall_b.mpr (yGr_n hG h).2⟩⟩
/-- the model's ways -/
theorem s_mways {R : Nat → Nat} {n : Nat} (hG : yGr n R) (ho : yord (yad R)) {m : xmm} (h : yMN n R m) : ∃ m', fX12_ways_144 m = some (nI (yPr (yad R) (2 ^ n - 1)), m') ∧ yfr [167, 168, 169, 170] m m' := by
  have hn := hG.1
  have h8 := y2p8 hn
  have h1 := y2p1 n
  have hsy := hG.2.2.2
  have all : yhc (yTO (yad R)) (yPr (yad R) (2 ^ n - 1)) := by
    have := yways hsy (2 ^ n - 1) (by omega) (by rw [yin_all hG]; exact ho)
    rw [yin_all hG] at this
    exact this
  -- the lines
  have start : ∃ (M : Nat) (ln : Nat → Nat × Nat) (m1 : xmm), (∀ {z : Int32 × xmm}, bX12_ways_144_66 (nI M) 0 m1 = some z → fX12_ways_144 m = some z) ∧ M ≤ 28 ∧ yLn R n M ln ∧ yWL R n M ln m1 ∧ yfr [167, 168] m m1 := by
    by_cases hn0 : n = 0
    · subst hn0
      refine ⟨0, fun _ => (0, 0), m, fun {z} hz => ?_, by decide, ⟨fun k hk => absurd hk (Nat.not_lt_zero k), fun p q _ hl => absurd (yGr_n hG hl).1 (Nat.not_lt_zero p), fun j k _ hk => absurd hk (Nat.not_lt_zero k)⟩, ⟨h, fun k hk => absurd hk (Nat.not_lt_zero k)⟩, yfr_r⟩
      apply fX12_ways_144_i
      apply bX12_ways_144_4_i
      simp (disch := omega) only [yl3, yl4, yl5, yl6, yl7, yl8, yl9, yl10, yl13, yl16, yl20, yl21, yl22, yl23, yl24, yl32, yl40, yl48, yl57, yl59, yl63, yl64, yl97, yl99, yl122, yl255, yl256, yl400, yl1000, yl2000, yl2048, yc0_eq, yc0_eq2, yc0_le, yc0_ge, yc0_lt, yc0_gt, yc0_ad, yc0_da, yc0_sb, yc0_ml, yc0_lm, yc1_eq, yc1_eq2, yc1_le, yc1_ge, yc1_lt, yc1_gt, yc1_ad, yc1_da, yc1_sb, yc1_ml, yc1_lm, yc2_eq, yc2_eq2, yc2_le, yc2_ge, yc2_lt, yc2_gt, yc2_ad, yc2_da, yc2_sb, yc2_ml, yc2_lm, yc31_ge, ymodn, yI_1sl, yc2_dv, yn1_eq, yn1_lt, xgd_t, xlt_e, Option.bind_some, nI_add, pk_mul, pk_sub, pk_div, pk_rem, yI_and, yI_or, yI_xor, yI_nd, yI_nd2, yI_31, yI_shl, nI_leI, nI_ltI, nI_eq, nI_clamp, xinb_t, yP_z, yP_if, h.1, if_pos]
      exact hz
    · obtain ⟨M, ln, m1, a1, a2, a3, a4, a5⟩ := s_mwl_4 hG (n - 1) 1 (by omega) 0 (fun _ => (0, 0)) m (by omega) ⟨fun k hk => absurd hk (Nat.not_lt_zero k), fun a b hab hb _ => by omega, fun j k _ hk => absurd hk (Nat.not_lt_zero k)⟩ ⟨h, fun k hk => absurd hk (Nat.not_lt_zero k)⟩
      refine ⟨M, ln, m1, fun {z} hz => ?_, a2, ?_, a4, a5⟩
      · apply fX12_ways_144_i
        exact a1 hz
      · obtain ⟨l1, l2, l3⟩ := a3
        refine ⟨fun k hk => ?_, fun p q hpq hl => l2 p q hpq (Or.inl (yGr_n hG hl).2) hl, l3⟩
        have := l1 k hk
        refine ⟨this.1, ?_, this.2.2⟩
        omega
  obtain ⟨M, ln, m1, a1, a2, a3, a4, a5⟩ := start
  obtain ⟨m2, b1, b2, b3⟩ := s_mw_66 (M := M) a2 8 0 rfl m1 (fun p hp => absurd hp (Nat.not_lt_zero p))
  have fr2 : yfr [167, 168, 169, 170] m m2 := yfr_t (yfr_m a5 (by decide)) (yfr_m b3 (by decide))
  have z0 : ∀ p, yro (yAk ln (fun _ => 0) 0) p = 0 := by
    intro p
    apply ytb_ext
    intro i
    show yb (ybs _ 8) i ↔ yb 0 i
    rw [yb_bs]
    exact ⟨fun g => g.2.elim, fun g => absurd g yb_0⟩
  by_cases hM0 : M = 0
  · subst hM0
    have noline : ∀ a b, ¬ yad R a b := by
      have half : ∀ a b, a < b → ¬ yad R a b := fun a b hab hl => by
        obtain ⟨k, hk, _⟩ := a3.2.1 a b hab hl
        exact Nat.not_lt_zero k hk
      intro a b hl
      rcases Nat.lt_trichotomy a b with e | e | e
      · exact half a b e hl
      · subst e; exact hsy.2 a hl
      · exact half b a e (hsy.1 _ _ hl)
    have one : yhc (yTO (yad R)) 1 := by
      refine yhc_1 (fun _ _ => False) ⟨fun _ _ g => g.elim, fun a b g => absurd g (noline a b), fun _ _ g => g.elim, fun _ _ _ g => g.elim⟩ ?_
      intro T hT
      funext a b
      apply propext
      exact ⟨fun g => noline a b (hT.1 _ _ g), fun g => g.elim⟩
    rw [yhc_u all one]
    refine ⟨m2, ?_, fr2⟩
    apply a1
    apply b1
    apply bX12_ways_144_66_i
    simp (disch := omega) only [yl3, yl4, yl5, yl6, yl7, yl8, yl9, yl10, yl13, yl16, yl20, yl21, yl22, yl23, yl24, yl32, yl40, yl48, yl57, yl59, yl63, yl64, yl97, yl99, yl122, yl255, yl256, yl400, yl1000, yl2000, yl2048, yc0_eq, yc0_eq2, yc0_le, yc0_ge, yc0_lt, yc0_gt, yc0_ad, yc0_da, yc0_sb, yc0_ml, yc0_lm, yc1_eq, yc1_eq2, yc1_le, yc1_ge, yc1_lt, yc1_gt, yc1_ad, yc1_da, yc1_sb, yc1_ml, yc1_lm, yc2_eq, yc2_eq2, yc2_le, yc2_ge, yc2_lt, yc2_gt, yc2_ad, yc2_da, yc2_sb, yc2_ml, yc2_lm, yc31_ge, ymodn, yI_1sl, yc2_dv, yn1_eq, yn1_lt, xgd_t, xlt_e, Option.bind_some, nI_add, pk_mul, pk_sub, pk_div, pk_rem, yI_and, yI_or, yI_xor, yI_nd, yI_nd2, yI_31, yI_shl, nI_leI, nI_ltI, nI_eq, nI_clamp, xinb_t, yP_z, yP_if, if_pos]
    rfl
  · have w2 := yWL_r a4 b3 (by decide) (by decide) (by decide) (by decide)
    have fr3 : yfr [169, 170] m2 (xwi m2 169 0 (-1)) := yfr_w yfr_r (by decide)
    obtain ⟨N, m', e1, e2, e3, e4, e5⟩ := s_mw_main hG a2 a3 M 0 (Nat.zero_add M) (by omega) (fun _ => 0) (xwi m2 169 0 (-1)) (yWL_r w2 fr3 (by decide) (by decide) (by decide) (by decide)) (fun j hj => absurd hj (Nat.not_lt_zero j)) (xwi_e _ _ _ _) (fun p hp => by rw [xwi_k (by decide), b2 p hp, z0]; rfl) (fun a b c g => g.elim)
    have eN : N = yPr (yad R) (2 ^ n - 1) := by
      refine yhc_u (yhc_c ?_ e5) all
      intro T
      exact ⟨fun g => g.1, fun g => ⟨g, fun _ _ e => e.elim⟩⟩
    refine ⟨m', ?_, yfr_t fr2 (yfr_m (yfr_t fr3 e4) (by decide))⟩
    apply a1
    apply b1
    have fin : bX12_ways_144_102 (nI M) (nI (0 + N)) (nI 0 + (-1 : Int32)) m' = some (nI (yPr (yad R) (2 ^ n - 1)), m') := by
      apply bX12_ways_144_102_i
      rw [if_pos (by decide), Nat.zero_add, eN]
    have := e1 0 fin
    apply bX12_ways_144_66_i
    simp (disch := omega) only [yl3, yl4, yl5, yl6, yl7, yl8, yl9, yl10, yl13, yl16, yl20, yl21, yl22, yl23, yl24, yl32, yl40, yl48, yl57, yl59, yl63, yl64, yl97, yl99, yl122, yl255, yl256, yl400, yl1000, yl2000, yl2048, yc0_eq, yc0_eq2, yc0_le, yc0_ge, yc0_lt, yc0_gt, yc0_ad, yc0_da, yc0_sb, yc0_ml, yc0_lm, yc1_eq, yc1_eq2, yc1_le, yc1_ge, yc1_lt, yc1_gt, yc1_ad, yc1_da, yc1_sb, yc1_ml, yc1_lm, yc2_eq, yc2_eq2, yc2_le, yc2_ge, yc2_lt, yc2_gt, yc2_ad, yc2_da, yc2_sb, yc2_ml, yc2_lm, yc31_ge, ymodn, yI_1sl, yc2_dv, yn1_eq, yn1_lt, xgd_t, xlt_e, Option.bind_some, nI_add, pk_mul, pk_sub, pk_div, pk_rem, yI_and, yI_or, yI_xor, yI_nd, yI_nd2, yI_31, yI_shl, nI_leI, nI_ltI, nI_eq, nI_clamp, xinb_t, yP_z, yP_if, if_pos, if_neg]
    exact this
