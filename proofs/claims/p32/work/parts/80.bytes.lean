/-! the TEXT: its bytes, on both sides -/
def yBk (B : Nat → Nat) (len : Nat) : Prop := len ≤ 2000 ∧ (∀ i, B i < 256) ∧ ∀ i, len ≤ i → B i = 0
def ySC (B : Nat → Nat) (len : Nat) (m : xmm) : Prop := m.1 1 1 = nI len ∧ ∀ i, i < len → m.1 2 i &&& (255 : Int32) = nI (B i)
def ySM (B : Nat → Nat) (len : Nat) (m : xmm) : Prop := m.1 144 4 = nI len ∧ ∀ i, i < len → m.1 146 i &&& (255 : Int32) = nI (B i)
theorem s_cByte {B : Nat → Nat} {len : Nat} (hB : yBk B len) {m : xmm} (h : ySC B len m) {i : Nat} (hi : i < 2 ^ 31) : fX7_signAt_1 (nI i) m = some (nI (B i), m) := by
  have b := hB.1
  apply fX7_signAt_1_i
  rw [if_neg (nI_pos hi), h.1]
  by_cases hl : len ≤ i
  · rw [if_pos (nI_le hl hi), hB.2.2 i hl]; rfl
  · have l1 : ¬ nI len ≤ nI i := by rw [nI_leI (by omega) hi]; exact hl
    have l2 : ¬ (2000 : Int32) ≤ nI i := by rw [yl2000, nI_leI (by decide) hi]; omega
    rw [if_neg l1, if_neg l2, xinb_t (by omega) (by decide), nI_clamp hi, xgd_t, h.2 i (by omega)]
def ywB (b : Nat) : Prop := b = 9 ∨ b = 10 ∨ b = 13 ∨ b = 32
def yLe (b : Nat) : Prop := 97 ≤ b ∧ b ≤ 122
def yDi (b : Nat) : Prop := 48 ≤ b ∧ b ≤ 57
theorem s_cBlank {B : Nat → Nat} {len : Nat} (hB : yBk B len) {m : xmm} (h : ySC B len m) {i : Nat} (hi : i < 2 ^ 31) : fX7_isBlankAt_1 (nI i) m = some (yP (ywB (B i)), m) := by
  have b := hB.2.1 i
  apply fX7_isBlankAt_1_i
  rw [s_cByte hB h hi, Option.bind_some]
  have e9 : nI (B i) = (9 : Int32) ↔ B i = 9 := by rw [yl9]; exact nI_eq (by omega) (by decide)
  have e10 : nI (B i) = (10 : Int32) ↔ B i = 10 := by rw [yl10]; exact nI_eq (by omega) (by decide)
  have e13 : nI (B i) = (13 : Int32) ↔ B i = 13 := by rw [yl13]; exact nI_eq (by omega) (by decide)
  have e32 : nI (B i) = (32 : Int32) ↔ B i = 32 := by rw [yl32]; exact nI_eq (by omega) (by decide)
  simp only [e9, e10, e13, e32]
  by_cases c1 : B i = 9
  · rw [if_pos c1, yP_t (show ywB (B i) from (Or.inl c1))]
  by_cases c2 : B i = 10
  · rw [if_neg c1, if_pos c2, yP_t (show ywB (B i) from (Or.inr (Or.inl c2)))]
  by_cases c3 : B i = 13
  · rw [if_neg c1, if_neg c2, if_pos c3, yP_t (show ywB (B i) from (Or.inr (Or.inr (Or.inl c3))))]
  by_cases c4 : B i = 32
  · rw [if_neg c1, if_neg c2, if_neg c3, if_pos c4, yP_t (show ywB (B i) from (Or.inr (Or.inr (Or.inr c4))))]
  rw [if_neg c1, if_neg c2, if_neg c3, if_neg c4, yP_f]
  rintro (t | t | t | t)
  · exact c1 t
  · exact c2 t
  · exact c3 t
  · exact c4 t
theorem s_cLetter {B : Nat → Nat} {len : Nat} (hB : yBk B len) {m : xmm} (h : ySC B len m) {i : Nat} (hi : i < 2 ^ 31) : fX7_isLetterAt_1 (nI i) m = some (yP (yLe (B i)), m) := by
  have b := hB.2.1 i
  apply fX7_isLetterAt_1_i
  rw [s_cByte hB h hi, Option.bind_some]
  dsimp only
  have e1 : nI (B i) < (97 : Int32) ↔ B i < 97 := by rw [yl97]; exact nI_ltI (by omega) (by decide)
  have e2 : (122 : Int32) < nI (B i) ↔ 122 < B i := by rw [yl122]; exact nI_ltI (by decide) (by omega)
  rw [s_cByte hB h hi, Option.bind_some]
  simp only [e1, e2]
  by_cases c1 : B i < 97
  · rw [if_pos c1, yP_f (fun t : yLe (B i) => by have := t.1; omega)]
  by_cases c2 : 122 < B i
  · rw [if_neg c1, if_pos c2, yP_f (fun t : yLe (B i) => by have := t.2; omega)]
  rw [if_neg c1, if_neg c2, yP_t (show yLe (B i) from ⟨by omega, by omega⟩)]
theorem s_cDigit {B : Nat → Nat} {len : Nat} (hB : yBk B len) {m : xmm} (h : ySC B len m) {i : Nat} (hi : i < 2 ^ 31) : fX7_isDigitAt_1 (nI i) m = some (yP (yDi (B i)), m) := by
  have b := hB.2.1 i
  apply fX7_isDigitAt_1_i
  rw [s_cByte hB h hi, Option.bind_some]
  dsimp only
  have e1 : nI (B i) < (48 : Int32) ↔ B i < 48 := by rw [yl48]; exact nI_ltI (by omega) (by decide)
  have e2 : (57 : Int32) < nI (B i) ↔ 57 < B i := by rw [yl57]; exact nI_ltI (by decide) (by omega)
  rw [s_cByte hB h hi, Option.bind_some]
  simp only [e1, e2]
  by_cases c1 : B i < 48
  · rw [if_pos c1, yP_f (fun t : yDi (B i) => by have := t.1; omega)]
  by_cases c2 : 57 < B i
  · rw [if_neg c1, if_pos c2, yP_f (fun t : yDi (B i) => by have := t.2; omega)]
  rw [if_neg c1, if_neg c2, yP_t (show yDi (B i) from ⟨by omega, by omega⟩)]
/-! runs -/
noncomputable def yzn (P : Nat → Prop) : Nat → Nat → Nat
  | 0, i => i
  | f + 1, i => yif (P i) (yzn P f (i + 1)) i
def yzr (P : Nat → Prop) (i e : Nat) : Prop := i ≤ e ∧ (∀ k, i ≤ k → k < e → P k) ∧ ¬ P e
theorem yzn_s {P : Nat → Prop} {len : Nat} (hP : ∀ k, len ≤ k → ¬ P k) : ∀ (f i : Nat), i ≤ len → len ≤ i + f → yzr P i (yzn P f i) ∧ yzn P f i ≤ len
  | 0, i, h1, h2 => by
    have e : i = len := by omega
    exact ⟨⟨Nat.le_refl i, fun k a b => by have b' : k < i := b; omega, hP i (by omega)⟩, h1⟩
  | f + 1, i, h1, h2 => by
    show yzr P i (yif (P i) (yzn P f (i + 1)) i) ∧ yif (P i) (yzn P f (i + 1)) i ≤ len
    by_cases h : P i
    · rw [yif_t h]
      have hi : i < len := by
        rcases Nat.lt_or_ge i len with g | g
        · exact g
        · exact absurd h (hP i g)
      obtain ⟨⟨a1, a2, a3⟩, a4⟩ := yzn_s hP f (i + 1) (by omega) (by omega)
      refine ⟨⟨by omega, fun k b1 b2 => ?_, a3⟩, a4⟩
      by_cases e : k = i
      · subst e; exact h
      · exact a2 k (by omega) b2
    · rw [yif_f h]
      exact ⟨⟨Nat.le_refl i, fun k a b => by omega, h⟩, h1⟩
/-! frames of the reader -/
def yfk (L J : List Nat) (m m' : xmm) : Prop := yfr (1 :: L) m m' ∧ ∀ j, j ∉ J → m'.1 1 j = m.1 1 j
theorem yfk_r {L J : List Nat} {m : xmm} : yfk L J m m := ⟨yfr_r, fun _ _ => rfl⟩
theorem yfk_t {L J : List Nat} {m m' m'' : xmm} (h : yfk L J m m') (h' : yfk L J m' m'') : yfk L J m m'' := ⟨yfr_t h.1 h'.1, fun j hj => (h'.2 j hj).trans (h.2 j hj)⟩
theorem yfk_m {L J L' J' : List Nat} {m m' : xmm} (h : yfk L J m m') (hl : ∀ k, k ∈ L → k ∈ L') (hj : ∀ k, k ∈ J → k ∈ J') : yfk L' J' m m' := ⟨yfr_m h.1 (fun k hk => by rcases List.mem_cons.mp hk with e | e; exact List.mem_cons.mpr (Or.inl e); exact List.mem_cons.mpr (Or.inr (hl k e))), fun j h1 => h.2 j fun e => h1 (hj j e)⟩
theorem yfk_w {L J : List Nat} {m m' : xmm} {k i : Nat} {v : Int32} (h : yfk L J m m') (hk : k ∈ L) (h4 : k ≠ 1) : yfk L J m (xwi m' k i v) := ⟨yfr_w h.1 (List.mem_cons_of_mem _ hk), fun j hj => by rw [xwi_k (Ne.symm h4)]; exact h.2 j hj⟩
theorem yfk_j {L J : List Nat} {m m' : xmm} {k i : Nat} {v : Int64} (h : yfk L J m m') (hk : k ∈ L) : yfk L J m (xwj m' k i v) := ⟨yfr_j h.1 (List.mem_cons_of_mem _ hk), fun j hj => h.2 j hj⟩
theorem yfk_f {L J : List Nat} {m m' : xmm} {i : Nat} {v : Int32} (h : yfk L J m m') (hi : i ∈ J) : yfk L J m (xwi m' 1 i v) := ⟨yfr_w h.1 List.mem_cons_self, fun j hj => by rw [xwi_i (fun e => hj (by rw [e]; exact hi))]; exact h.2 j hj⟩
theorem yfk_1 {L J : List Nat} {m m' : xmm} (h : yfk L J m m') (k i : Nat) (hk : k ∉ 1 :: L) : m'.1 k i = m.1 k i := yfr_1 h.1 k i hk
theorem yfk_2 {L J : List Nat} {m m' : xmm} (h : yfk L J m m') (i : Nat) (hk : i ∉ J) : m'.1 1 i = m.1 1 i := h.2 i hk
theorem ySC_k {B : Nat → Nat} {len : Nat} {L J : List Nat} {m m' : xmm} (h : ySC B len m) (hf : yfk L J m m') (h1 : 1 ∉ J) (h2 : 2 ∉ 1 :: L) : ySC B len m' := ⟨by rw [hf.2 1 h1]; exact h.1, fun i hi => by rw [yfk_1 hf 2 i h2]; exact h.2 i hi⟩
theorem yfm_j {L J : List Nat} {m m' : xmm} {k i : Nat} {v : Int64} (h : yfm L J m m') (hk : k ∈ L) : yfm L J m (xwj m' k i v) := ⟨yfr_j h.1 (List.mem_cons_of_mem _ hk), fun j hj => h.2 j hj⟩
theorem ySM_k {B : Nat → Nat} {len : Nat} {L J : List Nat} {m m' : xmm} (h : ySM B len m) (hf : yfm L J m m') (h1 : 4 ∉ J) (h2 : 146 ∉ 144 :: L) : ySM B len m' := ⟨by rw [hf.2 4 h1]; exact h.1, fun i hi => by rw [yfm_1 hf 146 i h2]; exact h.2 i hi⟩
