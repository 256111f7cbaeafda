/-! WORDS of the text: the class -/
def yzL (k : Nat) : Nat := [5, 3, 4, 5].getD k 0
def yzW (k i : Nat) : Nat := ([[112, 111, 115, 116, 115], [119, 97, 121], [104, 101, 97, 112], [99, 114, 111, 115, 115]].getD k []).getD i 0
theorem yzW_b : ∀ k, k < 4 → ∀ i, i < 5 → yzW k i < 256 := by decide
theorem yzW_l : ∀ k, k < 4 → ∀ i, i < yzL k → 97 ≤ yzW k i ∧ yzW k i ≤ 122 := by decide
/-- the n bytes from s on are the k-th word -/
def yzw (B : Nat → Nat) (s n k : Nat) : Prop := n = yzL k ∧ ∀ i, i < yzL k → B (s + i) = yzW k i
theorem s_chk {i n : Nat} (hi : i < n) (hn : n < 100) (m : xmm) : fJ0_checkIndex (nI i) (nI n) m = some m := by
  have c : fJ3_checkIndex_1999 (nI i) (nI n) m = some (nI i, m) := by
    apply fJ3_checkIndex_1999_i
    rw [if_neg (nI_pos (by omega)), if_pos (nI_lt hi (by omega))]
  apply fJ0_checkIndex_i
  rw [c]; rfl
theorem s_chl_1000 (m : xmm) : fJ0_length_1000 m = some ((5 : Int32), m) := by
  apply fJ0_length_1000_i
  have c : fJ0_coder_1000 m = some ((0 : Int32), m) := by
    apply fJ0_coder_1000_i
    rfl
  have e : (5 : Int32) >>> ((0 : Int32) &&& 31) = 5 := by decide
  rw [c, Option.bind_some]
  dsimp only
  rw [e]
theorem s_chr_1000 {i : Nat} (hi : i < 5) (m : xmm) : fJ0_charAt_1000 (nI i) m = some (nI (yzW 0 i), m) := by
  apply fJ0_charAt_1000_i
  have c : fJ0_isLatin1_1000 m = some ((1 : Int32), m) := by
    apply fJ0_isLatin1_1000_i
    rfl
  have s : i = 0 ∨ i = 1 ∨ i = 2 ∨ i = 3 ∨ i = 4 := by omega
  have d : fJ1_charAt_1010 (nI i) m = some (nI (yzW 0 i), m) := by
    apply fJ1_charAt_1010_i
    have k : fJ0_checkIndex (nI i) (5 : Int32) m = some m := s_chk (n := 5) hi (by decide) m
    rw [k, Option.bind_some]
    rcases s with e | e | e | e | e <;> subst e <;> first | rfl | (exfalso; omega)
  rw [c, Option.bind_some, if_neg (show ¬ (1 : Int32) = 0 by decide), d, Option.bind_some]
  rcases s with e | e | e | e | e <;> subst e <;> first | rfl | (exfalso; omega)
theorem s_word_1000 {B : Nat → Nat} {len : Nat} (hB : yBk B len) {m : xmm} (h : ySC B len m) {s n : Nat} (hs : s + n < 2 ^ 30) : fX7_isWord_1_1000 (nI s) (nI (s + n)) m = some (yP (yzw B s n 0), m) := by
  apply fX7_isWord_1_1000_i
  have sb : nI (s + n) - nI s = nI n := by rw [pk_sub (by omega)]; congr 1; omega
  have eq : nI n = (5 : Int32) ↔ n = 5 := nI_eq (b := 5) (by omega) (by decide)
  rw [s_chl_1000, Option.bind_some, sb]
  dsimp only
  by_cases hn : n = 5
  · rw [if_pos (eq.mpr hn)]
    have l : ∀ (d v : Nat), v + d = 5 → (∀ i, i < v → B (s + i) = yzW 0 i) → bX7_isWord_1_1000_15 (nI s) (nI v) m = some (yP (yzw B s n 0), m) := by
      intro d
      induction d with
      | zero =>
        intro v hv hp
        have e : v = 5 := by omega
        subst e
        apply bX7_isWord_1_1000_15_i
        rw [s_chl_1000, Option.bind_some]
        dsimp only
        rw [if_pos (show (5 : Int32) ≤ nI 5 by decide), yP_t ⟨hn, hp⟩]
      | succ d ih =>
        intro v hv hp
        apply bX7_isWord_1_1000_15_i
        have le : ¬ (5 : Int32) ≤ nI v := by
          have e : (5 : Int32) = nI 5 := rfl
          rw [e, nI_leI (by decide) (by omega)]
          omega
        have bb := hB.2.1 (s + v)
        have wb := yzW_b 0 (by decide) v (by omega)
        rw [s_chl_1000, Option.bind_some]
        dsimp only
        rw [if_neg le, nI_add, s_cByte hB h (by omega), Option.bind_some]
        dsimp only
        rw [s_chr_1000 (by omega), Option.bind_some]
        dsimp only
        by_cases g : B (s + v) = yzW 0 v
        · rw [if_pos (by rw [g]), nI_1]
          refine ih (v + 1) (by omega) fun i hi => ?_
          by_cases e : i = v
          · subst e; exact g
          · exact hp i (by omega)
        · rw [if_neg (fun t => g ((nI_eq (by omega) (by omega)).mp t)), yP_f]
          rintro ⟨_, t⟩
          exact g (t v (show v < 5 by omega))
    exact l 5 0 (Nat.zero_add _) (fun i hi => absurd hi (Nat.not_lt_zero i))
  · rw [if_neg (fun t => hn (eq.mp t)), yP_f]
    rintro ⟨t, _⟩
    exact hn t
theorem s_chl_1001 (m : xmm) : fJ0_length_1001 m = some ((3 : Int32), m) := by
  apply fJ0_length_1001_i
  have c : fJ0_coder_1001 m = some ((0 : Int32), m) := by
    apply fJ0_coder_1001_i
    rfl
  have e : (3 : Int32) >>> ((0 : Int32) &&& 31) = 3 := by decide
  rw [c, Option.bind_some]
  dsimp only
  rw [e]
theorem s_chr_1001 {i : Nat} (hi : i < 3) (m : xmm) : fJ0_charAt_1001 (nI i) m = some (nI (yzW 1 i), m) := by
  apply fJ0_charAt_1001_i
  have c : fJ0_isLatin1_1001 m = some ((1 : Int32), m) := by
    apply fJ0_isLatin1_1001_i
    rfl
  have s : i = 0 ∨ i = 1 ∨ i = 2 ∨ i = 3 ∨ i = 4 := by omega
  have d : fJ1_charAt_1011 (nI i) m = some (nI (yzW 1 i), m) := by
    apply fJ1_charAt_1011_i
    have k : fJ0_checkIndex (nI i) (3 : Int32) m = some m := s_chk (n := 3) hi (by decide) m
    rw [k, Option.bind_some]
    rcases s with e | e | e | e | e <;> subst e <;> first | rfl | (exfalso; omega)
  rw [c, Option.bind_some, if_neg (show ¬ (1 : Int32) = 0 by decide), d, Option.bind_some]
  rcases s with e | e | e | e | e <;> subst e <;> first | rfl | (exfalso; omega)
theorem s_word_1001 {B : Nat → Nat} {len : Nat} (hB : yBk B len) {m : xmm} (h : ySC B len m) {s n : Nat} (hs : s + n < 2 ^ 30) : fX7_isWord_1_1001 (nI s) (nI (s + n)) m = some (yP (yzw B s n 1), m) := by
  apply fX7_isWord_1_1001_i
  have sb : nI (s + n) - nI s = nI n := by rw [pk_sub (by omega)]; congr 1; omega
  have eq : nI n = (3 : Int32) ↔ n = 3 := nI_eq (b := 3) (by omega) (by decide)
  rw [s_chl_1001, Option.bind_some, sb]
  dsimp only
  by_cases hn : n = 3
  · rw [if_pos (eq.mpr hn)]
    have l : ∀ (d v : Nat), v + d = 3 → (∀ i, i < v → B (s + i) = yzW 1 i) → bX7_isWord_1_1001_15 (nI s) (nI v) m = some (yP (yzw B s n 1), m) := by
      intro d
      induction d with
      | zero =>
        intro v hv hp
        have e : v = 3 := by omega
        subst e
        apply bX7_isWord_1_1001_15_i
        rw [s_chl_1001, Option.bind_some]
        dsimp only
        rw [if_pos (show (3 : Int32) ≤ nI 3 by decide), yP_t ⟨hn, hp⟩]
      | succ d ih =>
        intro v hv hp
        apply bX7_isWord_1_1001_15_i
        have le : ¬ (3 : Int32) ≤ nI v := by
          have e : (3 : Int32) = nI 3 := rfl
          rw [e, nI_leI (by decide) (by omega)]
          omega
        have bb := hB.2.1 (s + v)
        have wb := yzW_b 1 (by decide) v (by omega)
        rw [s_chl_1001, Option.bind_some]
        dsimp only
        rw [if_neg le, nI_add, s_cByte hB h (by omega), Option.bind_some]
        dsimp only
        rw [s_chr_1001 (by omega), Option.bind_some]
        dsimp only
        by_cases g : B (s + v) = yzW 1 v
        · rw [if_pos (by rw [g]), nI_1]
          refine ih (v + 1) (by omega) fun i hi => ?_
          by_cases e : i = v
          · subst e; exact g
          · exact hp i (by omega)
        · rw [if_neg (fun t => g ((nI_eq (by omega) (by omega)).mp t)), yP_f]
          rintro ⟨_, t⟩
          exact g (t v (show v < 3 by omega))
    exact l 3 0 (Nat.zero_add _) (fun i hi => absurd hi (Nat.not_lt_zero i))
  · rw [if_neg (fun t => hn (eq.mp t)), yP_f]
    rintro ⟨t, _⟩
    exact hn t
theorem s_chl_1002 (m : xmm) : fJ0_length_1002 m = some ((4 : Int32), m) := by
  apply fJ0_length_1002_i
  have c : fJ0_coder_1002 m = some ((0 : Int32), m) := by
    apply fJ0_coder_1002_i
    rfl
  have e : (4 : Int32) >>> ((0 : Int32) &&& 31) = 4 := by decide
  rw [c, Option.bind_some]
  dsimp only
  rw [e]
theorem s_chr_1002 {i : Nat} (hi : i < 4) (m : xmm) : fJ0_charAt_1002 (nI i) m = some (nI (yzW 2 i), m) := by
  apply fJ0_charAt_1002_i
  have c : fJ0_isLatin1_1002 m = some ((1 : Int32), m) := by
    apply fJ0_isLatin1_1002_i
    rfl
  have s : i = 0 ∨ i = 1 ∨ i = 2 ∨ i = 3 ∨ i = 4 := by omega
  have d : fJ1_charAt_1012 (nI i) m = some (nI (yzW 2 i), m) := by
    apply fJ1_charAt_1012_i
    have k : fJ0_checkIndex (nI i) (4 : Int32) m = some m := s_chk (n := 4) hi (by decide) m
    rw [k, Option.bind_some]
    rcases s with e | e | e | e | e <;> subst e <;> first | rfl | (exfalso; omega)
  rw [c, Option.bind_some, if_neg (show ¬ (1 : Int32) = 0 by decide), d, Option.bind_some]
  rcases s with e | e | e | e | e <;> subst e <;> first | rfl | (exfalso; omega)
theorem s_word_1002 {B : Nat → Nat} {len : Nat} (hB : yBk B len) {m : xmm} (h : ySC B len m) {s n : Nat} (hs : s + n < 2 ^ 30) : fX7_isWord_1_1002 (nI s) (nI (s + n)) m = some (yP (yzw B s n 2), m) := by
  apply fX7_isWord_1_1002_i
  have sb : nI (s + n) - nI s = nI n := by rw [pk_sub (by omega)]; congr 1; omega
  have eq : nI n = (4 : Int32) ↔ n = 4 := nI_eq (b := 4) (by omega) (by decide)
  rw [s_chl_1002, Option.bind_some, sb]
  dsimp only
  by_cases hn : n = 4
  · rw [if_pos (eq.mpr hn)]
    have l : ∀ (d v : Nat), v + d = 4 → (∀ i, i < v → B (s + i) = yzW 2 i) → bX7_isWord_1_1002_15 (nI s) (nI v) m = some (yP (yzw B s n 2), m) := by
      intro d
      induction d with
      | zero =>
        intro v hv hp
        have e : v = 4 := by omega
        subst e
        apply bX7_isWord_1_1002_15_i
        rw [s_chl_1002, Option.bind_some]
        dsimp only
        rw [if_pos (show (4 : Int32) ≤ nI 4 by decide), yP_t ⟨hn, hp⟩]
      | succ d ih =>
        intro v hv hp
        apply bX7_isWord_1_1002_15_i
        have le : ¬ (4 : Int32) ≤ nI v := by
          have e : (4 : Int32) = nI 4 := rfl
          rw [e, nI_leI (by decide) (by omega)]
          omega
        have bb := hB.2.1 (s + v)
        have wb := yzW_b 2 (by decide) v (by omega)
        rw [s_chl_1002, Option.bind_some]
        dsimp only
        rw [if_neg le, nI_add, s_cByte hB h (by omega), Option.bind_some]
        dsimp only
        rw [s_chr_1002 (by omega), Option.bind_some]
        dsimp only
        by_cases g : B (s + v) = yzW 2 v
        · rw [if_pos (by rw [g]), nI_1]
          refine ih (v + 1) (by omega) fun i hi => ?_
          by_cases e : i = v
          · subst e; exact g
          · exact hp i (by omega)
        · rw [if_neg (fun t => g ((nI_eq (by omega) (by omega)).mp t)), yP_f]
          rintro ⟨_, t⟩
          exact g (t v (show v < 4 by omega))
    exact l 4 0 (Nat.zero_add _) (fun i hi => absurd hi (Nat.not_lt_zero i))
  · rw [if_neg (fun t => hn (eq.mp t)), yP_f]
    rintro ⟨t, _⟩
    exact hn t
theorem s_chl_1003 (m : xmm) : fJ0_length_1003 m = some ((5 : Int32), m) := by
  apply fJ0_length_1003_i
  have c : fJ0_coder_1003 m = some ((0 : Int32), m) := by
    apply fJ0_coder_1003_i
    rfl
  have e : (5 : Int32) >>> ((0 : Int32) &&& 31) = 5 := by decide
  rw [c, Option.bind_some]
  dsimp only
  rw [e]
theorem s_chr_1003 {i : Nat} (hi : i < 5) (m : xmm) : fJ0_charAt_1003 (nI i) m = some (nI (yzW 3 i), m) := by
  apply fJ0_charAt_1003_i
  have c : fJ0_isLatin1_1003 m = some ((1 : Int32), m) := by
    apply fJ0_isLatin1_1003_i
    rfl
  have s : i = 0 ∨ i = 1 ∨ i = 2 ∨ i = 3 ∨ i = 4 := by omega
  have d : fJ1_charAt_1013 (nI i) m = some (nI (yzW 3 i), m) := by
    apply fJ1_charAt_1013_i
    have k : fJ0_checkIndex (nI i) (5 : Int32) m = some m := s_chk (n := 5) hi (by decide) m
    rw [k, Option.bind_some]
    rcases s with e | e | e | e | e <;> subst e <;> first | rfl | (exfalso; omega)
  rw [c, Option.bind_some, if_neg (show ¬ (1 : Int32) = 0 by decide), d, Option.bind_some]
  rcases s with e | e | e | e | e <;> subst e <;> first | rfl | (exfalso; omega)
theorem s_word_1003 {B : Nat → Nat} {len : Nat} (hB : yBk B len) {m : xmm} (h : ySC B len m) {s n : Nat} (hs : s + n < 2 ^ 30) : fX7_isWord_1_1003 (nI s) (nI (s + n)) m = some (yP (yzw B s n 3), m) := by
  apply fX7_isWord_1_1003_i
  have sb : nI (s + n) - nI s = nI n := by rw [pk_sub (by omega)]; congr 1; omega
  have eq : nI n = (5 : Int32) ↔ n = 5 := nI_eq (b := 5) (by omega) (by decide)
  rw [s_chl_1003, Option.bind_some, sb]
  dsimp only
  by_cases hn : n = 5
  · rw [if_pos (eq.mpr hn)]
    have l : ∀ (d v : Nat), v + d = 5 → (∀ i, i < v → B (s + i) = yzW 3 i) → bX7_isWord_1_1003_15 (nI s) (nI v) m = some (yP (yzw B s n 3), m) := by
      intro d
      induction d with
      | zero =>
        intro v hv hp
        have e : v = 5 := by omega
        subst e
        apply bX7_isWord_1_1003_15_i
        rw [s_chl_1003, Option.bind_some]
        dsimp only
        rw [if_pos (show (5 : Int32) ≤ nI 5 by decide), yP_t ⟨hn, hp⟩]
      | succ d ih =>
        intro v hv hp
        apply bX7_isWord_1_1003_15_i
        have le : ¬ (5 : Int32) ≤ nI v := by
          have e : (5 : Int32) = nI 5 := rfl
          rw [e, nI_leI (by decide) (by omega)]
          omega
        have bb := hB.2.1 (s + v)
        have wb := yzW_b 3 (by decide) v (by omega)
        rw [s_chl_1003, Option.bind_some]
        dsimp only
        rw [if_neg le, nI_add, s_cByte hB h (by omega), Option.bind_some]
        dsimp only
        rw [s_chr_1003 (by omega), Option.bind_some]
        dsimp only
        by_cases g : B (s + v) = yzW 3 v
        · rw [if_pos (by rw [g]), nI_1]
          refine ih (v + 1) (by omega) fun i hi => ?_
          by_cases e : i = v
          · subst e; exact g
          · exact hp i (by omega)
        · rw [if_neg (fun t => g ((nI_eq (by omega) (by omega)).mp t)), yP_f]
          rintro ⟨_, t⟩
          exact g (t v (show v < 5 by omega))
    exact l 5 0 (Nat.zero_add _) (fun i hi => absurd hi (Nat.not_lt_zero i))
  · rw [if_neg (fun t => hn (eq.mp t)), yP_f]
    rintro ⟨t, _⟩
    exact hn t
noncomputable def yzq (B : Nat → Nat) (s n : Nat) : Nat := yif (yzw B s n 0) 4 (yif (yzw B s n 1) 5 (yif (yzw B s n 2) 6 (yif (yzw B s n 3) 7 1)))
theorem s_wordKind {B : Nat → Nat} {len : Nat} (hB : yBk B len) {m : xmm} (h : ySC B len m) {s n : Nat} (hs : s + n < 2 ^ 30) : fX7_wordKind_1 (nI s) (nI (s + n)) m = some (nI (yzq B s n), m) := by
  unfold yzq
  apply fX7_wordKind_1_i
  rw [s_word_1000 hB h hs, Option.bind_some]
  dsimp only
  by_cases h0 : yzw B s n 0
  · rw [yP_t h0, if_neg yn10, yif_t h0]; rfl
  rw [yP_f h0, if_pos rfl, yif_f h0, s_word_1001 hB h hs, Option.bind_some]
  dsimp only
  by_cases h1 : yzw B s n 1
  · rw [yP_t h1, if_neg yn10, yif_t h1]; rfl
  rw [yP_f h1, if_pos rfl, yif_f h1, s_word_1002 hB h hs, Option.bind_some]
  dsimp only
  by_cases h2 : yzw B s n 2
  · rw [yP_t h2, if_neg yn10, yif_t h2]; rfl
  rw [yP_f h2, if_pos rfl, yif_f h2, s_word_1003 hB h hs, Option.bind_some]
  dsimp only
  by_cases h3 : yzw B s n 3
  · rw [yP_t h3, if_neg yn10, yif_t h3]; rfl
  · rw [yP_f h3, if_pos rfl, yif_f h3]; rfl
/-! the next token -/
noncomputable def yzs (B : Nat → Nat) (p : Nat) : Nat := yzn (fun k => ywB (B k)) 2000 p
noncomputable def yze (B : Nat → Nat) (len s : Nat) : Nat := yif (yLe (B s)) (yzn (fun k => yLe (B k)) 2000 s) (yif (yDi (B s)) (yzn (fun k => yDi (B k)) 2000 s) (yif (s < len) (s + 1) s))
noncomputable def yzk (B : Nat → Nat) (len s : Nat) : Nat := yif (s < len) (yif (yLe (B s)) (yif (yze B len s - s ≤ 8) (yzq B s (yze B len s - s)) 8) (yif (yDi (B s)) (yif (yze B len s - s ≤ 4) 2 8) (yif (B s = 59) 3 8))) 9
theorem yzs_s {B : Nat → Nat} {len : Nat} (hB : yBk B len) {p : Nat} (hp : p ≤ len) : yzr (fun k => ywB (B k)) p (yzs B p) ∧ yzs B p ≤ len := yzn_s (fun k hk t => by
  have z := hB.2.2 k hk
  have t' : ywB (B k) := t
  unfold ywB at t'
  omega) 2000 p hp (by have := hB.1; omega)
theorem yze_l {B : Nat → Nat} {len : Nat} (hB : yBk B len) {s : Nat} (hs : s ≤ len) (hl : yLe (B s)) : yzr (fun k => yLe (B k)) s (yze B len s) ∧ yze B len s ≤ len ∧ s < yze B len s ∧ s < len := by
  have e : yze B len s = yzn (fun k => yLe (B k)) 2000 s := yif_t hl
  have a := yzn_s (P := fun k => yLe (B k)) (len := len) (fun k hk t => by
    have z := hB.2.2 k hk
    have t' : yLe (B k) := t
    unfold yLe at t'
    omega) 2000 s hs (by have := hB.1; omega)
  rw [e]
  have ne : yzn (fun k => yLe (B k)) 2000 s ≠ s := fun t => a.1.2.2 (by rw [t]; exact hl)
  have := a.1.1
  exact ⟨a.1, a.2, by omega, by omega⟩
theorem yLe_nD {b : Nat} (h : yLe b) : ¬ yDi b := fun t => by unfold yLe at h; unfold yDi at t; omega
theorem yze_d {B : Nat → Nat} {len : Nat} (hB : yBk B len) {s : Nat} (hs : s ≤ len) (hl : yDi (B s)) : yzr (fun k => yDi (B k)) s (yze B len s) ∧ yze B len s ≤ len ∧ s < yze B len s ∧ s < len := by
  have e : yze B len s = yzn (fun k => yDi (B k)) 2000 s := by
    unfold yze
    rw [yif_f (fun t => yLe_nD t hl), yif_t hl]
  have a := yzn_s (P := fun k => yDi (B k)) (len := len) (fun k hk t => by
    have z := hB.2.2 k hk
    have t' : yDi (B k) := t
    unfold yDi at t'
    omega) 2000 s hs (by have := hB.1; omega)
  rw [e]
  have ne : yzn (fun k => yDi (B k)) 2000 s ≠ s := fun t => a.1.2.2 (by rw [t]; exact hl)
  have := a.1.1
  exact ⟨a.1, a.2, by omega, by omega⟩
theorem yze_o {B : Nat → Nat} {len s : Nat} (h1 : ¬ yLe (B s)) (h2 : ¬ yDi (B s)) : yze B len s = yif (s < len) (s + 1) s := by
  unfold yze
  rw [yif_f h1, yif_f h2]
theorem yze_b {B : Nat → Nat} {len : Nat} (hB : yBk B len) {s : Nat} (hs : s ≤ len) : s ≤ yze B len s ∧ yze B len s ≤ len ∧ (s < len → s < yze B len s) := by
  by_cases h1 : yLe (B s)
  · have := yze_l hB hs h1; exact ⟨by omega, this.2.1, fun _ => this.2.2.1⟩
  by_cases h2 : yDi (B s)
  · have := yze_d hB hs h2; exact ⟨by omega, this.2.1, fun _ => this.2.2.1⟩
  rw [yze_o h1 h2]
  by_cases g : s < len
  · rw [yif_t g]; omega
  · rw [yif_f g]; omega
theorem s_skip {B : Nat → Nat} {len : Nat} (hB : yBk B len) {m : xmm} (h : ySC B len m) {i : Nat} (hi : m.1 1 9 = nI i) (hl : i ≤ len) : ∃ m', fX7_skipBlanks_1 m = some m' ∧ m'.1 1 9 = nI (yzs B i) ∧ yfk [] [9] m m' := by
  have r := yzs_s hB hl
  have b2 := hB.1
  have l : ∀ (d v j : Nat) (m : xmm), ySC B len m → m.1 1 9 = nI j → i ≤ j → j + d = yzs B i → v + d ≤ 2000 → ∃ m', bX7_skipBlanks_1_2 (nI v) m = some m' ∧ m'.1 1 9 = nI (yzs B i) ∧ yfk [] [9] m m' := by
    intro d
    induction d with
    | zero =>
      intro v j m h hj ij hd hv
      have e : j = yzs B i := by omega
      refine ⟨m, ?_, by rw [hj, e], yfk_r⟩
      apply bX7_skipBlanks_1_2_i
      by_cases g : (2000 : Int32) ≤ nI v
      · rw [if_pos g]
      · rw [if_neg g, hj, s_cBlank hB h (by omega), Option.bind_some, yP_f (by rw [e]; exact r.1.2.2), if_pos rfl]
    | succ d ih =>
      intro v j m h hj ij hd hv
      have g : ¬ (2000 : Int32) ≤ nI v := by rw [yl2000, nI_leI (by decide) (by omega)]; omega
      have f : yfk [] [9] m (xwi m 1 9 (nI (j + 1))) := yfk_f yfk_r (by decide)
      obtain ⟨m', a1, a2, a3⟩ := ih (v + 1) (j + 1) (xwi m 1 9 (nI (j + 1))) (ySC_k h f (by decide) (by decide)) (xwi_e _ _ _ _) (by omega) (by omega) (by omega)
      refine ⟨m', ?_, a2, yfk_t f a3⟩
      apply bX7_skipBlanks_1_2_i
      rw [if_neg g, hj, s_cBlank hB h (by omega), Option.bind_some, yP_t (r.1.2.1 j ij (by omega)), if_neg yn10]
      dsimp only
      rw [hj, nI_1, xlt_e, nI_1]
      exact a1
  obtain ⟨m', a1, a2, a3⟩ := l (yzs B i - i) 0 i m h hi (Nat.le_refl i) (by have := r.1.1; omega) (by omega)
  refine ⟨m', ?_, a2, a3⟩
  apply fX7_skipBlanks_1_i
  exact a1
theorem s_scan_29 {B : Nat → Nat} {len : Nat} (hB : yBk B len) {m : xmm} (h : ySC B len m) {s e : Nat} (hr : yzr (fun k => yLe (B k)) s e) (he : e ≤ 2000) : ∀ (d v j : Nat) (m : xmm), ySC B len m → m.1 1 9 = nI j → s ≤ j → j + d = e → v + d ≤ 2000 → ∃ m', (∀ {z : Int32 × xmm}, bX7_scan_1_63 (nI s) m' = some z → bX7_scan_1_29 (nI s) (nI v) m = some z) ∧ m'.1 1 9 = nI e ∧ yfk [] [9] m m' := by
  intro d
  induction d with
  | zero =>
    intro v j m h hj ij hd hv
    have e' : j = e := by omega
    refine ⟨m, fun {z} hz => ?_, by rw [hj, e'], yfk_r⟩
    apply bX7_scan_1_29_i
    by_cases g : (2000 : Int32) ≤ nI v
    · rw [if_pos g]; exact hz
    · rw [if_neg g, hj, s_cLetter hB h (by omega), Option.bind_some, yP_f (by rw [e']; exact hr.2.2), if_pos rfl]
      exact hz
  | succ d ih =>
    intro v j m h hj ij hd hv
    have g : ¬ (2000 : Int32) ≤ nI v := by rw [yl2000, nI_leI (by decide) (by omega)]; omega
    have f : yfk [] [9] m (xwi m 1 9 (nI (j + 1))) := yfk_f yfk_r (by decide)
    obtain ⟨m', a1, a2, a3⟩ := ih (v + 1) (j + 1) (xwi m 1 9 (nI (j + 1))) (ySC_k h f (by decide) (by decide)) (xwi_e _ _ _ _) (by omega) (by omega) (by omega)
    refine ⟨m', fun {z} hz => ?_, a2, yfk_t f a3⟩
    apply bX7_scan_1_29_i
    rw [if_neg g, hj, s_cLetter hB h (by omega), Option.bind_some, yP_t (hr.2.1 j ij (by omega)), if_neg yn10]
    dsimp only
    rw [hj, nI_1, xlt_e, nI_1]
    exact a1 hz
theorem s_scan_99 {B : Nat → Nat} {len : Nat} (hB : yBk B len) {m : xmm} (h : ySC B len m) {s e : Nat} (hr : yzr (fun k => yDi (B k)) s e) (he : e ≤ 2000) : ∀ (d v j : Nat) (m : xmm), ySC B len m → m.1 1 9 = nI j → s ≤ j → j + d = e → v + d ≤ 2000 → ∃ m', (∀ {z : Int32 × xmm}, bX7_scan_1_133 (nI s) m' = some z → bX7_scan_1_99 (nI s) (nI v) m = some z) ∧ m'.1 1 9 = nI e ∧ yfk [] [9] m m' := by
  intro d
  induction d with
  | zero =>
    intro v j m h hj ij hd hv
    have e' : j = e := by omega
    refine ⟨m, fun {z} hz => ?_, by rw [hj, e'], yfk_r⟩
    apply bX7_scan_1_99_i
    by_cases g : (2000 : Int32) ≤ nI v
    · rw [if_pos g]; exact hz
    · rw [if_neg g, hj, s_cDigit hB h (by omega), Option.bind_some, yP_f (by rw [e']; exact hr.2.2), if_pos rfl]
      exact hz
  | succ d ih =>
    intro v j m h hj ij hd hv
    have g : ¬ (2000 : Int32) ≤ nI v := by rw [yl2000, nI_leI (by decide) (by omega)]; omega
    have f : yfk [] [9] m (xwi m 1 9 (nI (j + 1))) := yfk_f yfk_r (by decide)
    obtain ⟨m', a1, a2, a3⟩ := ih (v + 1) (j + 1) (xwi m 1 9 (nI (j + 1))) (ySC_k h f (by decide) (by decide)) (xwi_e _ _ _ _) (by omega) (by omega) (by omega)
    refine ⟨m', fun {z} hz => ?_, a2, yfk_t f a3⟩
    apply bX7_scan_1_99_i
    rw [if_neg g, hj, s_cDigit hB h (by omega), Option.bind_some, yP_t (hr.2.1 j ij (by omega)), if_neg yn10]
    dsimp only
    rw [hj, nI_1, xlt_e, nI_1]
    exact a1 hz
theorem s_scan {B : Nat → Nat} {len : Nat} (hB : yBk B len) {m : xmm} (h : ySC B len m) {s : Nat} (hs : m.1 1 9 = nI s) (hl : s ≤ len) : ∃ m', fX7_scan_1 m = some (nI (yzk B len s), m') ∧ m'.1 1 9 = nI (yze B len s) ∧ yfk [] [9] m m' := by
  have b2 := hB.1
  unfold yzk
  by_cases g : s < len
  · have g' : nI s < nI len := nI_lt g (by omega)
    rw [yif_t g]
    by_cases c1 : yLe (B s)
    · obtain ⟨r, e1, e2, _⟩ := yze_l hB hl c1
      obtain ⟨m', a1, a2, a3⟩ := s_scan_29 hB h r (by omega) (yze B len s - s) 0 s m h hs (Nat.le_refl s) (by omega) (by omega)
      refine ⟨m', ?_, a2, a3⟩
      rw [yif_t c1]
      apply fX7_scan_1_i
      rw [h.1, hs, if_pos g', s_cLetter hB h (by omega), Option.bind_some, yP_t c1, if_neg yn10]
      apply a1
      apply bX7_scan_1_63_i
      have sb : nI (yze B len s) - nI s = nI (yze B len s - s) := pk_sub (by omega)
      rw [a2, sb]
      by_cases c2 : yze B len s - s ≤ 8
      · have w := s_wordKind hB (ySC_k h a3 (by decide) (by decide)) (s := s) (n := yze B len s - s) (by omega)
        rw [show s + (yze B len s - s) = yze B len s by omega] at w
        rw [if_pos (by rw [yl8, nI_leI (by omega) (by decide)]; exact c2), w, Option.bind_some, yif_t c2]
      · rw [if_neg (by rw [yl8, nI_leI (by omega) (by decide)]; exact c2), yif_f c2]; rfl
    by_cases c2 : yDi (B s)
    · obtain ⟨r, e1, e2, _⟩ := yze_d hB hl c2
      obtain ⟨m', a1, a2, a3⟩ := s_scan_99 hB h r (by omega) (yze B len s - s) 0 s m h hs (Nat.le_refl s) (by omega) (by omega)
      refine ⟨m', ?_, a2, a3⟩
      rw [yif_f c1, yif_t c2]
      apply fX7_scan_1_i
      rw [h.1, hs, if_pos g', s_cLetter hB h (by omega), Option.bind_some, yP_f c1, if_pos rfl]
      dsimp only
      rw [s_cDigit hB h (by omega), Option.bind_some, yP_t c2, if_neg yn10]
      apply a1
      apply bX7_scan_1_133_i
      have sb : nI (yze B len s) - nI s = nI (yze B len s - s) := pk_sub (by omega)
      rw [a2, sb]
      by_cases c3 : yze B len s - s ≤ 4
      · rw [if_pos (by rw [yl4, nI_leI (by omega) (by decide)]; exact c3), yif_t c3]; rfl
      · rw [if_neg (by rw [yl4, nI_leI (by omega) (by decide)]; exact c3), yif_f c3]; rfl
    have f : yfk [] [9] m (xwi m 1 9 (nI (s + 1))) := yfk_f yfk_r (by decide)
    have bb := hB.2.1 s
    refine ⟨xwi m 1 9 (nI (s + 1)), ?_, by rw [xwi_e, yze_o c1 c2, yif_t g], f⟩
    rw [yif_f c1, yif_f c2]
    apply fX7_scan_1_i
    rw [h.1, hs, if_pos g', s_cLetter hB h (by omega), Option.bind_some, yP_f c1, if_pos rfl]
    dsimp only
    rw [s_cDigit hB h (by omega), Option.bind_some, yP_f c2, if_pos rfl]
    dsimp only
    rw [hs, nI_1, xlt_e, s_cByte hB (ySC_k h f (by decide) (by decide)) (by omega), Option.bind_some]
    dsimp only
    by_cases c3 : B s = 59
    · rw [if_pos (by rw [c3]; rfl), yif_t c3]; rfl
    · rw [if_neg (fun t => c3 (by rw [yl59, nI_eq (by omega) (by decide)] at t; exact t)), yif_f c3]; rfl
  · refine ⟨m, ?_, ?_, yfk_r⟩
    · rw [yif_f g]
      apply fX7_scan_1_i
      rw [h.1, hs, if_neg (by rw [nI_ltI (by omega) (by omega)]; exact g)]
      rfl
    · have z := hB.2.2 s (by omega)
      have n1 : ¬ yLe (B s) := fun t => by unfold yLe at t; omega
      have n2 : ¬ yDi (B s) := fun t => by unfold yDi at t; omega
      rw [yze_o n1 n2, yif_f g, hs]
