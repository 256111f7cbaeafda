/-! the tokens one behind the other, and what they are worth -/
noncomputable def yzp (B : Nat → Nat) (len : Nat) : Nat → Nat
  | 0 => 0
  | k + 1 => yze B len (yzs B (yzp B len k))
noncomputable def yzt (B : Nat → Nat) (len k : Nat) : Nat := yzs B (yzp B len k)
noncomputable def yzd (B : Nat → Nat) (len k : Nat) : Nat := yzk B len (yzt B len k)
noncomputable def yzm (B : Nat → Nat) (len k : Nat) : Nat := yzp B len (k + 1) - yzt B len k
theorem yzp_l {B : Nat → Nat} {len : Nat} (hB : yBk B len) : ∀ k, yzp B len k ≤ len
  | 0 => Nat.zero_le _
  | k + 1 => (yze_b hB (yzs_s hB (yzp_l hB k)).2).2.1
theorem yzt_l {B : Nat → Nat} {len : Nat} (hB : yBk B len) (k : Nat) : yzp B len k ≤ yzt B len k ∧ yzt B len k ≤ len ∧ yzt B len k ≤ yzp B len (k + 1) ∧ (yzt B len k < len → yzt B len k < yzp B len (k + 1)) := by
  have a := yzs_s hB (yzp_l hB k)
  have b := yze_b hB a.2
  exact ⟨a.1.1, a.2, b.1, b.2.2⟩
def y256 (B : Nat → Nat) (s : Nat) : Nat → Nat
  | 0 => 0
  | n + 1 => 256 * y256 B s n + B (s + n)
def y10 (B : Nat → Nat) (s : Nat) : Nat → Nat
  | 0 => 0
  | n + 1 => 10 * y10 B s n + B (s + n) - 48
theorem y256_b {B : Nat → Nat} {s : Nat} : ∀ n, (∀ i, i < n → yLe (B (s + i))) → 2 * y256 B s n < 256 ^ n
  | 0, _ => by show 2 * 0 < 1; omega
  | n + 1, h => by
    have a := y256_b n fun i hi => h i (by omega)
    have b := (h n (by omega)).2
    show 2 * (256 * y256 B s n + B (s + n)) < 256 ^ (n + 1)
    rw [Nat.pow_succ]
    omega
theorem y256_8 {B : Nat → Nat} {s n : Nat} (h : ∀ i, i < n → yLe (B (s + i))) (hn : n ≤ 8) : y256 B s n < 2 ^ 63 := by
  have a := y256_b n h
  have b : 256 ^ n ≤ 256 ^ 8 := Nat.pow_le_pow_right (by decide) hn
  have c : 256 ^ 8 = 2 ^ 64 := by decide
  omega
theorem y256_7 {B : Nat → Nat} {s n : Nat} (h : ∀ i, i < n → yLe (B (s + i))) (hn : n ≤ 7) : y256 B s n < 2 ^ 55 := by
  have a := y256_b n h
  have b : 256 ^ n ≤ 256 ^ 7 := Nat.pow_le_pow_right (by decide) hn
  have c : 256 ^ 7 = 2 ^ 56 := by decide
  omega
theorem y10_b {B : Nat → Nat} {s : Nat} : ∀ n, (∀ i, i < n → yDi (B (s + i))) → y10 B s n < 10 ^ n
  | 0, _ => by show 0 < 1; omega
  | n + 1, h => by
    have a := y10_b n fun i hi => h i (by omega)
    have b := h n (by omega)
    unfold yDi at b
    show 10 * y10 B s n + B (s + n) - 48 < 10 ^ (n + 1)
    rw [Nat.pow_succ]
    omega
theorem y10_4 {B : Nat → Nat} {s n : Nat} (h : ∀ i, i < n → yDi (B (s + i))) (hn : n ≤ 4) : y10 B s n < 10000 := by
  have a := y10_b n h
  have b : 10 ^ n ≤ 10 ^ 4 := Nat.pow_le_pow_right (by decide) hn
  have c : 10 ^ 4 = 10000 := by decide
  omega
theorem yl8or {c b : Nat} (hc : c < 2 ^ 55) (hb : b < 256) : (lN c <<< (((8 : Int32)).toInt64 &&& 63)) ||| Int32.toInt64 (nI b) = lN (256 * c + b) := by
  rw [nI_l (by omega)]
  apply Int64.toBitVec_inj.1
  rw [Int64.toBitVec_or, Int64.toBitVec_shiftLeft]
  have e : ((((8 : Int32)).toInt64 &&& 63).toBitVec.smod (64#64)) = 8#64 := by decide
  show (BitVec.ofNat 64 c <<< ((((8 : Int32)).toInt64 &&& 63).toBitVec.smod (64#64))) ||| BitVec.ofNat 64 b = BitVec.ofNat 64 (256 * c + b)
  rw [e]
  apply BitVec.eq_of_toNat_eq
  have s1 : (c <<< 8 ||| b) = 256 * c + b := by
    rw [← Nat.shiftLeft_add_eq_or_of_lt (show b < 2 ^ 8 from hb), Nat.shiftLeft_eq]
    omega
  have s2 : c <<< 8 = 256 * c := by rw [Nat.shiftLeft_eq]; omega
  have p : (2 : Nat) ^ 64 = 18446744073709551616 := by decide
  rw [BitVec.toNat_or]
  simp only [BitVec.toNat_shiftLeft, BitVec.toNat_ofNat, BitVec.shiftLeft_eq']
  rw [Nat.mod_eq_of_lt (show c < 2 ^ 64 by omega), Nat.mod_eq_of_lt (show b < 2 ^ 64 by omega), Nat.mod_eq_of_lt (show 256 * c + b < 2 ^ 64 by omega)]
  rw [show (8 : Nat) % 2 ^ 64 = 8 by decide, s2, Nat.mod_eq_of_lt (show 256 * c < 2 ^ 64 by omega), ← s2, s1]
  omega
theorem s_code {B : Nat → Nat} {len : Nat} (hB : yBk B len) {m : xmm} (h : ySC B len m) {s n : Nat} (hs : s + n < 2 ^ 30) (hn : n ≤ 8) (hl : ∀ i, i < n → yLe (B (s + i))) : fX7_codeOf_1 (nI s) (nI (s + n)) m = some (lN (y256 B s n), m) := by
  have l : ∀ (d v : Nat), v + d = n → bX7_codeOf_1_5 (nI (s + n)) (lN (y256 B s v)) (nI (s + v)) m = some (lN (y256 B s n), m) := by
    intro d
    induction d with
    | zero =>
      intro v hv
      have e : v = n := by omega
      subst e
      apply bX7_codeOf_1_5_i
      rw [if_pos (nI_le (Nat.le_refl _) (by omega))]
    | succ d ih =>
      intro v hv
      have e := ih (v + 1) (by omega)
      apply bX7_codeOf_1_5_i
      have le : ¬ nI (s + n) ≤ nI (s + v) := by rw [nI_leI (by omega) (by omega)]; omega
      have b7 : y256 B s v < 2 ^ 55 := y256_7 (fun i hi => hl i (by omega)) (by omega)
      rw [if_neg le, s_cByte hB h (by omega), Option.bind_some]
      dsimp only
      rw [yl8or b7 (hB.2.1 _), xlt_e, nI_1]
      exact e
  apply fX7_codeOf_1_i
  exact l n 0 (Nat.zero_add n)
theorem s_num {B : Nat → Nat} {len : Nat} (hB : yBk B len) {m : xmm} (h : ySC B len m) {s n : Nat} (hs : s + n < 2 ^ 30) (hl : ∀ i, i < n → yDi (B (s + i))) : fX7_numberOf_1 (nI s) (nI (s + n)) m = some (lN (y10 B s n), m) := by
  have l : ∀ (d v : Nat), v + d = n → bX7_numberOf_1_5 (nI (s + n)) (lN (y10 B s v)) (nI (s + v)) m = some (lN (y10 B s n), m) := by
    intro d
    induction d with
    | zero =>
      intro v hv
      have e : v = n := by omega
      subst e
      apply bX7_numberOf_1_5_i
      rw [if_pos (nI_le (Nat.le_refl _) (by omega))]
    | succ d ih =>
      intro v hv
      have e := ih (v + 1) (by omega)
      apply bX7_numberOf_1_5_i
      have le : ¬ nI (s + n) ≤ nI (s + v) := by rw [nI_leI (by omega) (by omega)]; omega
      have bb := hB.2.1 (s + v)
      have dd := hl v (by omega)
      unfold yDi at dd
      have c10 : (10 : Int64) = lN 10 := rfl
      have c48 : (48 : Int64) = lN 48 := rfl
      rw [if_neg le, s_cByte hB h (by omega), Option.bind_some]
      dsimp only
      rw [nI_l (by omega), c10, c48, lN_mul, lN_add, lN_sub (by omega), xlt_e, nI_1]
      exact e
  apply fX7_numberOf_1_i
  exact l n 0 (Nat.zero_add n)
theorem yzq_c (B : Nat → Nat) (s n : Nat) : yzq B s n = 4 ∨ yzq B s n = 5 ∨ yzq B s n = 6 ∨ yzq B s n = 7 ∨ yzq B s n = 1 := by
  unfold yzq
  by_cases h0 : yzw B s n 0
  · rw [yif_t h0]; omega
  rw [yif_f h0]
  by_cases h1 : yzw B s n 1
  · rw [yif_t h1]; omega
  rw [yif_f h1]
  by_cases h2 : yzw B s n 2
  · rw [yif_t h2]; omega
  rw [yif_f h2]
  by_cases h3 : yzw B s n 3
  · rw [yif_t h3]; omega
  · rw [yif_f h3]; omega
theorem yzk_c (B : Nat → Nat) (len s : Nat) : (¬ s < len ∧ yzk B len s = 9) ∨ (s < len ∧ yLe (B s) ∧ yze B len s - s ≤ 8 ∧ yzk B len s = yzq B s (yze B len s - s)) ∨ (s < len ∧ yLe (B s) ∧ ¬ yze B len s - s ≤ 8 ∧ yzk B len s = 8) ∨ (s < len ∧ ¬ yLe (B s) ∧ yDi (B s) ∧ yze B len s - s ≤ 4 ∧ yzk B len s = 2) ∨ (s < len ∧ ¬ yLe (B s) ∧ yDi (B s) ∧ ¬ yze B len s - s ≤ 4 ∧ yzk B len s = 8) ∨ (s < len ∧ ¬ yLe (B s) ∧ ¬ yDi (B s) ∧ B s = 59 ∧ yzk B len s = 3) ∨ (s < len ∧ ¬ yLe (B s) ∧ ¬ yDi (B s) ∧ B s ≠ 59 ∧ yzk B len s = 8) := by
  unfold yzk
  by_cases g : s < len
  · rw [yif_t g]
    by_cases c1 : yLe (B s)
    · rw [yif_t c1]
      by_cases c2 : yze B len s - s ≤ 8
      · rw [yif_t c2]; exact Or.inr (Or.inl ⟨g, c1, c2, rfl⟩)
      · rw [yif_f c2]; exact Or.inr (Or.inr (Or.inl ⟨g, c1, c2, rfl⟩))
    rw [yif_f c1]
    by_cases c2 : yDi (B s)
    · rw [yif_t c2]
      by_cases c3 : yze B len s - s ≤ 4
      · rw [yif_t c3]; exact Or.inr (Or.inr (Or.inr (Or.inl ⟨g, c1, c2, c3, rfl⟩)))
      · rw [yif_f c3]; exact Or.inr (Or.inr (Or.inr (Or.inr (Or.inl ⟨g, c1, c2, c3, rfl⟩))))
    rw [yif_f c2]
    by_cases c3 : B s = 59
    · rw [yif_t c3]; exact Or.inr (Or.inr (Or.inr (Or.inr (Or.inr (Or.inl ⟨g, c1, c2, c3, rfl⟩)))))
    · rw [yif_f c3]; exact Or.inr (Or.inr (Or.inr (Or.inr (Or.inr (Or.inr ⟨g, c1, c2, c3, rfl⟩)))))
  · rw [yif_f g]; exact Or.inl ⟨g, rfl⟩
theorem yzk_b (B : Nat → Nat) (len s : Nat) : 1 ≤ yzk B len s ∧ yzk B len s ≤ 9 := by
  have q := yzq_c B s (yze B len s - s)
  rcases yzk_c B len s with t | t | t | t | t | t | t
  · omega
  · have := t.2.2.2; omega
  · have := t.2.2.2; omega
  · have := t.2.2.2.2; omega
  · have := t.2.2.2.2; omega
  · have := t.2.2.2.2; omega
  · have := t.2.2.2.2; omega
theorem yzk_1 {B : Nat → Nat} {len s : Nat} (h : yzk B len s = 1) : s < len ∧ yLe (B s) ∧ yze B len s - s ≤ 8 := by
  rcases yzk_c B len s with t | t | t | t | t | t | t
  · omega
  · exact ⟨t.1, t.2.1, t.2.2.1⟩
  · have := t.2.2.2; omega
  · have := t.2.2.2.2; omega
  · have := t.2.2.2.2; omega
  · have := t.2.2.2.2; omega
  · have := t.2.2.2.2; omega
theorem yzk_2 {B : Nat → Nat} {len s : Nat} (h : yzk B len s = 2) : s < len ∧ yDi (B s) ∧ yze B len s - s ≤ 4 := by
  have q := yzq_c B s (yze B len s - s)
  rcases yzk_c B len s with t | t | t | t | t | t | t
  · omega
  · have := t.2.2.2; omega
  · have := t.2.2.2; omega
  · exact ⟨t.1, t.2.2.1, t.2.2.2.1⟩
  · have := t.2.2.2.2; omega
  · have := t.2.2.2.2; omega
  · have := t.2.2.2.2; omega
noncomputable def yznm (B : Nat → Nat) (len k : Nat) : Nat := y256 B (yzt B len k) (yzm B len k)
noncomputable def yzvl (B : Nat → Nat) (len k : Nat) : Nat := y10 B (yzt B len k) (yzm B len k)
theorem yz_nm {B : Nat → Nat} {len : Nat} (hB : yBk B len) {k : Nat} (h : yzd B len k = 1) : (∀ i, i < yzm B len k → yLe (B (yzt B len k + i))) ∧ yzm B len k ≤ 8 := by
  have a := yzk_1 h
  have l := yze_l hB (yzt_l hB k).2.1 a.2.1
  exact ⟨fun i hi => l.1.2.1 _ (by omega) (by have e : yzm B len k = yze B len (yzt B len k) - yzt B len k := rfl; omega), a.2.2⟩
theorem yz_vl {B : Nat → Nat} {len : Nat} (hB : yBk B len) {k : Nat} (h : yzd B len k = 2) : (∀ i, i < yzm B len k → yDi (B (yzt B len k + i))) ∧ yzm B len k ≤ 4 := by
  have a := yzk_2 h
  have l := yze_d hB (yzt_l hB k).2.1 a.2.1
  exact ⟨fun i hi => l.1.2.1 _ (by omega) (by have e : yzm B len k = yze B len (yzt B len k) - yzt B len k := rfl; omega), a.2.2⟩
/-- the tokens that the class has kept -/
def yKT (kd st nm vl : Nat → Nat) (k : Nat) (m : xmm) : Prop := m.1 1 8 = nI k ∧ ∀ j, j < k → m.1 5 j = nI (kd j) ∧ m.1 6 j = nI (st j) ∧ m.2 7 j = lN (yif (kd j = 1) (nm j) (yif (kd j = 2) (vl j) 0))
theorem s_keepToken {B : Nat → Nat} {len : Nat} (hB : yBk B len) {m : xmm} (h : ySC B len m) {k : Nat} (hk : k < 400) (h9 : m.1 1 9 = nI (yzp B len (k + 1))) (hT : yKT (yzd B len) (yzt B len) (yznm B len) (yzvl B len) k m) : ∃ m', fX7_keepToken_1 (nI (yzd B len k)) (nI (yzt B len k)) m = some m' ∧ yKT (yzd B len) (yzt B len) (yznm B len) (yzvl B len) (k + 1) m' ∧ yfk [5, 6, 7] [8] m m' := by
  have b2 := hB.1
  have tl := yzt_l hB k
  have pl := yzp_l hB (k + 1)
  have kb := yzk_b B len (yzt B len k)
  have f2 : yfk [5, 6, 7] [8] m (xwi (xwi m 5 k (nI (yzd B len k))) 6 k (nI (yzt B len k))) := yfk_w (yfk_w yfk_r (by decide) (by decide)) (by decide) (by decide)
  have h2 := ySC_k h f2 (by decide) (by decide)
  have i4 : xinb 400 (nI k) = true := xinb_t hk (by decide)
  have e9 : (xwi (xwi m 5 k (nI (yzd B len k))) 6 k (nI (yzt B len k))).1 1 9 = nI (yzt B len k + yzm B len k) := by
    rw [xwi_k (by decide), xwi_k (by decide), h9]
    congr 1
    unfold yzm
    omega
  have e8 : (xwi (xwi m 5 k (nI (yzd B len k))) 6 k (nI (yzt B len k))).1 1 8 = nI k := by
    rw [xwi_k (by decide), xwi_k (by decide)]; exact hT.1
  have sm : yzt B len k + yzm B len k < 2 ^ 30 := by unfold yzm; omega
  refine ⟨xwi (xwj (xwi (xwi m 5 k (nI (yzd B len k))) 6 k (nI (yzt B len k))) 7 k (lN (yif (yzd B len k = 1) (yznm B len k) (yif (yzd B len k = 2) (yzvl B len k) 0)))) 1 8 (nI (k + 1)), ?_, ⟨xwi_e _ _ _ _, fun j hj => ?_⟩, yfk_f (yfk_j f2 (by decide)) (by decide)⟩
  · have fin : ∀ x : Int64, bX7_keepToken_1_63 (nI k) x (xwi (xwi m 5 k (nI (yzd B len k))) 6 k (nI (yzt B len k))) = some (xwi (xwj (xwi (xwi m 5 k (nI (yzd B len k))) 6 k (nI (yzt B len k))) 7 k x) 1 8 (nI (k + 1))) := by
      intro x
      apply bX7_keepToken_1_63_i
      rw [i4, xgd_t, nI_clamp (by omega), xlt_e, xwj_1, e8, nI_1]
      rfl
    apply fX7_keepToken_1_i
    rw [hT.1, i4, xgd_t, nI_clamp (by omega), xlt_e, xwi_k (by decide), hT.1, i4, xgd_t, nI_clamp (by omega), xlt_e, e9, e8]
    have q1 : nI (yzd B len k) = (1 : Int32) ↔ yzd B len k = 1 := nI_eq (b := 1) (by have : yzd B len k = yzk B len (yzt B len k) := rfl; omega) (by decide)
    have q2 : nI (yzd B len k) = (2 : Int32) ↔ yzd B len k = 2 := nI_eq (b := 2) (by have : yzd B len k = yzk B len (yzt B len k) := rfl; omega) (by decide)
    by_cases c1 : yzd B len k = 1
    · have n := yz_nm hB c1
      rw [if_pos (q1.mpr c1), s_code hB h2 sm n.2 n.1, Option.bind_some, yif_t c1]
      exact fin _
    rw [if_neg (fun t => c1 (q1.mp t)), yif_f c1]
    by_cases c2 : yzd B len k = 2
    · have n := yz_vl hB c2
      rw [if_pos (q2.mpr c2), s_num hB h2 sm n.1, Option.bind_some, yif_t c2]
      exact fin _
    rw [if_neg (fun t => c2 (q2.mp t)), yif_f c2]
    exact fin 0
  · rw [xwi_k (by decide), xwi_k (by decide), xwi_2, xwj_1]
    by_cases e : j = k
    · subst e
      refine ⟨?_, ?_, xwj_e _ _ _ _⟩
      · rw [xwi_k (by decide), xwi_e]
      · rw [xwi_e]
    · have o := hT.2 j (by omega)
      refine ⟨?_, ?_, ?_⟩
      · rw [xwi_k (by decide), xwi_i e]; exact o.1
      · rw [xwi_i e, xwi_k (by decide)]; exact o.2.1
      · rw [xwj_n (fun t => e t.2)]; exact o.2.2
