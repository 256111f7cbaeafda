/-! base: propositions as bits, counts, sets of bits, ints that are numbers -/
noncomputable def yif {α : Type} (p : Prop) (a b : α) : α := @ite α p (Classical.propDecidable p) a b
theorem yif_t {α : Type} {p : Prop} {a b : α} (h : p) : yif p a b = a := by unfold yif; exact if_pos h
theorem yif_f {α : Type} {p : Prop} {a b : α} (h : ¬ p) : yif p a b = b := by unfold yif; exact if_neg h
theorem yif_c {α : Type} {p q : Prop} {a b : α} (h : p ↔ q) : yif p a b = yif q a b := by rw [propext h]
theorem yif_d {α : Type} {p : Prop} {a b : α} [Decidable p] : yif p a b = if p then a else b := by
  by_cases h : p
  · rw [yif_t h, if_pos h]
  · rw [yif_f h, if_neg h]
noncomputable def yP (p : Prop) : Int32 := yif p 1 0
theorem yP_t {p : Prop} (h : p) : yP p = 1 := yif_t h
theorem yP_f {p : Prop} (h : ¬ p) : yP p = 0 := yif_f h
theorem yP_0 {p : Prop} : yP p = 0 ↔ ¬ p := by
  by_cases h : p
  · rw [yP_t h]
    exact ⟨fun e => absurd e (by decide), fun e => absurd h e⟩
  · rw [yP_f h]
    exact ⟨fun _ => h, fun _ => rfl⟩
theorem yP_1 {p : Prop} : yP p = 1 ↔ p := by
  by_cases h : p
  · rw [yP_t h]
    exact ⟨fun _ => h, fun _ => rfl⟩
  · rw [yP_f h]
    exact ⟨fun e => absurd e (by decide), fun e => absurd e h⟩
theorem yP_c {p q : Prop} (h : p ↔ q) : yP p = yP q := by rw [propext h]
theorem yP_z {p : Prop} : xz01 (yP p) = true := by
  by_cases h : p
  · rw [yP_t h]; rfl
  · rw [yP_f h]; rfl
theorem yP_eq {p q : Prop} : yP p = yP q ↔ (p ↔ q) := by
  by_cases h : p <;> by_cases h' : q
  · rw [yP_t h, yP_t h']; exact ⟨fun _ => ⟨fun _ => h', fun _ => h⟩, fun _ => rfl⟩
  · rw [yP_t h, yP_f h']; exact ⟨fun e => absurd e (by decide), fun e => absurd (e.mp h) h'⟩
  · rw [yP_f h, yP_t h']; exact ⟨fun e => absurd e (by decide), fun e => absurd (e.mpr h') h⟩
  · rw [yP_f h, yP_f h']; exact ⟨fun _ => ⟨fun e => absurd e h, fun e => absurd e h'⟩, fun _ => rfl⟩
/-- a branch on a told bit -/
theorem yP_if {α : Type} {p : Prop} {a b : α} : (if yP p = 0 then a else b) = yif p b a := by
  by_cases h : p
  · rw [yif_t h, if_neg (by rw [yP_0]; exact fun e => e h)]
  · rw [yif_f h, if_pos (yP_0.mpr h)]
theorem yor_lt {a b n : Nat} (ha : a < 2 ^ n) (hb : b < 2 ^ n) : a ||| b < 2 ^ n := Nat.or_lt_two_pow ha hb
/-! counts, sums, products, sets -/
noncomputable def yct (P : Nat → Prop) : Nat → Nat
  | 0 => 0
  | k + 1 => yct P k + yif (P k) 1 0
theorem yct_s (P : Nat → Prop) (k : Nat) : yct P (k + 1) = yct P k + yif (P k) 1 0 := rfl
theorem yct_c {P Q : Nat → Prop} : ∀ {n : Nat}, (∀ k, k < n → (P k ↔ Q k)) → yct P n = yct Q n
  | 0, _ => rfl
  | n + 1, h => by rw [yct_s, yct_s, yct_c (fun k hk => h k (Nat.lt_succ_of_lt hk)), yif_c (h n (Nat.lt_succ_self n))]
theorem yct_le (P : Nat → Prop) : ∀ n : Nat, yct P n ≤ n
  | 0 => Nat.le_refl _
  | n + 1 => by
    have := yct_le P n
    rw [yct_s]
    by_cases h : P n
    · rw [yif_t h]; omega
    · rw [yif_f h]; omega
theorem yct_0 {P : Nat → Prop} : ∀ {n : Nat}, (∀ k, k < n → ¬ P k) → yct P n = 0
  | 0, _ => rfl
  | n + 1, h => by rw [yct_s, yct_0 (fun k hk => h k (Nat.lt_succ_of_lt hk)), yif_f (h n (Nat.lt_succ_self n))]
theorem yct_add (P : Nat → Prop) (n : Nat) : ∀ d : Nat, yct P (n + d) = yct P n + yct (fun k => P (n + k)) d
  | 0 => rfl
  | d + 1 => by
    show yct P (n + d + 1) = _
    rw [yct_s, yct_s, yct_add P n d, Nat.add_assoc]
theorem yct_ext {P : Nat → Prop} {n N : Nat} (h : n ≤ N) (h2 : ∀ k, n ≤ k → k < N → ¬ P k) : yct P N = yct P n := by
  obtain ⟨d, rfl⟩ := Nat.exists_eq_add_of_le h
  rw [yct_add, yct_0 (n := d), Nat.add_zero]
  intro k hk
  exact h2 _ (by omega) (by omega)
def ysm (f : Nat → Nat) : Nat → Nat
  | 0 => 0
  | k + 1 => ysm f k + f k
theorem ysm_s (f : Nat → Nat) (k : Nat) : ysm f (k + 1) = ysm f k + f k := rfl
theorem ysm_c {f g : Nat → Nat} : ∀ {n : Nat}, (∀ k, k < n → f k = g k) → ysm f n = ysm g n
  | 0, _ => rfl
  | n + 1, h => by rw [ysm_s, ysm_s, ysm_c (fun k hk => h k (Nat.lt_succ_of_lt hk)), h n (Nat.lt_succ_self n)]
def ypr (f : Nat → Nat) : Nat → Nat
  | 0 => 1
  | k + 1 => ypr f k * f k
theorem ypr_s (f : Nat → Nat) (k : Nat) : ypr f (k + 1) = ypr f k * f k := rfl
theorem ypr_c {f g : Nat → Nat} : ∀ {n : Nat}, (∀ k, k < n → f k = g k) → ypr f n = ypr g n
  | 0, _ => rfl
  | n + 1, h => by rw [ypr_s, ypr_s, ypr_c (fun k hk => h k (Nat.lt_succ_of_lt hk)), h n (Nat.lt_succ_self n)]
/-- the set of those below n -/
noncomputable def ybs (P : Nat → Prop) : Nat → Nat
  | 0 => 0
  | k + 1 => ybs P k ||| yif (P k) (2 ^ k) 0
theorem ybs_s (P : Nat → Prop) (k : Nat) : ybs P (k + 1) = ybs P k ||| yif (P k) (2 ^ k) 0 := rfl
theorem ytb2 (n m : Nat) : (2 ^ n).testBit m = true ↔ n = m := by rw [Nat.testBit_two_pow, decide_eq_true_iff]
theorem ybs_tb (P : Nat → Prop) (i : Nat) : ∀ n : Nat, (ybs P n).testBit i = true ↔ i < n ∧ P i
  | 0 => by
    show (0 : Nat).testBit i = true ↔ _
    rw [Nat.zero_testBit]
    exact ⟨fun h => absurd h (by decide), fun h => absurd h.1 (Nat.not_lt_zero i)⟩
  | n + 1 => by
    rw [ybs_s, Nat.testBit_or, Bool.or_eq_true, ybs_tb P i n]
    by_cases h : P n
    · rw [yif_t h, ytb2]
      constructor
      · rintro (h1 | h1)
        · exact ⟨by omega, h1.2⟩
        · subst h1; exact ⟨by omega, h⟩
      · rintro ⟨h1, h2⟩
        by_cases e : n = i
        · exact Or.inr e
        · exact Or.inl ⟨by omega, h2⟩
    · rw [yif_f h, Nat.zero_testBit]
      constructor
      · rintro (h1 | h1)
        · exact ⟨by omega, h1.2⟩
        · exact absurd h1 (by decide)
      · rintro ⟨h1, h2⟩
        by_cases e : n = i
        · subst e; exact absurd h2 h
        · exact Or.inl ⟨by omega, h2⟩
theorem ytb_lt {a n : Nat} (h : ∀ i, a.testBit i = true → i < n) : a < 2 ^ n := by
  apply Nat.lt_pow_two_of_testBit
  intro i hi
  by_cases e : a.testBit i = true
  · have := h i e; omega
  · exact Bool.eq_false_iff.mpr e
theorem ytb_of {a n i : Nat} (h : a < 2 ^ n) (hi : a.testBit i = true) : i < n := by
  rcases Nat.lt_or_ge i n with h1 | h1
  · exact h1
  · have h2 : a.testBit i = false := Nat.testBit_lt_two_pow (Nat.lt_of_lt_of_le h (Nat.pow_le_pow_right (by decide) h1))
    rw [h2] at hi
    exact absurd hi (by decide)
theorem ytb_ext {a b : Nat} (h : ∀ i, a.testBit i = true ↔ b.testBit i = true) : a = b := by
  apply Nat.eq_of_testBit_eq
  intro i
  exact Bool.eq_iff_iff.mpr (h i)
theorem ybs_lt (P : Nat → Prop) (n : Nat) : ybs P n < 2 ^ n := ytb_lt fun i hi => ((ybs_tb P i n).mp hi).1
theorem ybs_c {P Q : Nat → Prop} {n : Nat} (h : ∀ k, k < n → (P k ↔ Q k)) : ybs P n = ybs Q n := by
  apply ytb_ext
  intro i
  rw [ybs_tb, ybs_tb]
  exact ⟨fun e => ⟨e.1, (h i e.1).mp e.2⟩, fun e => ⟨e.1, (h i e.1).mpr e.2⟩⟩
theorem ybs_of {S n : Nat} (h : S < 2 ^ n) : ybs (fun i => S.testBit i = true) n = S := by
  apply ytb_ext
  intro i
  rw [ybs_tb]
  exact ⟨fun e => e.2, fun e => ⟨ytb_of h e, e⟩⟩
/-- a without b -/
def ynd (a b : Nat) : Nat := a ^^^ (a &&& b)
theorem ynd_tb (a b i : Nat) : (ynd a b).testBit i = (a.testBit i && !(b.testBit i)) := by
  unfold ynd
  rw [Nat.testBit_xor, Nat.testBit_and]
  cases a.testBit i <;> cases b.testBit i <;> rfl
theorem ynd_le (a b n : Nat) (h : a < 2 ^ n) : ynd a b < 2 ^ n := by
  apply ytb_lt
  intro i hi
  rw [ynd_tb, Bool.and_eq_true] at hi
  exact ytb_of h hi.1
theorem yand_lt (a b : Nat) {n : Nat} (h : a < 2 ^ n) : a &&& b < 2 ^ n := by
  rw [Nat.and_comm]; exact Nat.and_lt_two_pow b h
/-- among the first n from k on -/
theorem yal_s {P : Nat → Prop} {k N : Nat} (h : k < N) : (∀ p, k ≤ p → p < N → P p) ↔ P k ∧ ∀ p, k + 1 ≤ p → p < N → P p := by
  constructor
  · intro h1
    exact ⟨h1 k (Nat.le_refl k) h, fun p h2 h3 => h1 p (by omega) h3⟩
  · rintro ⟨h1, h2⟩ p h3 h4
    by_cases e : p = k
    · subst e; exact h1
    · exact h2 p (by omega) h4
theorem yal_0 {P : Nat → Prop} {N : Nat} : (∀ p, 0 ≤ p → p < N → P p) ↔ ∀ p, p < N → P p := ⟨fun h p hp => h p (Nat.zero_le p) hp, fun h p _ hp => h p hp⟩
theorem yal_e {P : Nat → Prop} {N : Nat} : ∀ p, N ≤ p → p < N → P p := fun p h1 h2 => absurd h1 (by omega)
/-! ints -/
theorem yI_and (a b : Nat) : nI a &&& nI b = nI (a &&& b) := by
  apply Int32.toBitVec_inj.1
  show BitVec.ofNat 32 a &&& BitVec.ofNat 32 b = BitVec.ofNat 32 (a &&& b)
  apply BitVec.eq_of_getLsbD_eq
  intro i hi
  simp [hi]
theorem yI_or (a b : Nat) : nI a ||| nI b = nI (a ||| b) := by
  apply Int32.toBitVec_inj.1
  show BitVec.ofNat 32 a ||| BitVec.ofNat 32 b = BitVec.ofNat 32 (a ||| b)
  apply BitVec.eq_of_getLsbD_eq
  intro i hi
  simp [hi]
theorem yI_xor (a b : Nat) : nI a ^^^ nI b = nI (a ^^^ b) := by
  apply Int32.toBitVec_inj.1
  show BitVec.ofNat 32 a ^^^ BitVec.ofNat 32 b = BitVec.ofNat 32 (a ^^^ b)
  apply BitVec.eq_of_getLsbD_eq
  intro i hi
  simp [hi]
theorem yI_m1 : ∀ i, i < 32 → (BitVec.ofInt 32 (-1)).getLsbD i = true := by decide
theorem yI_nd (a b : Nat) : nI a &&& (nI b ^^^ (-1 : Int32)) = nI (ynd a b) := by
  apply Int32.toBitVec_inj.1
  show BitVec.ofNat 32 a &&& (BitVec.ofNat 32 b ^^^ BitVec.ofInt 32 (-1)) = BitVec.ofNat 32 (ynd a b)
  apply BitVec.eq_of_getLsbD_eq
  intro i hi
  rw [BitVec.getLsbD_and, BitVec.getLsbD_xor, yI_m1 i hi, BitVec.getLsbD_ofNat, BitVec.getLsbD_ofNat, BitVec.getLsbD_ofNat, ynd_tb]
  simp [hi]
theorem yI_nd2 (a b : Nat) : (nI b ^^^ (-1 : Int32)) &&& nI a = nI (ynd a b) := by
  rw [← yI_nd, Int32.and_comm]
theorem yI_31 {k : Nat} (h : k < 32) : nI k &&& 31 = nI k := by
  show nI k &&& nI (2 ^ 5 - 1) = _
  rw [yI_and, Nat.and_two_pow_sub_one_eq_mod, Nat.mod_eq_of_lt h]
theorem yI_sl : ∀ n, n < 32 → ((nI n).toBitVec.smod 32).toNat = n := by decide +kernel
theorem yI_shl (a : Nat) {k : Nat} (h : k < 32) : nI a <<< nI k = nI (a * 2 ^ k) := by
  apply Int32.toBitVec_inj.1
  rw [Int32.toBitVec_shiftLeft]
  show (BitVec.ofNat 32 a) <<< ((nI k).toBitVec.smod 32).toNat = BitVec.ofNat 32 (a * 2 ^ k)
  rw [yI_sl k h]
  apply BitVec.eq_of_toNat_eq
  simp [BitVec.toNat_shiftLeft, Nat.shiftLeft_eq]
theorem yI_1shl {k : Nat} (h : k < 32) : (1 : Int32) <<< (nI k &&& 31) = nI (2 ^ k) := by
  rw [yI_31 h]
  show nI 1 <<< nI k = _
  rw [yI_shl 1 h, Nat.one_mul]
theorem yI_shr {a k : Nat} (ha : a < 2 ^ 31) (h : k < 32) : nI a >>> (nI k &&& 31) = nI (a / 2 ^ k) := by
  rw [yI_31 h]
  exact pk_shrN ha (nI k) k (yI_sl k h)
theorem yI_sub1 (a : Nat) : nI (a + 1) - 1 = nI a := nI_pred a
theorem yI_cl {k : Nat} (h : k < 2 ^ 31) : (nI k).toNatClampNeg = k := nI_clamp h
theorem yI_ltz {k : Nat} (h : k < 2 ^ 31) : ¬ nI k < 0 := nI_pos h
theorem yI_zle {k : Nat} (h : k < 2 ^ 31) : (0 : Int32) ≤ nI k := nI_pos' h
theorem yI_eq0 {k : Nat} (h : k < 2 ^ 31) : nI k = 0 ↔ k = 0 := nI_eq h (by decide)
theorem yI_bit {S k : Nat} (hS : S < 2 ^ 31) (hk : k < 32) : ((nI S >>> (nI k &&& 31)) &&& (1 : Int32)) = yP (S.testBit k = true) := by
  rw [yI_shr hS hk]
  show nI _ &&& nI 1 = _
  rw [yI_and, Nat.and_one_is_mod]
  by_cases h : S.testBit k = true
  · rw [yP_t h]
    rw [Nat.testBit_eq_decide_div_mod_eq, decide_eq_true_iff] at h
    rw [h]; rfl
  · rw [yP_f h]
    rw [Nat.testBit_eq_decide_div_mod_eq, decide_eq_true_iff] at h
    rw [show S / 2 ^ k % 2 = 0 by omega]; rfl
theorem xgd_t {α : Type} (o : Option α) : xgd true o = o := rfl
theorem xlt_e {α β : Type} (a : α) (f : α → β) : xlt a f = f a := rfl
theorem xinb_t {n k : Nat} (h : k < n) (hn : n < 2 ^ 31) : xinb n (nI k) = true := by
  unfold xinb
  rw [nI_clamp (by omega), Bool.and_eq_true]
  exact ⟨decide_eq_true (nI_pos' (by omega)), Nat.blt_eq.mpr h⟩
theorem xia_t {t v n k : Nat} (hv : xkd v = (t, n)) (h : k < n) (hn : n < 2 ^ 31) : xia t v (nI k) = true := by
  unfold xia
  rw [hv, Bool.and_eq_true]
  exact ⟨Nat.beq_refl t, xinb_t h hn⟩
/-! memories -/
theorem xwi_e (m : xmm) (k i : Nat) (v : Int32) : (xwi m k i v).1 k i = v := by
  show (if k = k ∧ i = i then v else _) = v
  rw [if_pos ⟨rfl, rfl⟩]
theorem xwi_n {m : xmm} {k i a b : Nat} {v : Int32} (h : ¬ (a = k ∧ b = i)) : (xwi m k i v).1 a b = m.1 a b := by
  show (if a = k ∧ b = i then v else _) = _
  rw [if_neg h]
theorem xwi_k {m : xmm} {k i a b : Nat} {v : Int32} (h : a ≠ k) : (xwi m k i v).1 a b = m.1 a b := xwi_n fun e => h e.1
theorem xwi_i {m : xmm} {k i a b : Nat} {v : Int32} (h : b ≠ i) : (xwi m k i v).1 a b = m.1 a b := xwi_n fun e => h e.2
theorem xwi_2 (m : xmm) (k i : Nat) (v : Int32) : (xwi m k i v).2 = m.2 := rfl
theorem xwj_1 (m : xmm) (k i : Nat) (v : Int64) : (xwj m k i v).1 = m.1 := rfl
theorem xwj_e (m : xmm) (k i : Nat) (v : Int64) : (xwj m k i v).2 k i = v := by
  show (if k = k ∧ i = i then v else _) = v
  rw [if_pos ⟨rfl, rfl⟩]
theorem xwj_n {m : xmm} {k i a b : Nat} {v : Int64} (h : ¬ (a = k ∧ b = i)) : (xwj m k i v).2 a b = m.2 a b := by
  show (if a = k ∧ b = i then v else _) = _
  rw [if_neg h]
/-- all cells but those of a list are as they were -/
def yfr (L : List Nat) (m m' : xmm) : Prop := ∀ k, k ∉ L → (∀ i, m'.1 k i = m.1 k i) ∧ ∀ i, m'.2 k i = m.2 k i
theorem yfr_r {L : List Nat} {m : xmm} : yfr L m m := fun _ _ => ⟨fun _ => rfl, fun _ => rfl⟩
theorem yfr_t {L : List Nat} {m m' m'' : xmm} (h : yfr L m m') (h' : yfr L m' m'') : yfr L m m'' := fun k hk => ⟨fun i => ((h' k hk).1 i).trans ((h k hk).1 i), fun i => ((h' k hk).2 i).trans ((h k hk).2 i)⟩
theorem yfr_m {L L' : List Nat} {m m' : xmm} (h : yfr L m m') (hl : ∀ k, k ∈ L → k ∈ L') : yfr L' m m' := fun k hk => h k fun e => hk (hl k e)
theorem yfr_w {L : List Nat} {m m' : xmm} {k i : Nat} {v : Int32} (h : yfr L m m') (hk : k ∈ L) : yfr L m (xwi m' k i v) := fun a ha => ⟨fun j => by rw [xwi_k (fun e => ha (by rw [e]; exact hk))]; exact (h a ha).1 j, fun j => (h a ha).2 j⟩
theorem yfr_j {L : List Nat} {m m' : xmm} {k i : Nat} {v : Int64} (h : yfr L m m') (hk : k ∈ L) : yfr L m (xwj m' k i v) := fun a ha => ⟨fun j => (h a ha).1 j, fun j => by rw [xwj_n (fun e => ha (by rw [e.1]; exact hk))]; exact (h a ha).2 j⟩
theorem yfr_1 {L : List Nat} {m m' : xmm} (h : yfr L m m') (k i : Nat) (hk : k ∉ L) : m'.1 k i = m.1 k i := (h k hk).1 i
theorem yfr_2 {L : List Nat} {m m' : xmm} (h : yfr L m m') (k i : Nat) (hk : k ∉ L) : m'.2 k i = m.2 k i := (h k hk).2 i
