/-! levels, ways up: what they are -/
noncomputable def ydn (n : Nat) (T : yG) (p : Nat) : Nat := yct (fun q => T q p) n
theorem yct_sub {P Q : Nat → Prop} : ∀ {n : Nat}, (∀ k, k < n → P k → Q k) → yct P n ≤ yct Q n
  | 0, _ => Nat.le_refl _
  | n + 1, h => by
    rw [yct_s, yct_s]
    have i := yct_sub (P := P) (Q := Q) (n := n) fun k hk => h k (by omega)
    by_cases e : P n
    · rw [yif_t e, yif_t (h n (Nat.lt_succ_self n) e)]; omega
    · rw [yif_f e]; omega
theorem yct_slt {P Q : Nat → Prop} {j : Nat} : ∀ {n : Nat}, (∀ k, k < n → P k → Q k) → j < n → Q j → ¬ P j → yct P n < yct Q n
  | 0, _, h, _, _ => absurd h (Nat.not_lt_zero j)
  | n + 1, h, hj, hq, hp => by
    rw [yct_s, yct_s]
    by_cases e : j = n
    · subst e
      have i := yct_sub (P := P) (Q := Q) (n := j) fun k hk => h k (by omega)
      rw [yif_t hq, yif_f hp]; omega
    · have i := yct_slt (P := P) (Q := Q) (j := j) (n := n) (fun k hk => h k (by omega)) (by omega) hq hp
      by_cases e2 : P n
      · rw [yif_t e2, yif_t (h n (Nat.lt_succ_self n) e2)]; omega
      · rw [yif_f e2]; omega
theorem ydn_lt {n : Nat} {T : yG} (h : yPo n T) {q p : Nat} (e : T q p) : ydn n T q < ydn n T p := yct_slt (j := q) (fun k _ hk => h.2.2 _ _ _ hk e) (h.1 _ _ e).1 e (h.2.1 q)
theorem ydn_n {n : Nat} {T : yG} (h : yPo n T) {p : Nat} (hp : p < n) : ydn n T p < n := by
  have h1 := yct_slt (P := fun q => T q p) (Q := fun _ => True) (j := p) (n := n) (fun _ _ _ => trivial) hp trivial (h.2.1 p)
  have h2 := yct_le (fun _ => True) n
  have h3 : ydn n T p = yct (fun q => T q p) n := rfl
  omega
def ymx (f : Nat → Nat) : Nat → Nat
  | 0 => 0
  | k + 1 => max (ymx f k) (f k)
theorem ymx_s (f : Nat → Nat) (k : Nat) : ymx f (k + 1) = max (ymx f k) (f k) := rfl
theorem ymx_c {f g : Nat → Nat} : ∀ {n : Nat}, (∀ k, k < n → f k = g k) → ymx f n = ymx g n
  | 0, _ => rfl
  | n + 1, h => by rw [ymx_s, ymx_s, ymx_c (fun k hk => h k (Nat.lt_succ_of_lt hk)), h n (Nat.lt_succ_self n)]
theorem ymx_ge {f : Nat → Nat} {j : Nat} : ∀ {n : Nat}, j < n → f j ≤ ymx f n
  | 0, h => absurd h (Nat.not_lt_zero j)
  | n + 1, h => by
    rw [ymx_s]
    by_cases e : j = n
    · subst e; omega
    · have := ymx_ge (f := f) (j := j) (n := n) (by omega); omega
theorem ymx_at {f : Nat → Nat} : ∀ {n : Nat}, ymx f n = 0 ∨ ∃ j, j < n ∧ ymx f n = f j
  | 0 => Or.inl rfl
  | n + 1 => by
    rw [ymx_s]
    rcases Nat.le_total (ymx f n) (f n) with h | h
    · exact Or.inr ⟨n, Nat.lt_succ_self n, by omega⟩
    · rcases ymx_at (f := f) (n := n) with e | ⟨j, j1, j2⟩
      · exact Or.inl (by omega)
      · exact Or.inr ⟨j, by omega, by omega⟩
noncomputable def ylv (n : Nat) (T : yG) : Nat → Nat → Nat
  | 0, _ => 0
  | k + 1, p => ymx (fun q => yif (T q p) (ylv n T k q + 1) 0) n
theorem ylv_s (n : Nat) (T : yG) (k p : Nat) : ylv n T (k + 1) p = ymx (fun q => yif (T q p) (ylv n T k q + 1) 0) n := rfl
theorem ylv_st {n : Nat} {T : yG} (h : yPo n T) : ∀ (d p j k : Nat), ydn n T p ≤ d → ydn n T p ≤ j → ydn n T p ≤ k → ylv n T j p = ylv n T k p := by
  intro d
  induction d with
  | zero =>
    intro p j k h1 _ _
    have hn : ∀ q, ¬ T q p := fun q e => by have := ydn_lt h e; omega
    have z : ∀ j, ylv n T j p = 0 := by
      intro j
      cases j with
      | zero => rfl
      | succ j =>
        rw [ylv_s]
        rcases ymx_at (f := fun q => yif (T q p) (ylv n T j q + 1) 0) (n := n) with e | ⟨q, _, e⟩
        · exact e
        · rw [e, yif_f (hn q)]
    rw [z j, z k]
  | succ d ih =>
    intro p j k h1 h2 h3
    rcases Nat.eq_zero_or_pos (ydn n T p) with e | e
    · exact ih p j k (by omega) h2 h3
    · cases j with
      | zero => omega
      | succ j =>
        cases k with
        | zero => omega
        | succ k =>
          rw [ylv_s, ylv_s]
          apply ymx_c
          intro q _
          by_cases hq : T q p
          · have := ydn_lt h hq
            rw [yif_t hq, yif_t hq, ih q j k (by omega) (by omega) (by omega)]
          · rw [yif_f hq, yif_f hq]
/-- LEVEL -/
noncomputable def ylev (n : Nat) (T : yG) (p : Nat) : Nat := ylv n T n p
theorem ylev_eq {n : Nat} {T : yG} (h : yPo n T) (p : Nat) : ylev n T p = ymx (fun q => yif (T q p) (ylev n T q + 1) 0) n := by
  have b : ydn n T p ≤ n := yct_le _ n
  show ylv n T n p = _
  rw [ylv_st h n p n (n + 1) b b (by omega)]
  rfl
theorem ylev_ge {n : Nat} {T : yG} (h : yPo n T) {q p : Nat} (e : T q p) : ylev n T q + 1 ≤ ylev n T p := by
  rw [ylev_eq h p]
  have := ymx_ge (f := fun q => yif (T q p) (ylev n T q + 1) 0) (h.1 _ _ e).1
  rw [yif_t e] at this
  exact this
theorem ylev_at {n : Nat} {T : yG} (h : yPo n T) (p : Nat) : ylev n T p = 0 ∨ ∃ q, T q p ∧ ylev n T p = ylev n T q + 1 := by
  have e := ylev_eq h p
  rcases ymx_at (f := fun q => yif (T q p) (ylev n T q + 1) 0) (n := n) with e1 | ⟨q, _, e1⟩
  · exact Or.inl (e.trans e1)
  · by_cases hq : T q p
    · rw [yif_t hq] at e1
      exact Or.inr ⟨q, hq, e.trans e1⟩
    · rw [yif_f hq] at e1
      exact Or.inl (e.trans e1)
theorem ylev_dn {n : Nat} {T : yG} (h : yPo n T) : ∀ (d p : Nat), ydn n T p ≤ d → ylev n T p ≤ ydn n T p := by
  intro d
  induction d with
  | zero =>
    intro p hp
    rcases ylev_at h p with e | ⟨q, hq, _⟩
    · omega
    · have := ydn_lt h hq; omega
  | succ d ih =>
    intro p hp
    rcases ylev_at h p with e | ⟨q, hq, e⟩
    · omega
    · have := ydn_lt h hq
      have := ih q (by omega)
      omega
theorem ylev_le {n : Nat} {T : yG} (h : yPo n T) (p : Nat) : ylev n T p ≤ n := Nat.le_trans (ylev_dn h _ p (Nat.le_refl _)) (yct_le _ n)
theorem ylev_n {n : Nat} {T : yG} (h : yPo n T) {p : Nat} (hp : p < n) : ylev n T p < n := Nat.lt_of_le_of_lt (ylev_dn h _ p (Nat.le_refl _)) (ydn_n h hp)
/-! sets as numbers below 2^n -/
noncomputable def ysz (n S : Nat) : Nat := yct (fun a => yb S a) n
theorem ysz_add {n S p : Nat} (hp : p < n) (hn : ¬ yb S p) : ysz n (S ||| 2 ^ p) = ysz n S + 1 := by
  have key : ∀ k, yct (fun a => yb (S ||| 2 ^ p) a) k = yct (fun a => yb S a) k + yif (p < k) 1 0 := by
    intro k
    induction k with
    | zero => rw [yif_f (Nat.not_lt_zero p)]; rfl
    | succ k ih =>
      rw [yct_s, yct_s, ih]
      have e : yb (S ||| 2 ^ p) k ↔ yb S k ∨ k = p := by rw [yb_or, yb_pw]
      by_cases h : k = p
      · subst h
        rw [yif_f (Nat.lt_irrefl k), yif_f hn, yif_t (e.mpr (Or.inr rfl)), yif_t (Nat.lt_succ_self k)]
      · rw [yif_c (e.trans ⟨fun h1 => h1.elim id fun h2 => absurd h2 h, Or.inl⟩), yif_c (p := p < k + 1) (q := p < k) (by omega)]
        omega
  have := key n
  rw [yif_t hp] at this
  exact this
theorem ysz_n {n S : Nat} (h : ysz n S = n) : ∀ p, p < n → yb S p := by
  intro p hp
  refine Classical.byContradiction fun hn => ?_
  have h1 := ysz_add hp hn
  have h2 : ysz n (S ||| 2 ^ p) ≤ n := yct_le _ n
  omega
theorem ysz_le (n S : Nat) : ysz n S ≤ n := yct_le _ n
theorem yall_b {n a : Nat} : yb (2 ^ n - 1) a ↔ a < n := by
  unfold yb
  rw [Nat.testBit_two_pow_sub_one, decide_eq_true_iff]
theorem yor2_lt {n S p : Nat} (hS : S < 2 ^ n) (hp : p < n) : S ||| 2 ^ p < 2 ^ n := Nat.or_lt_two_pow hS (Nat.pow_lt_pow_right (by decide) hp)
theorem yor2_gt {S p : Nat} (h : ¬ yb S p) : S < S ||| 2 ^ p := ysb_lt (fun a ha => yb_or.mpr (Or.inl ha)) (yb_or.mpr (Or.inr (yb_pw.mpr rfl))) h
def ynx (T : yG) (S p : Nat) : Prop := ¬ yb S p ∧ ∀ q, T q p → yb S q
noncomputable def yWe (n : Nat) (T : yG) : Nat → Nat → Nat
  | 0, _ => 1
  | k + 1, S => ysm (fun p => yif (ynx T S p) (yWe n T k (S ||| 2 ^ p)) 0) n
/-- in how many ways the others go behind S -/
noncomputable def yW (n : Nat) (T : yG) (S : Nat) : Nat := yWe n T (n - ysz n S) S
theorem yW_all {n : Nat} {T : yG} : yW n T (2 ^ n - 1) = 1 := by
  unfold yW
  have : ysz n (2 ^ n - 1) = n := by
    have key : ∀ k, k ≤ n → yct (fun a => yb (2 ^ n - 1) a) k = k := by
      intro k
      induction k with
      | zero => intro _; rfl
      | succ k ih => intro h; rw [yct_s, ih (by omega), yif_t (yall_b.mpr (by omega))]
    exact key n (Nat.le_refl n)
  rw [this, Nat.sub_self]
  rfl
theorem yW_s {n : Nat} {T : yG} {S : Nat} (hS : S < 2 ^ n) (hn : S ≠ 2 ^ n - 1) : yW n T S = ysm (fun p => yif (ynx T S p) (yW n T (S ||| 2 ^ p)) 0) n := by
  have h1 := ysz_le n S
  have h2 : ysz n S ≠ n := by
    intro e
    apply hn
    apply ytb_ext
    intro i
    exact ⟨fun h => yall_b.mpr (ytb_of hS h), fun h => ysz_n e i (yall_b.mp h)⟩
  have e : yW n T S = yWe n T (n - ysz n S) S := rfl
  rw [e, show n - ysz n S = (n - ysz n S - 1) + 1 by omega]
  show ysm _ n = _
  apply ysm_c
  intro p hp
  by_cases h : ynx T S p
  · rw [yif_t h, yif_t h]
    unfold yW
    rw [ysz_add hp h.1, show n - (ysz n S + 1) = n - ysz n S - 1 by omega]
  · rw [yif_f h, yif_f h]
theorem ysm_le {f : Nat → Nat} {c : Nat} : ∀ {n : Nat}, (∀ k, k < n → f k ≤ c) → ysm f n ≤ n * c
  | 0, _ => by rw [Nat.zero_mul]; exact Nat.le_refl _
  | n + 1, h => by
    rw [ysm_s, Nat.succ_mul]
    have h1 := ysm_le (f := f) (c := c) (n := n) fun k hk => h k (by omega)
    have h2 := h n (Nat.lt_succ_self n)
    omega
theorem yWe_le {n : Nat} (hn : n ≤ 8) (T : yG) : ∀ k S, yWe n T k S ≤ 8 ^ k
  | 0, _ => Nat.le_refl _
  | k + 1, S => by
    have h := ysm_le (f := fun p => yif (ynx T S p) (yWe n T k (S ||| 2 ^ p)) 0) (c := 8 ^ k) (n := n) fun p _ => by
      by_cases h : ynx T S p
      · rw [yif_t h]; exact yWe_le hn T k _
      · rw [yif_f h]; exact Nat.zero_le _
    have h2 : n * 8 ^ k ≤ 8 * 8 ^ k := Nat.mul_le_mul_right _ hn
    have h3 : 8 ^ (k + 1) = 8 * 8 ^ k := by rw [Nat.pow_succ, Nat.mul_comm]
    rw [h3]
    exact Nat.le_trans h h2
theorem yW_le {n : Nat} (hn : n ≤ 8) (T : yG) (S : Nat) : yW n T S ≤ 2 ^ 24 := by
  have h1 := yWe_le hn T (n - ysz n S) S
  have h2 : 8 ^ (n - ysz n S) ≤ 8 ^ 8 := Nat.pow_le_pow_right (by decide) (by omega)
  exact Nat.le_trans h1 (Nat.le_trans h2 (by decide))
theorem y2p8 {n : Nat} (hn : n ≤ 8) : 2 ^ n ≤ 256 := (Nat.pow_le_pow_right (by decide : 2 > 0) hn : 2 ^ n ≤ 2 ^ 8)
theorem y2p1 (n : Nat) : 1 ≤ 2 ^ n := Nat.one_le_two_pow
theorem ynd0 {A S : Nat} : ynd A S = 0 ↔ ∀ q, yb A q → yb S q := by
  constructor
  · intro h q hq
    refine Classical.byContradiction fun hn => ?_
    have := yb_nd.mpr ⟨hq, hn⟩
    rw [h] at this
    exact yb_0 this
  · intro h
    apply ytb_ext
    intro i
    have e := yb_nd (A := A) (B := S) (a := i)
    constructor
    · intro h1
      exact absurd (h i (e.mp h1).1) (e.mp h1).2
    · intro h1
      exact absurd h1 yb_0
/-! the class's ranks -/
/-- the ranks without levels and ways -/
def yR0 (n : Nat) (T : yG) (m : xmm) : Prop := m.1 123 6 = nI n ∧ yrw 124 (yro T) m ∧ yrw 125 (yci T) m
theorem s_isNext {n : Nat} {T : yG} (hT : yPo n T) (hn : n ≤ 8) {m : xmm} (h : yR0 n T m) {S p : Nat} (hS : S < 256) (hp : p < 8) : fX5_isNext_123 (nI S) (nI p) m = some (yP (ynx T S p), m) := by
  apply fX5_isNext_123_i
  have b := yci_lt T p
  have b2 := ynd_le (yci T p) S 8 b
  simp (disch := omega) only [yl3, yl4, yl5, yl6, yl7, yl8, yl9, yl10, yl13, yl16, yl20, yl21, yl22, yl23, yl24, yl32, yl40, yl48, yl57, yl59, yl63, yl64, yl97, yl99, yl122, yl255, yl256, yl400, yl1000, yl2000, yl2048, yc0_eq, yc0_eq2, yc0_le, yc0_ge, yc0_lt, yc0_gt, yc0_ad, yc0_da, yc0_sb, yc0_ml, yc0_lm, yc1_eq, yc1_eq2, yc1_le, yc1_ge, yc1_lt, yc1_gt, yc1_ad, yc1_da, yc1_sb, yc1_ml, yc1_lm, yc2_eq, yc2_eq2, yc2_le, yc2_ge, yc2_lt, yc2_gt, yc2_ad, yc2_da, yc2_sb, yc2_ml, yc2_lm, yc31_ge, ymodn, yI_1sl, yc2_dv, yn1_eq, yn1_lt, xgd_t, xlt_e, Option.bind_some, nI_add, pk_mul, pk_sub, pk_div, pk_rem, yI_and, yI_or, yI_xor, yI_nd, yI_nd2, yI_31, yI_shl, nI_leI, nI_ltI, nI_eq, nI_clamp, xinb_t, yP_z, yP_if, s_contains, h.2.2 p hp]
  have e : ynd (yci T p) S = 0 ↔ ∀ q, T q p → yb S q := by
    rw [ynd0]
    exact ⟨fun h1 q hq => h1 q ((yci_b hT hn).mpr hq), fun h1 q hq => h1 q ((yci_b hT hn).mp hq)⟩
  by_cases h1 : yb S p
  · rw [yif_t h1, yP_f (fun e => e.1 h1)]
  · rw [yif_f h1]
    by_cases h2 : ynd (yci T p) S = 0
    · rw [if_pos h2, yP_t ⟨h1, e.mp h2⟩]
    · rw [if_neg h2, yP_f (fun e2 => h2 (e.mpr e2.2))]
theorem s_cw_33 {n : Nat} {T : yG} (hT : yPo n T) (hn : n ≤ 8) {S : Nat} (hS : S < 2 ^ n) : ∀ (d p : Nat), p + d = n → ∀ (m : xmm), yR0 n T m → (∀ S', S < S' → S' < 2 ^ n → m.1 127 S' = nI (yW n T S')) → m.1 127 S = nI (ysm (fun p => yif (ynx T S p) (yW n T (S ||| 2 ^ p)) 0) p) → ∃ m', (∀ {z : xmm}, bX5_countWaysOn_123_20 (nI S + (-1 : Int32)) m' = some z → bX5_countWaysOn_123_33 (nI S) (nI p) m = some z) ∧ m'.1 127 S = nI (ysm (fun p => yif (ynx T S p) (yW n T (S ||| 2 ^ p)) 0) n) ∧ (∀ i, i ≠ S → m'.1 127 i = m.1 127 i) ∧ yfr [127] m m' := by
  have h8 := y2p8 hn
  intro d
  induction d with
  | zero =>
    intro p hp m h0 h1 h2
    have e : p = n := by omega
    subst e
    refine ⟨m, fun {z} hz => ?_, h2, fun _ _ => rfl, yfr_r⟩
    apply bX5_countWaysOn_123_33_i
    simp (disch := omega) only [yl3, yl4, yl5, yl6, yl7, yl8, yl9, yl10, yl13, yl16, yl20, yl21, yl22, yl23, yl24, yl32, yl40, yl48, yl57, yl59, yl63, yl64, yl97, yl99, yl122, yl255, yl256, yl400, yl1000, yl2000, yl2048, yc0_eq, yc0_eq2, yc0_le, yc0_ge, yc0_lt, yc0_gt, yc0_ad, yc0_da, yc0_sb, yc0_ml, yc0_lm, yc1_eq, yc1_eq2, yc1_le, yc1_ge, yc1_lt, yc1_gt, yc1_ad, yc1_da, yc1_sb, yc1_ml, yc1_lm, yc2_eq, yc2_eq2, yc2_le, yc2_ge, yc2_lt, yc2_gt, yc2_ad, yc2_da, yc2_sb, yc2_ml, yc2_lm, yc31_ge, ymodn, yI_1sl, yc2_dv, yn1_eq, yn1_lt, xgd_t, xlt_e, Option.bind_some, nI_add, pk_mul, pk_sub, pk_div, pk_rem, yI_and, yI_or, yI_xor, yI_nd, yI_nd2, yI_31, yI_shl, nI_leI, nI_ltI, nI_eq, nI_clamp, xinb_t, yP_z, yP_if, h0.1, if_pos]
    exact hz
  | succ d ih =>
    intro p hp m h0 h1 h2
    have hnx := s_isNext hT hn h0 (S := S) (p := p) (by omega) (by omega)
    by_cases hx : ynx T S p
    · have hlt := yor2_lt hS (by omega : p < n)
      have hgt := yor2_gt hx.1
      obtain ⟨m', e1, e2, e3, e4⟩ := ih (p + 1) (by omega) (xwi m 127 S (nI (ysm (fun p => yif (ynx T S p) (yW n T (S ||| 2 ^ p)) 0) p + yW n T (S ||| 2 ^ p)))) ⟨by rw [xwi_k (by decide)]; exact h0.1, fun q hq => by rw [xwi_k (by decide)]; exact h0.2.1 q hq, fun q hq => by rw [xwi_k (by decide)]; exact h0.2.2 q hq⟩ (fun S' q1 q2 => by rw [xwi_i (by omega)]; exact h1 S' q1 q2) (by rw [xwi_e, ysm_s, yif_t hx])
      refine ⟨m', fun {z} hz => ?_, e2, fun i hi => by rw [e3 i hi, xwi_i hi], yfr_t (yfr_w yfr_r (by decide)) e4⟩
      apply bX5_countWaysOn_123_33_i
      simp (disch := omega) only [yl3, yl4, yl5, yl6, yl7, yl8, yl9, yl10, yl13, yl16, yl20, yl21, yl22, yl23, yl24, yl32, yl40, yl48, yl57, yl59, yl63, yl64, yl97, yl99, yl122, yl255, yl256, yl400, yl1000, yl2000, yl2048, yc0_eq, yc0_eq2, yc0_le, yc0_ge, yc0_lt, yc0_gt, yc0_ad, yc0_da, yc0_sb, yc0_ml, yc0_lm, yc1_eq, yc1_eq2, yc1_le, yc1_ge, yc1_lt, yc1_gt, yc1_ad, yc1_da, yc1_sb, yc1_ml, yc1_lm, yc2_eq, yc2_eq2, yc2_le, yc2_ge, yc2_lt, yc2_gt, yc2_ad, yc2_da, yc2_sb, yc2_ml, yc2_lm, yc31_ge, ymodn, yI_1sl, yc2_dv, yn1_eq, yn1_lt, xgd_t, xlt_e, Option.bind_some, nI_add, pk_mul, pk_sub, pk_div, pk_rem, yI_and, yI_or, yI_xor, yI_nd, yI_nd2, yI_31, yI_shl, nI_leI, nI_ltI, nI_eq, nI_clamp, xinb_t, yP_z, yP_if, h0.1, if_neg, hnx, yif_t hx, h2, h1 _ hgt hlt]
      exact e1 hz
    · obtain ⟨m', e1, e2, e3, e4⟩ := ih (p + 1) (by omega) m h0 h1 (by rw [ysm_s, yif_f hx, Nat.add_zero]; exact h2)
      refine ⟨m', fun {z} hz => ?_, e2, e3, e4⟩
      apply bX5_countWaysOn_123_33_i
      simp (disch := omega) only [yl3, yl4, yl5, yl6, yl7, yl8, yl9, yl10, yl13, yl16, yl20, yl21, yl22, yl23, yl24, yl32, yl40, yl48, yl57, yl59, yl63, yl64, yl97, yl99, yl122, yl255, yl256, yl400, yl1000, yl2000, yl2048, yc0_eq, yc0_eq2, yc0_le, yc0_ge, yc0_lt, yc0_gt, yc0_ad, yc0_da, yc0_sb, yc0_ml, yc0_lm, yc1_eq, yc1_eq2, yc1_le, yc1_ge, yc1_lt, yc1_gt, yc1_ad, yc1_da, yc1_sb, yc1_ml, yc1_lm, yc2_eq, yc2_eq2, yc2_le, yc2_ge, yc2_lt, yc2_gt, yc2_ad, yc2_da, yc2_sb, yc2_ml, yc2_lm, yc31_ge, ymodn, yI_1sl, yc2_dv, yn1_eq, yn1_lt, xgd_t, xlt_e, Option.bind_some, nI_add, pk_mul, pk_sub, pk_div, pk_rem, yI_and, yI_or, yI_xor, yI_nd, yI_nd2, yI_31, yI_shl, nI_leI, nI_ltI, nI_eq, nI_clamp, xinb_t, yP_z, yP_if, h0.1, if_neg, hnx, yif_f hx]
      exact e1 hz
theorem s_cw_20 {n : Nat} {T : yG} (hT : yPo n T) (hn : n ≤ 8) : ∀ (k : Nat) (m : xmm), k < 2 ^ n → yR0 n T m → (∀ S', k ≤ S' → S' < 2 ^ n → m.1 127 S' = nI (yW n T S')) → ∃ m', bX5_countWaysOn_123_20 (nI k - 1) m = some m' ∧ (∀ S', S' < 2 ^ n → m'.1 127 S' = nI (yW n T S')) ∧ yfr [127] m m' := by
  have h8 := y2p8 hn
  intro k
  induction k with
  | zero =>
    intro m hk h0 h1
    refine ⟨m, ?_, fun S' => h1 S' (Nat.zero_le _), yfr_r⟩
    apply bX5_countWaysOn_123_20_i
    exact if_pos (show nI 0 - 1 < 0 by decide)
  | succ k ih =>
    intro m hk h0 h1
    rw [nI_pred]
    obtain ⟨m1, a1, a2, a3, a4⟩ := s_cw_33 hT hn (S := k) (by omega) n 0 (by omega) (xwi m 127 k 0) ⟨by rw [xwi_k (by decide)]; exact h0.1, fun q hq => by rw [xwi_k (by decide)]; exact h0.2.1 q hq, fun q hq => by rw [xwi_k (by decide)]; exact h0.2.2 q hq⟩ (fun S' q1 q2 => by rw [xwi_i (by omega)]; exact h1 S' (by omega) q2) (by rw [xwi_e]; rfl)
    have ew : m1.1 127 k = nI (yW n T k) := by rw [a2, yW_s (by omega) (by omega)]
    obtain ⟨m', e1, e2, e3⟩ := ih m1 (by omega) ⟨by rw [yfr_1 a4 123 6 (by decide), xwi_k (by decide)]; exact h0.1, fun q hq => by rw [yfr_1 a4 124 q (by decide), xwi_k (by decide)]; exact h0.2.1 q hq, fun q hq => by rw [yfr_1 a4 125 q (by decide), xwi_k (by decide)]; exact h0.2.2 q hq⟩ (fun S' q1 q2 => by
      by_cases e : S' = k
      · subst e; exact ew
      · rw [a3 S' e, xwi_i e]; exact h1 S' (by omega) q2)
    refine ⟨m', ?_, e2, yfr_t (yfr_t (yfr_w yfr_r (by decide)) a4) e3⟩
    apply bX5_countWaysOn_123_20_i
    simp (disch := omega) only [yl3, yl4, yl5, yl6, yl7, yl8, yl9, yl10, yl13, yl16, yl20, yl21, yl22, yl23, yl24, yl32, yl40, yl48, yl57, yl59, yl63, yl64, yl97, yl99, yl122, yl255, yl256, yl400, yl1000, yl2000, yl2048, yc0_eq, yc0_eq2, yc0_le, yc0_ge, yc0_lt, yc0_gt, yc0_ad, yc0_da, yc0_sb, yc0_ml, yc0_lm, yc1_eq, yc1_eq2, yc1_le, yc1_ge, yc1_lt, yc1_gt, yc1_ad, yc1_da, yc1_sb, yc1_ml, yc1_lm, yc2_eq, yc2_eq2, yc2_le, yc2_ge, yc2_lt, yc2_gt, yc2_ad, yc2_da, yc2_sb, yc2_ml, yc2_lm, yc31_ge, ymodn, yI_1sl, yc2_dv, yn1_eq, yn1_lt, xgd_t, xlt_e, Option.bind_some, nI_add, pk_mul, pk_sub, pk_div, pk_rem, yI_and, yI_or, yI_xor, yI_nd, yI_nd2, yI_31, yI_shl, nI_leI, nI_ltI, nI_eq, nI_clamp, xinb_t, yP_z, yP_if, if_neg]
    apply a1
    have : nI k + (-1 : Int32) = nI k - 1 := by rw [Int32.sub_eq_add_neg]
    rw [this]
    exact e1
theorem s_countWaysOn {n : Nat} {T : yG} (hT : yPo n T) (hn : n ≤ 8) {m : xmm} (h0 : yR0 n T m) : ∃ m', fX5_countWaysOn_123 m = some m' ∧ (∀ S', S' < 2 ^ n → m'.1 127 S' = nI (yW n T S')) ∧ yfr [127] m m' := by
  have h8 := y2p8 hn
  have h1 := y2p1 n
  obtain ⟨m', e1, e2, e3⟩ := s_cw_20 hT hn (2 ^ n - 1) (xwi m 127 (2 ^ n - 1) 1) (by omega) ⟨by rw [xwi_k (by decide)]; exact h0.1, fun q hq => by rw [xwi_k (by decide)]; exact h0.2.1 q hq, fun q hq => by rw [xwi_k (by decide)]; exact h0.2.2 q hq⟩ (fun S' q1 q2 => by
    have : S' = 2 ^ n - 1 := by omega
    subst this
    rw [xwi_e, yW_all]; rfl)
  refine ⟨m', ?_, e2, yfr_t (yfr_w yfr_r (by decide)) e3⟩
  apply fX5_countWaysOn_123_i
  simp (disch := omega) only [h0.1, yI_31, yI_1sl, yc1_sb, xinb_t, xgd_t, xlt_e, nI_clamp]
  exact e1
