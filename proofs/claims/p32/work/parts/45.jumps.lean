/-! the fewest JUMPS -/
def ymn (f : Nat → Nat) : Nat → Nat
  | 0 => 1000
  | k + 1 => min (ymn f k) (f k)
theorem ymn_s (f : Nat → Nat) (k : Nat) : ymn f (k + 1) = min (ymn f k) (f k) := rfl
theorem ymn_c {f g : Nat → Nat} : ∀ {n : Nat}, (∀ k, k < n → f k = g k) → ymn f n = ymn g n
  | 0, _ => rfl
  | n + 1, h => by rw [ymn_s, ymn_s, ymn_c (fun k hk => h k (Nat.lt_succ_of_lt hk)), h n (Nat.lt_succ_self n)]
theorem ymn_le (f : Nat → Nat) : ∀ n, ymn f n ≤ 1000
  | 0 => Nat.le_refl _
  | n + 1 => by have := ymn_le f n; rw [ymn_s]; omega
theorem ymn_ge {f : Nat → Nat} {j : Nat} : ∀ {n : Nat}, j < n → ymn f n ≤ f j
  | 0, h => absurd h (Nat.not_lt_zero j)
  | n + 1, h => by
    rw [ymn_s]
    by_cases e : j = n
    · subst e; omega
    · have := ymn_ge (f := f) (j := j) (n := n) (by omega); omega
theorem ymn_at {f : Nat → Nat} : ∀ {n : Nat}, ymn f n < 1000 → ∃ j, j < n ∧ ymn f n = f j
  | 0, h => absurd h (show ¬ (1000 < 1000) by decide)
  | n + 1, h => by
    rw [ymn_s] at h ⊢
    rcases Nat.le_total (ymn f n) (f n) with e | e
    · obtain ⟨j, j1, j2⟩ := ymn_at (f := f) (n := n) (by omega)
      exact ⟨j, by omega, by omega⟩
    · exact ⟨n, Nat.lt_succ_self n, by omega⟩
/-- what an order that ends with q comes to with p behind -/
noncomputable def yjc (T : yG) (b q p : Nat) : Nat := if b < 1000 then b + yif (T q p) 0 1 else 1000
def yjok (T : yG) (S p : Nat) : Prop := yb S p ∧ ∀ q, T q p → yb (ynd S (2 ^ p)) q
noncomputable def yJe (n : Nat) (T : yG) : Nat → Nat → Nat → Nat
  | 0, _, _ => 1000
  | k + 1, S, p => yif (yjok T S p) (if ynd S (2 ^ p) = 0 then 0 else ymn (fun q => yjc T (yJe n T k (ynd S (2 ^ p)) q) q p) n) 1000
noncomputable def yJ (n : Nat) (T : yG) (S p : Nat) : Nat := yJe n T (ysz n S) S p
theorem yJ_eq {n : Nat} {T : yG} {S p : Nat} (hS : S < 2 ^ n) : yJ n T S p = yif (yjok T S p) (if ynd S (2 ^ p) = 0 then 0 else ymn (fun q => yjc T (yJ n T (ynd S (2 ^ p)) q) q p) n) 1000 := by
  by_cases h : yjok T S p
  · have h1 := ysz_rm (ytb_of hS h.1) h.1
    rw [yif_t h]
    have e : yJ n T S p = yJe n T (ysz n S) S p := rfl
    rw [e, h1]
    show yif (yjok T S p) _ 1000 = _
    rw [yif_t h]
    rfl
  · rw [yif_f h]
    unfold yJ
    cases ysz n S with
    | zero => rfl
    | succ k => exact yif_f h
theorem yJe_le {n : Nat} {T : yG} : ∀ k S p, yJe n T k S p ≤ 1000 ∧ (yJe n T k S p < 1000 → yJe n T k S p < k)
  | 0, _, _ => ⟨Nat.le_refl _, fun h => absurd h (show ¬ (1000 < 1000) by decide)⟩
  | k + 1, S, p => by
    show yif (yjok T S p) _ 1000 ≤ 1000 ∧ (yif (yjok T S p) _ 1000 < 1000 → yif (yjok T S p) _ 1000 < k + 1)
    by_cases h : yjok T S p
    · rw [yif_t h]
      by_cases h2 : ynd S (2 ^ p) = 0
      · rw [if_pos h2]; exact ⟨Nat.zero_le _, fun _ => Nat.succ_pos k⟩
      · rw [if_neg h2]
        refine ⟨ymn_le _ n, fun h3 => ?_⟩
        obtain ⟨j, j1, j2⟩ := ymn_at h3
        rw [j2] at h3 ⊢
        have i := yJe_le (n := n) (T := T) k (ynd S (2 ^ p)) j
        unfold yjc at h3 ⊢
        by_cases h4 : yJe n T k (ynd S (2 ^ p)) j < 1000
        · rw [if_pos h4]
          have := i.2 h4
          by_cases h5 : T j p
          · rw [yif_t h5]; omega
          · rw [yif_f h5]; omega
        · rw [if_neg h4] at h3
          exact absurd h3 (show ¬ (1000 < 1000) by decide)
    · rw [yif_f h]
      exact ⟨Nat.le_refl _, fun h => absurd h (show ¬ (1000 < 1000) by decide)⟩
theorem yJ_le {n : Nat} (hn : n ≤ 8) (T : yG) (S p : Nat) : yJ n T S p ≤ 1000 ∧ (yJ n T S p < 1000 → yJ n T S p < 8) := by
  have h := yJe_le (n := n) (T := T) (ysz n S) S p
  have h2 := ysz_le n S
  exact ⟨h.1, fun e => by have := h.2 e; unfold yJ; omega⟩
theorem yJ_in {n : Nat} {T : yG} {S p : Nat} (hS : S < 2 ^ n) (h : yJ n T S p < 1000) : yjok T S p := by
  refine Classical.byContradiction fun hn => ?_
  rw [yJ_eq hS, yif_f hn] at h
  exact absurd h (show ¬ (1000 < 1000) by decide)
theorem yjc_le {n : Nat} (hn : n ≤ 8) (T : yG) (S q p : Nat) : yjc T (yJ n T S q) q p ≤ 1000 := by
  unfold yjc
  by_cases h : yJ n T S q < 1000
  · rw [if_pos h]
    have := (yJ_le hn T S q).2 h
    by_cases h5 : T q p
    · rw [yif_t h5]; omega
    · rw [yif_f h5]; omega
  · rw [if_neg h]; exact Nat.le_refl _
theorem yJ_dw {n : Nat} {T : yG} (hT : yPo n T) : ∀ (S : Nat), S < 2 ^ n → ∀ p, yJ n T S p < 1000 → ydw T S := by
  intro S
  induction S using Nat.strongRecOn with
  | ind S ih =>
    intro hS p h
    have hok := yJ_in hS h
    have hlt : ynd S (2 ^ p) < S := ysb_lt (fun a ha => (yb_nd.mp ha).1) hok.1 (fun e => (yb_nd.mp e).2 (yb_pw.mpr rfl))
    have hd : ydw T (ynd S (2 ^ p)) := by
      by_cases h2 : ynd S (2 ^ p) = 0
      · rw [h2]; exact ydw_0 T
      · rw [yJ_eq hS, yif_t hok, if_neg h2] at h
        obtain ⟨j, j1, j2⟩ := ymn_at h
        rw [j2] at h
        refine ih _ hlt (Nat.lt_trans hlt hS) j ?_
        unfold yjc at h
        by_cases h3 : yJ n T (ynd S (2 ^ p)) j < 1000
        · exact h3
        · rw [if_neg h3] at h
          exact absurd h (show ¬ (1000 < 1000) by decide)
    intro q r hq hr
    by_cases e : r = p
    · subst e
      exact (yb_nd.mp (hok.2 q hq)).1
    · exact (yb_nd.mp (hd q r hq (yb_nd.mpr ⟨hr, fun e2 => e (yb_pw.mp e2)⟩))).1
/-- an order is there -/
theorem yJ_ex {n : Nat} {T : yG} (hT : yPo n T) (hn : n ≤ 8) : ∀ k, k < n → yJ n T (yq n T 0 (k + 1)).1 (ypk n T 0 k) < 1000 := by
  have h0 := yW_pos hT (ydw_0 T)
  intro k
  induction k with
  | zero =>
    intro hk
    obtain ⟨p1, p2, p3, p4⟩ := ypk_ok (n := n) (T := T) (i := 0) (by omega) hk
    have hS := (yq_ok (n := n) (T := T) (i := 0) (by omega) 1 (by omega)).1
    rw [yq_s] at hS ⊢
    rw [yJ_eq hS]
    have hz : ynd ((yq n T 0 0).1 ||| 2 ^ (ypk n T 0 0)) (2 ^ (ypk n T 0 0)) = 0 := by
      rw [ynd0]
      intro q hq
      rcases yb_or.mp hq with e | e
      · exact absurd e yb_0
      · exact e
    have hok : yjok T ((yq n T 0 0).1 ||| 2 ^ (ypk n T 0 0)) (ypk n T 0 0) := ⟨yb_or.mpr (Or.inr (yb_pw.mpr rfl)), fun q hq => absurd (p2.2 q hq) yb_0⟩
    rw [yif_t hok, if_pos hz]
    decide
  | succ k ih =>
    intro hk
    have i := ih (by omega)
    obtain ⟨p1, p2, p3, p4⟩ := ypk_ok (n := n) (T := T) (i := 0) (by omega) hk
    have hS := (yq_ok (n := n) (T := T) (i := 0) (by omega) (k + 2) (by omega)).1
    have er : ynd (yq n T 0 (k + 2)).1 (2 ^ (ypk n T 0 (k + 1))) = (yq n T 0 (k + 1)).1 := by
      rw [yq_s]
      apply ytb_ext
      intro j
      have e := yb_nd (A := (yq n T 0 (k + 1)).1 ||| 2 ^ (ypk n T 0 (k + 1))) (B := 2 ^ (ypk n T 0 (k + 1))) (a := j)
      rw [yb_or, yb_pw] at e
      constructor
      · intro h
        have := e.mp h
        exact this.1.elim id fun h2 => absurd h2 this.2
      · intro h
        refine e.mpr ⟨Or.inl h, fun h2 => ?_⟩
        subst h2
        exact p2.1 h
    have hok : yjok T (yq n T 0 (k + 2)).1 (ypk n T 0 (k + 1)) := by
      refine ⟨by rw [yq_s]; exact yb_or.mpr (Or.inr (yb_pw.mpr rfl)), fun q hq => ?_⟩
      rw [er]
      exact p2.2 q hq
    rw [yJ_eq hS, yif_t hok, er]
    have hne : ¬ (yq n T 0 (k + 1)).1 = 0 := by
      intro e
      have := (yq_b (n := n) (T := T) (i := 0) (k + 1) (ypk n T 0 k)).mpr ⟨k, by omega, rfl⟩
      rw [e] at this
      exact yb_0 this
    rw [if_neg hne]
    have b := (ypk_ok (n := n) (T := T) (i := 0) (by omega) (show k < n by omega)).1
    have := ymn_ge (f := fun q => yjc T (yJ n T (yq n T 0 (k + 1)).1 q) q (ypk n T 0 (k + 1))) b
    have h8 := (yJ_le hn T (yq n T 0 (k + 1)).1 (ypk n T 0 k)).2 i
    have hc : yjc T (yJ n T (yq n T 0 (k + 1)).1 (ypk n T 0 k)) (ypk n T 0 k) (ypk n T 0 (k + 1)) ≤ 8 := by
      unfold yjc
      rw [if_pos i]
      by_cases h5 : T (ypk n T 0 k) (ypk n T 0 (k + 1))
      · rw [yif_t h5]; omega
      · rw [yif_f h5]; omega
    omega
noncomputable def yJF (n : Nat) (T : yG) : Nat := if n = 0 then 0 else ymn (fun p => yJ n T (2 ^ n - 1) p) n
theorem yJF_lt {n : Nat} {T : yG} (hT : yPo n T) (hn : n ≤ 8) (h : n ≠ 0) : ymn (fun p => yJ n T (2 ^ n - 1) p) n < 99 := by
  have h0 := yW_pos hT (ydw_0 T)
  have h1 := yJ_ex hT hn (n - 1) (by omega)
  rw [show n - 1 + 1 = n by omega] at h1
  have e : (yq n T 0 n).1 = 2 ^ n - 1 := by
    have := yq_ok (n := n) (T := T) (i := 0) (by omega) n (Nat.le_refl n)
    apply ytb_ext
    intro i
    exact ⟨fun e => yall_b.mpr (ytb_of this.1 e), fun e => ysz_n this.2.1 i (yall_b.mp e)⟩
  rw [e] at h1
  have h8 := (yJ_le hn T _ _).2 h1
  have := ymn_ge (f := fun p => yJ n T (2 ^ n - 1) p) (ypk_ok (n := n) (T := T) (i := 0) (by omega) (show n - 1 < n by omega)).1
  omega
/-! the class: each set hands on what it has -/
/-- the cells when the sets below s are through -/
noncomputable def yJs (n : Nat) (T : yG) (s D p : Nat) : Nat := yif (yjok T D p ∧ (ynd D (2 ^ p) = 0 ∨ ynd D (2 ^ p) < s)) (yJ n T D p) 1000
theorem ynx_ok {n : Nat} {T : yG} {S p : Nat} (hx : ynx T S p) : ynd (S ||| 2 ^ p) (2 ^ p) = S ∧ yjok T (S ||| 2 ^ p) p := by
  have e : ynd (S ||| 2 ^ p) (2 ^ p) = S := by
    apply ytb_ext
    intro j
    have e := yb_nd (A := S ||| 2 ^ p) (B := 2 ^ p) (a := j)
    rw [yb_or, yb_pw] at e
    constructor
    · intro h
      have := e.mp h
      exact this.1.elim id fun h2 => absurd h2 this.2
    · intro h
      refine e.mpr ⟨Or.inl h, fun h2 => ?_⟩
      subst h2
      exact hx.1 h
  exact ⟨e, yb_or.mpr (Or.inr (yb_pw.mpr rfl)), fun q hq => by rw [e]; exact hx.2 q hq⟩
theorem ynx_un {T : yG} {D p : Nat} (h : yjok T D p) : ynx T (ynd D (2 ^ p)) p ∧ ynd D (2 ^ p) ||| 2 ^ p = D := by
  refine ⟨⟨fun e => (yb_nd.mp e).2 (yb_pw.mpr rfl), h.2⟩, ?_⟩
  apply ytb_ext
  intro i
  have e := yb_or (A := ynd D (2 ^ p)) (B := 2 ^ p) (a := i)
  rw [yb_nd, yb_pw] at e
  constructor
  · intro hi
    rcases e.mp hi with h' | h'
    · exact h'.1
    · subst h'; exact h.1
  · intro hi
    by_cases h' : i = p
    · exact e.mpr (Or.inr h')
    · exact e.mpr (Or.inl ⟨hi, h'⟩)
theorem s_jumpCell (S p : Nat) (m : xmm) : fX5_jumpCell (nI S) (nI p) m = some (nI (S * 8 + p), m) := by
  apply fX5_jumpCell_i
  simp only [yl3, yl4, yl5, yl6, yl7, yl8, yl9, yl10, yl13, yl16, yl20, yl21, yl22, yl23, yl24, yl32, yl40, yl48, yl57, yl59, yl63, yl64, yl97, yl99, yl122, yl255, yl256, yl400, yl1000, yl2000, yl2048, yc0_eq, yc0_eq2, yc0_le, yc0_ge, yc0_lt, yc0_gt, yc0_ad, yc0_da, yc0_sb, yc0_ml, yc0_lm, yc1_eq, yc1_eq2, yc1_le, yc1_ge, yc1_lt, yc1_gt, yc1_ad, yc1_da, yc1_sb, yc1_ml, yc1_lm, yc2_eq, yc2_eq2, yc2_le, yc2_ge, yc2_lt, yc2_gt, yc2_ad, yc2_da, yc2_sb, yc2_ml, yc2_lm, yc31_ge, ymodn, yI_1sl, yc2_dv, yn1_eq, yn1_lt, xgd_t, xlt_e, Option.bind_some, nI_add, pk_mul, pk_sub, pk_div, pk_rem, yI_and, yI_or, yI_xor, yI_nd, yI_nd2, yI_31, yI_shl, nI_leI, nI_ltI, nI_eq, nI_clamp, xinb_t, yP_z, yP_if]
/-- within set S: the first l posts as last, and of the next one the first q posts behind it -/
noncomputable def yJt (n : Nat) (T : yG) (S l q D p : Nat) : Nat := yif (ynx T S p ∧ D = S ||| 2 ^ p ∧ S ≠ 0) (if p < q then ymn (fun w => yjc T (yJ n T S w) w p) (l + 1) else ymn (fun w => yjc T (yJ n T S w) w p) l) (yJs n T S D p)
theorem yJt_le {n : Nat} (hn : n ≤ 8) (T : yG) (S l q D p : Nat) : yJt n T S l q D p ≤ 1000 := by
  unfold yJt
  by_cases h : ynx T S p ∧ D = S ||| 2 ^ p ∧ S ≠ 0
  · rw [yif_t h]
    by_cases e : p < q
    · rw [if_pos e]; exact ymn_le _ _
    · rw [if_neg e]; exact ymn_le _ _
  · rw [yif_f h]
    unfold yJs
    by_cases h2 : yjok T D p ∧ (ynd D (2 ^ p) = 0 ∨ ynd D (2 ^ p) < S)
    · rw [yif_t h2]; exact (yJ_le hn T D p).1
    · rw [yif_f h2]; exact Nat.le_refl _
theorem s_jo_24 {n : Nat} {T : yG} (hT : yPo n T) (hn : n ≤ 8) {S : Nat} (hS : S < 2 ^ n) (h0 : S ≠ 0) {l : Nat} (hl : l < n) : ∀ (d q : Nat), q + d = n → ∀ (m : xmm), yR0 n T m → (∀ D p, D < 2 ^ n → p < n → m.1 129 (D * 8 + p) = nI (yJt n T S l q D p)) → ∃ m', (∀ {z : xmm}, bX5_jumpOn_123_2 (nI S) (nI (l + 1)) m' = some z → bX5_jumpOn_123_24 (nI S) (nI l) (nI (yJ n T S l)) (nI q) m = some z) ∧ (∀ D p, D < 2 ^ n → p < n → m'.1 129 (D * 8 + p) = nI (yJt n T S (l + 1) 0 D p)) ∧ yfr [129] m m' := by
  have h8 := y2p8 hn
  have hb := yJ_le hn T S l
  intro d
  induction d with
  | zero =>
    intro q hq m h hc
    have e : q = n := by omega
    subst e
    refine ⟨m, fun {z} hz => ?_, fun D p hD hp => ?_, yfr_r⟩
    · apply bX5_jumpOn_123_24_i
      simp (disch := omega) only [yl3, yl4, yl5, yl6, yl7, yl8, yl9, yl10, yl13, yl16, yl20, yl21, yl22, yl23, yl24, yl32, yl40, yl48, yl57, yl59, yl63, yl64, yl97, yl99, yl122, yl255, yl256, yl400, yl1000, yl2000, yl2048, yc0_eq, yc0_eq2, yc0_le, yc0_ge, yc0_lt, yc0_gt, yc0_ad, yc0_da, yc0_sb, yc0_ml, yc0_lm, yc1_eq, yc1_eq2, yc1_le, yc1_ge, yc1_lt, yc1_gt, yc1_ad, yc1_da, yc1_sb, yc1_ml, yc1_lm, yc2_eq, yc2_eq2, yc2_le, yc2_ge, yc2_lt, yc2_gt, yc2_ad, yc2_da, yc2_sb, yc2_ml, yc2_lm, yc31_ge, ymodn, yI_1sl, yc2_dv, yn1_eq, yn1_lt, xgd_t, xlt_e, Option.bind_some, nI_add, pk_mul, pk_sub, pk_div, pk_rem, yI_and, yI_or, yI_xor, yI_nd, yI_nd2, yI_31, yI_shl, nI_leI, nI_ltI, nI_eq, nI_clamp, xinb_t, yP_z, yP_if, h.1, if_pos]
      exact hz
    · rw [hc D p hD hp]
      congr 1
      unfold yJt
      by_cases h2 : ynx T S p ∧ D = S ||| 2 ^ p ∧ S ≠ 0
      · rw [yif_t h2, yif_t h2, if_pos hp, if_neg (Nat.not_lt_zero p)]
      · rw [yif_f h2, yif_f h2]
  | succ d ih =>
    intro q hq m h hc
    by_cases hun : yJ n T S l < 1000
    · have hb2 := hb.2 hun
      by_cases hx : ynx T S q
      · have hlt := yor2_lt hS (by omega : q < n)
        have hcell := hc _ q hlt (by omega)
        have hcl : yjc T (yJ n T S l) l q = yJ n T S l + yif (T l q) 0 1 := if_pos hun
        have old : yJt n T S l q (S ||| 2 ^ q) q = ymn (fun w => yjc T (yJ n T S w) w q) l := by
          unfold yJt
          rw [yif_t ⟨hx, rfl, h0⟩, if_neg (Nat.lt_irrefl q)]
        rw [old] at hcell
        have hml := ymn_le (fun w => yjc T (yJ n T S w) w q) l
        have fr : yfr [129] m (xwi m 129 ((S ||| 2 ^ q) * 8 + q) (nI (min (ymn (fun w => yjc T (yJ n T S w) w q) l) (yjc T (yJ n T S l) l q)))) := yfr_w yfr_r (by decide)
        obtain ⟨m', e1, e2, e3⟩ := ih (q + 1) (by omega) _ (yR0_f h fr (by decide) (by decide) (by decide)) (fun D p hD hp => by
          by_cases e : D * 8 + p = (S ||| 2 ^ q) * 8 + q
          · have e1 : p = q := by omega
            have e2 : D = S ||| 2 ^ q := by omega
            subst e1; subst e2
            rw [xwi_e]
            unfold yJt
            rw [yif_t ⟨hx, rfl, h0⟩, if_pos (Nat.lt_succ_self p), ymn_s]
          · rw [xwi_i e, hc D p hD hp]
            congr 1
            unfold yJt
            by_cases h2 : ynx T S p ∧ D = S ||| 2 ^ p ∧ S ≠ 0
            · rw [yif_t h2, yif_t h2]
              have hpq : p ≠ q := by
                intro e2
                subst e2
                rw [h2.2.1] at e
                exact e rfl
              by_cases h3 : p < q
              · rw [if_pos h3, if_pos (by omega)]
              · rw [if_neg h3, if_neg (by omega)]
            · rw [yif_f h2, yif_f h2])
        refine ⟨m', fun {z} hz => ?_, e2, yfr_t fr e3⟩
        have su := s_isUnder hT hn h (a := l) (b := q) (by omega) (by omega)
        have last : ∀ (P : Prop), yif P 1 0 = yif (T l q) 0 1 → bX5_jumpOn_123_92 (nI S) (nI l) (nI (yJ n T S l)) (nI q) (nI ((S ||| 2 ^ q) * 8 + q)) (nI (ymn (fun w => yjc T (yJ n T S w) w q) l)) (nI (yJ n T S l)) (yP P) m = some z := by
          intro P hP
          apply bX5_jumpOn_123_92_i
          have ep : yP P = nI (yif P 1 0) := by
            by_cases hp : P
            · rw [yP_t hp, yif_t hp]; rfl
            · rw [yP_f hp, yif_f hp]; rfl
          have b1 : yif (T l q) 0 1 ≤ 1 := by
            by_cases h5 : T l q
            · rw [yif_t h5]; omega
            · rw [yif_f h5]; omega
          have emn : (if yJ n T S l + yif (T l q) 0 1 < ymn (fun w => yjc T (yJ n T S w) w q) l then nI (yJ n T S l + yif (T l q) 0 1) else nI (ymn (fun w => yjc T (yJ n T S w) w q) l)) = nI (min (ymn (fun w => yjc T (yJ n T S w) w q) l) (yjc T (yJ n T S l) l q)) := by
            rw [hcl]
            by_cases e : yJ n T S l + yif (T l q) 0 1 < ymn (fun w => yjc T (yJ n T S w) w q) l
            · rw [if_pos e]; congr 1; omega
            · rw [if_neg e]; congr 1; omega
          rw [s_bit, ep, hP]
          simp (disch := omega) only [yl3, yl4, yl5, yl6, yl7, yl8, yl9, yl10, yl13, yl16, yl20, yl21, yl22, yl23, yl24, yl32, yl40, yl48, yl57, yl59, yl63, yl64, yl97, yl99, yl122, yl255, yl256, yl400, yl1000, yl2000, yl2048, yc0_eq, yc0_eq2, yc0_le, yc0_ge, yc0_lt, yc0_gt, yc0_ad, yc0_da, yc0_sb, yc0_ml, yc0_lm, yc1_eq, yc1_eq2, yc1_le, yc1_ge, yc1_lt, yc1_gt, yc1_ad, yc1_da, yc1_sb, yc1_ml, yc1_lm, yc2_eq, yc2_eq2, yc2_le, yc2_ge, yc2_lt, yc2_gt, yc2_ad, yc2_da, yc2_sb, yc2_ml, yc2_lm, yc31_ge, ymodn, yI_1sl, yc2_dv, yn1_eq, yn1_lt, xgd_t, xlt_e, Option.bind_some, nI_add, pk_mul, pk_sub, pk_div, pk_rem, yI_and, yI_or, yI_xor, yI_nd, yI_nd2, yI_31, yI_shl, nI_leI, nI_ltI, nI_eq, nI_clamp, xinb_t, yP_z, yP_if, emn]
          exact e1 hz
        apply bX5_jumpOn_123_24_i
        by_cases hu : T l q
        · have l0 := last False (by rw [yif_f id, yif_t hu])
          rw [yP_f id] at l0
          simp (disch := omega) only [yl3, yl4, yl5, yl6, yl7, yl8, yl9, yl10, yl13, yl16, yl20, yl21, yl22, yl23, yl24, yl32, yl40, yl48, yl57, yl59, yl63, yl64, yl97, yl99, yl122, yl255, yl256, yl400, yl1000, yl2000, yl2048, yc0_eq, yc0_eq2, yc0_le, yc0_ge, yc0_lt, yc0_gt, yc0_ad, yc0_da, yc0_sb, yc0_ml, yc0_lm, yc1_eq, yc1_eq2, yc1_le, yc1_ge, yc1_lt, yc1_gt, yc1_ad, yc1_da, yc1_sb, yc1_ml, yc1_lm, yc2_eq, yc2_eq2, yc2_le, yc2_ge, yc2_lt, yc2_gt, yc2_ad, yc2_da, yc2_sb, yc2_ml, yc2_lm, yc31_ge, ymodn, yI_1sl, yc2_dv, yn1_eq, yn1_lt, xgd_t, xlt_e, Option.bind_some, nI_add, pk_mul, pk_sub, pk_div, pk_rem, yI_and, yI_or, yI_xor, yI_nd, yI_nd2, yI_31, yI_shl, nI_leI, nI_ltI, nI_eq, nI_clamp, xinb_t, yP_z, yP_if, h.1, if_neg, s_isNext hT hn h, yif_t hx, s_jumpCell, su, yif_t hu, hcell]
          exact l0
        · have l1 := last True (by rw [yif_t trivial, yif_f hu])
          rw [yP_t trivial] at l1
          simp (disch := omega) only [yl3, yl4, yl5, yl6, yl7, yl8, yl9, yl10, yl13, yl16, yl20, yl21, yl22, yl23, yl24, yl32, yl40, yl48, yl57, yl59, yl63, yl64, yl97, yl99, yl122, yl255, yl256, yl400, yl1000, yl2000, yl2048, yc0_eq, yc0_eq2, yc0_le, yc0_ge, yc0_lt, yc0_gt, yc0_ad, yc0_da, yc0_sb, yc0_ml, yc0_lm, yc1_eq, yc1_eq2, yc1_le, yc1_ge, yc1_lt, yc1_gt, yc1_ad, yc1_da, yc1_sb, yc1_ml, yc1_lm, yc2_eq, yc2_eq2, yc2_le, yc2_ge, yc2_lt, yc2_gt, yc2_ad, yc2_da, yc2_sb, yc2_ml, yc2_lm, yc31_ge, ymodn, yI_1sl, yc2_dv, yn1_eq, yn1_lt, xgd_t, xlt_e, Option.bind_some, nI_add, pk_mul, pk_sub, pk_div, pk_rem, yI_and, yI_or, yI_xor, yI_nd, yI_nd2, yI_31, yI_shl, nI_leI, nI_ltI, nI_eq, nI_clamp, xinb_t, yP_z, yP_if, h.1, if_neg, s_isNext hT hn h, yif_t hx, s_jumpCell, su, yif_f hu, hcell]
          exact l1
      · obtain ⟨m', e1, e2, e3⟩ := ih (q + 1) (by omega) m h (fun D p hD hp => by
          rw [hc D p hD hp]
          congr 1
          unfold yJt
          by_cases h2 : ynx T S p ∧ D = S ||| 2 ^ p ∧ S ≠ 0
          · rw [yif_t h2, yif_t h2]
            have hpq : p ≠ q := fun e2 => by subst e2; exact hx h2.1
            by_cases h3 : p < q
            · rw [if_pos h3, if_pos (by omega)]
            · rw [if_neg h3, if_neg (by omega)]
          · rw [yif_f h2, yif_f h2])
        refine ⟨m', fun {z} hz => ?_, e2, e3⟩
        apply bX5_jumpOn_123_24_i
        simp (disch := omega) only [yl3, yl4, yl5, yl6, yl7, yl8, yl9, yl10, yl13, yl16, yl20, yl21, yl22, yl23, yl24, yl32, yl40, yl48, yl57, yl59, yl63, yl64, yl97, yl99, yl122, yl255, yl256, yl400, yl1000, yl2000, yl2048, yc0_eq, yc0_eq2, yc0_le, yc0_ge, yc0_lt, yc0_gt, yc0_ad, yc0_da, yc0_sb, yc0_ml, yc0_lm, yc1_eq, yc1_eq2, yc1_le, yc1_ge, yc1_lt, yc1_gt, yc1_ad, yc1_da, yc1_sb, yc1_ml, yc1_lm, yc2_eq, yc2_eq2, yc2_le, yc2_ge, yc2_lt, yc2_gt, yc2_ad, yc2_da, yc2_sb, yc2_ml, yc2_lm, yc31_ge, ymodn, yI_1sl, yc2_dv, yn1_eq, yn1_lt, xgd_t, xlt_e, Option.bind_some, nI_add, pk_mul, pk_sub, pk_div, pk_rem, yI_and, yI_or, yI_xor, yI_nd, yI_nd2, yI_31, yI_shl, nI_leI, nI_ltI, nI_eq, nI_clamp, xinb_t, yP_z, yP_if, h.1, if_neg, s_isNext hT hn h, yif_f hx]
        exact e1 hz
    · have hun2 : yJ n T S l = 1000 := by omega
      refine ⟨m, fun {z} hz => ?_, fun D p hD hp => ?_, yfr_r⟩
      · apply bX5_jumpOn_123_24_i
        simp (disch := omega) only [yl3, yl4, yl5, yl6, yl7, yl8, yl9, yl10, yl13, yl16, yl20, yl21, yl22, yl23, yl24, yl32, yl40, yl48, yl57, yl59, yl63, yl64, yl97, yl99, yl122, yl255, yl256, yl400, yl1000, yl2000, yl2048, yc0_eq, yc0_eq2, yc0_le, yc0_ge, yc0_lt, yc0_gt, yc0_ad, yc0_da, yc0_sb, yc0_ml, yc0_lm, yc1_eq, yc1_eq2, yc1_le, yc1_ge, yc1_lt, yc1_gt, yc1_ad, yc1_da, yc1_sb, yc1_ml, yc1_lm, yc2_eq, yc2_eq2, yc2_le, yc2_ge, yc2_lt, yc2_gt, yc2_ad, yc2_da, yc2_sb, yc2_ml, yc2_lm, yc31_ge, ymodn, yI_1sl, yc2_dv, yn1_eq, yn1_lt, xgd_t, xlt_e, Option.bind_some, nI_add, pk_mul, pk_sub, pk_div, pk_rem, yI_and, yI_or, yI_xor, yI_nd, yI_nd2, yI_31, yI_shl, nI_leI, nI_ltI, nI_eq, nI_clamp, xinb_t, yP_z, yP_if, h.1, if_neg, if_pos]
        exact hz
      · rw [hc D p hD hp]
        congr 1
        unfold yJt
        by_cases h2 : ynx T S p ∧ D = S ||| 2 ^ p ∧ S ≠ 0
        · rw [yif_t h2, yif_t h2, if_neg (Nat.not_lt_zero p), ymn_s]
          have e1 : yjc T (yJ n T S l) l p = 1000 := if_neg hun
          have := ymn_le (fun w => yjc T (yJ n T S w) w p) l
          rw [e1]
          by_cases h3 : p < q
          · rw [if_pos h3]
          · rw [if_neg h3]; omega
        · rw [yif_f h2, yif_f h2]
theorem s_jo_2 {n : Nat} {T : yG} (hT : yPo n T) (hn : n ≤ 8) {S : Nat} (hS : S < 2 ^ n) (h0 : S ≠ 0) : ∀ (d l : Nat), l + d = n → ∀ (m : xmm), yR0 n T m → (∀ D p, D < 2 ^ n → p < n → m.1 129 (D * 8 + p) = nI (yJt n T S l 0 D p)) → (∀ p, p < n → m.1 129 (S * 8 + p) = nI (yJ n T S p)) → ∃ m', bX5_jumpOn_123_2 (nI S) (nI l) m = some m' ∧ (∀ D p, D < 2 ^ n → p < n → m'.1 129 (D * 8 + p) = nI (yJt n T S n 0 D p)) ∧ yfr [129] m m' := by
  have h8 := y2p8 hn
  intro d
  induction d with
  | zero =>
    intro l hl m h hc hs
    have e : l = n := by omega
    subst e
    refine ⟨m, ?_, hc, yfr_r⟩
    apply bX5_jumpOn_123_2_i
    simp (disch := omega) only [yl3, yl4, yl5, yl6, yl7, yl8, yl9, yl10, yl13, yl16, yl20, yl21, yl22, yl23, yl24, yl32, yl40, yl48, yl57, yl59, yl63, yl64, yl97, yl99, yl122, yl255, yl256, yl400, yl1000, yl2000, yl2048, yc0_eq, yc0_eq2, yc0_le, yc0_ge, yc0_lt, yc0_gt, yc0_ad, yc0_da, yc0_sb, yc0_ml, yc0_lm, yc1_eq, yc1_eq2, yc1_le, yc1_ge, yc1_lt, yc1_gt, yc1_ad, yc1_da, yc1_sb, yc1_ml, yc1_lm, yc2_eq, yc2_eq2, yc2_le, yc2_ge, yc2_lt, yc2_gt, yc2_ad, yc2_da, yc2_sb, yc2_ml, yc2_lm, yc31_ge, ymodn, yI_1sl, yc2_dv, yn1_eq, yn1_lt, xgd_t, xlt_e, Option.bind_some, nI_add, pk_mul, pk_sub, pk_div, pk_rem, yI_and, yI_or, yI_xor, yI_nd, yI_nd2, yI_31, yI_shl, nI_leI, nI_ltI, nI_eq, nI_clamp, xinb_t, yP_z, yP_if, h.1, if_pos]
  | succ d ih =>
    intro l hl m h hc hs
    obtain ⟨m1, a1, a2, a3⟩ := s_jo_24 hT hn hS h0 (l := l) (by omega) n 0 (by omega) m h hc
    have own : ∀ l' p, p < n → yJt n T S l' 0 S p = yJs n T S S p := by
      intro l' p hp
      unfold yJt
      rw [yif_f]
      rintro ⟨g1, g2, _⟩
      have := yor2_gt g1.1
      omega
    obtain ⟨m', e1, e2, e3⟩ := ih (l + 1) (by omega) m1 (yR0_f h a3 (by decide) (by decide) (by decide)) a2 (fun p hp => by
      rw [a2 S p hS hp, own _ p hp, ← own l p hp, ← hc S p hS hp]
      exact hs p hp)
    refine ⟨m', ?_, e2, yfr_t a3 e3⟩
    apply bX5_jumpOn_123_2_i
    simp (disch := omega) only [yl3, yl4, yl5, yl6, yl7, yl8, yl9, yl10, yl13, yl16, yl20, yl21, yl22, yl23, yl24, yl32, yl40, yl48, yl57, yl59, yl63, yl64, yl97, yl99, yl122, yl255, yl256, yl400, yl1000, yl2000, yl2048, yc0_eq, yc0_eq2, yc0_le, yc0_ge, yc0_lt, yc0_gt, yc0_ad, yc0_da, yc0_sb, yc0_ml, yc0_lm, yc1_eq, yc1_eq2, yc1_le, yc1_ge, yc1_lt, yc1_gt, yc1_ad, yc1_da, yc1_sb, yc1_ml, yc1_lm, yc2_eq, yc2_eq2, yc2_le, yc2_ge, yc2_lt, yc2_gt, yc2_ad, yc2_da, yc2_sb, yc2_ml, yc2_lm, yc31_ge, ymodn, yI_1sl, yc2_dv, yn1_eq, yn1_lt, xgd_t, xlt_e, Option.bind_some, nI_add, pk_mul, pk_sub, pk_div, pk_rem, yI_and, yI_or, yI_xor, yI_nd, yI_nd2, yI_31, yI_shl, nI_leI, nI_ltI, nI_eq, nI_clamp, xinb_t, yP_z, yP_if, h.1, if_neg, s_jumpCell, hs l (by omega)]
    exact a1 e1
theorem s_jumpOn {n : Nat} {T : yG} (hT : yPo n T) (hn : n ≤ 8) {S : Nat} (hS : S < 2 ^ n) {m : xmm} (h : yR0 n T m) (hc : ∀ D p, D < 2 ^ n → p < n → m.1 129 (D * 8 + p) = nI (yJs n T S D p)) : ∃ m', fX5_jumpOn_123 (nI S) m = some m' ∧ (∀ D p, D < 2 ^ n → p < n → m'.1 129 (D * 8 + p) = nI (yJs n T (S + 1) D p)) ∧ yfr [129] m m' := by
  have h8 := y2p8 hn
  by_cases h0 : S = 0
  · subst h0
    have same : ∀ D p, yJs n T 0 D p = yJs n T 1 D p := by
      intro D p
      unfold yJs
      exact yif_c ⟨fun e => ⟨e.1, e.2.elim Or.inl fun e => by omega⟩, fun e => ⟨e.1, e.2.elim Or.inl fun e => by omega⟩⟩
    have z0 : ∀ p, p < n → m.1 129 p = nI 1000 := by
      intro p hp
      have := hc 0 p (Nat.two_pow_pos n) hp
      rw [show 0 * 8 + p = p by omega] at this
      rw [this]
      congr 1
      unfold yJs
      exact yif_f fun e => yb_0 e.1.1
    have inner : ∀ (d l : Nat), l + d = n → bX5_jumpOn_123_2 (nI 0) (nI l) m = some m := by
      intro d
      induction d with
      | zero =>
        intro l hl
        apply bX5_jumpOn_123_2_i
        simp (disch := omega) only [yl3, yl4, yl5, yl6, yl7, yl8, yl9, yl10, yl13, yl16, yl20, yl21, yl22, yl23, yl24, yl32, yl40, yl48, yl57, yl59, yl63, yl64, yl97, yl99, yl122, yl255, yl256, yl400, yl1000, yl2000, yl2048, yc0_eq, yc0_eq2, yc0_le, yc0_ge, yc0_lt, yc0_gt, yc0_ad, yc0_da, yc0_sb, yc0_ml, yc0_lm, yc1_eq, yc1_eq2, yc1_le, yc1_ge, yc1_lt, yc1_gt, yc1_ad, yc1_da, yc1_sb, yc1_ml, yc1_lm, yc2_eq, yc2_eq2, yc2_le, yc2_ge, yc2_lt, yc2_gt, yc2_ad, yc2_da, yc2_sb, yc2_ml, yc2_lm, yc31_ge, ymodn, yI_1sl, yc2_dv, yn1_eq, yn1_lt, xgd_t, xlt_e, Option.bind_some, nI_add, pk_mul, pk_sub, pk_div, pk_rem, yI_and, yI_or, yI_xor, yI_nd, yI_nd2, yI_31, yI_shl, nI_leI, nI_ltI, nI_eq, nI_clamp, xinb_t, yP_z, yP_if, h.1, if_pos]
      | succ d ih =>
        intro l hl
        have i := ih (l + 1) (by omega)
        have k : bX5_jumpOn_123_24 (nI 0) (nI l) (nI 1000) (nI 0) m = some m := by
          apply bX5_jumpOn_123_24_i
          by_cases e : n ≤ 0
          · simp (disch := omega) only [yl3, yl4, yl5, yl6, yl7, yl8, yl9, yl10, yl13, yl16, yl20, yl21, yl22, yl23, yl24, yl32, yl40, yl48, yl57, yl59, yl63, yl64, yl97, yl99, yl122, yl255, yl256, yl400, yl1000, yl2000, yl2048, yc0_eq, yc0_eq2, yc0_le, yc0_ge, yc0_lt, yc0_gt, yc0_ad, yc0_da, yc0_sb, yc0_ml, yc0_lm, yc1_eq, yc1_eq2, yc1_le, yc1_ge, yc1_lt, yc1_gt, yc1_ad, yc1_da, yc1_sb, yc1_ml, yc1_lm, yc2_eq, yc2_eq2, yc2_le, yc2_ge, yc2_lt, yc2_gt, yc2_ad, yc2_da, yc2_sb, yc2_ml, yc2_lm, yc31_ge, ymodn, yI_1sl, yc2_dv, yn1_eq, yn1_lt, xgd_t, xlt_e, Option.bind_some, nI_add, pk_mul, pk_sub, pk_div, pk_rem, yI_and, yI_or, yI_xor, yI_nd, yI_nd2, yI_31, yI_shl, nI_leI, nI_ltI, nI_eq, nI_clamp, xinb_t, yP_z, yP_if, h.1, if_pos]
            exact i
          · simp (disch := omega) only [yl3, yl4, yl5, yl6, yl7, yl8, yl9, yl10, yl13, yl16, yl20, yl21, yl22, yl23, yl24, yl32, yl40, yl48, yl57, yl59, yl63, yl64, yl97, yl99, yl122, yl255, yl256, yl400, yl1000, yl2000, yl2048, yc0_eq, yc0_eq2, yc0_le, yc0_ge, yc0_lt, yc0_gt, yc0_ad, yc0_da, yc0_sb, yc0_ml, yc0_lm, yc1_eq, yc1_eq2, yc1_le, yc1_ge, yc1_lt, yc1_gt, yc1_ad, yc1_da, yc1_sb, yc1_ml, yc1_lm, yc2_eq, yc2_eq2, yc2_le, yc2_ge, yc2_lt, yc2_gt, yc2_ad, yc2_da, yc2_sb, yc2_ml, yc2_lm, yc31_ge, ymodn, yI_1sl, yc2_dv, yn1_eq, yn1_lt, xgd_t, xlt_e, Option.bind_some, nI_add, pk_mul, pk_sub, pk_div, pk_rem, yI_and, yI_or, yI_xor, yI_nd, yI_nd2, yI_31, yI_shl, nI_leI, nI_ltI, nI_eq, nI_clamp, xinb_t, yP_z, yP_if, h.1, if_neg, if_pos]
            exact i
        apply bX5_jumpOn_123_2_i
        simp (disch := omega) only [yl3, yl4, yl5, yl6, yl7, yl8, yl9, yl10, yl13, yl16, yl20, yl21, yl22, yl23, yl24, yl32, yl40, yl48, yl57, yl59, yl63, yl64, yl97, yl99, yl122, yl255, yl256, yl400, yl1000, yl2000, yl2048, yc0_eq, yc0_eq2, yc0_le, yc0_ge, yc0_lt, yc0_gt, yc0_ad, yc0_da, yc0_sb, yc0_ml, yc0_lm, yc1_eq, yc1_eq2, yc1_le, yc1_ge, yc1_lt, yc1_gt, yc1_ad, yc1_da, yc1_sb, yc1_ml, yc1_lm, yc2_eq, yc2_eq2, yc2_le, yc2_ge, yc2_lt, yc2_gt, yc2_ad, yc2_da, yc2_sb, yc2_ml, yc2_lm, yc31_ge, ymodn, yI_1sl, yc2_dv, yn1_eq, yn1_lt, xgd_t, xlt_e, Option.bind_some, nI_add, pk_mul, pk_sub, pk_div, pk_rem, yI_and, yI_or, yI_xor, yI_nd, yI_nd2, yI_31, yI_shl, nI_leI, nI_ltI, nI_eq, nI_clamp, xinb_t, yP_z, yP_if, h.1, if_neg, s_jumpCell]
        rw [show 0 * 8 + l = l by omega, z0 l (by omega)]
        exact k
    refine ⟨m, ?_, fun D p hD hp => by rw [hc D p hD hp, same], yfr_r⟩
    apply fX5_jumpOn_123_i
    exact inner n 0 (by omega)
  · have st : ∀ D p, D < 2 ^ n → p < n → yJs n T S D p = yJt n T S 0 0 D p := by
      intro D p hD hp
      unfold yJt
      by_cases h2 : ynx T S p ∧ D = S ||| 2 ^ p ∧ S ≠ 0
      · rw [yif_t h2, if_neg (Nat.not_lt_zero p)]
        have e := (ynx_ok (n := n) h2.1).1
        show yJs n T S D p = 1000
        unfold yJs
        rw [yif_f]
        rintro ⟨g1, g2⟩
        rw [h2.2.1, e] at g2
        omega
      · rw [yif_f h2]
    have en : ∀ D p, D < 2 ^ n → p < n → yJt n T S n 0 D p = yJs n T (S + 1) D p := by
      intro D p hD hp
      unfold yJt yJs
      by_cases h2 : ynx T S p ∧ D = S ||| 2 ^ p ∧ S ≠ 0
      · have e := ynx_ok (n := n) h2.1
        rw [yif_t h2, if_neg (Nat.not_lt_zero p)]
        rw [h2.2.1, e.1, yif_t ⟨e.2, Or.inr (Nat.lt_succ_self S)⟩, yJ_eq (by rw [← h2.2.1]; exact hD), yif_t e.2, e.1, if_neg h0]
      · rw [yif_f h2]
        apply yif_c
        constructor
        · rintro ⟨g1, g2⟩
          exact ⟨g1, g2.elim Or.inl fun e => Or.inr (by omega)⟩
        · rintro ⟨g1, g2⟩
          refine ⟨g1, g2.elim Or.inl fun e => ?_⟩
          by_cases e2 : ynd D (2 ^ p) = S
          · have u := ynx_un g1
            rw [e2] at u
            exact absurd ⟨u.1, u.2.symm, h0⟩ h2
          · exact Or.inr (by omega)
    have own : ∀ p, p < n → m.1 129 (S * 8 + p) = nI (yJ n T S p) := by
      intro p hp
      rw [hc S p hS hp]
      congr 1
      unfold yJs
      by_cases g : yjok T S p
      · have hlt : ynd S (2 ^ p) < S := ysb_lt (fun a ha => (yb_nd.mp ha).1) g.1 (fun e => (yb_nd.mp e).2 (yb_pw.mpr rfl))
        rw [yif_t ⟨g, Or.inr hlt⟩]
      · rw [yif_f (fun e => g e.1), yJ_eq hS, yif_f g]
    obtain ⟨m', e1, e2, e3⟩ := s_jo_2 hT hn hS h0 n 0 (by omega) m h (fun D p hD hp => by rw [hc D p hD hp, st D p hD hp]) own
    refine ⟨m', ?_, fun D p hD hp => by rw [e2 D p hD hp, en D p hD hp], e3⟩
    apply fX5_jumpOn_123_i
    exact e1
theorem s_fj_10 {n : Nat} (hn : n ≤ 8) : ∀ (d k : Nat), k + d = 8 * 2 ^ n → ∀ (m : xmm), (∀ i, i < k → m.1 129 i = nI 1000) → ∃ m', (∀ {z : Int32 × xmm}, bX5_fewestJumps_123_41 0 m' = some z → bX5_fewestJumps_123_10 (nI (8 * 2 ^ n)) (nI k) m = some z) ∧ (∀ i, i < 8 * 2 ^ n → m'.1 129 i = nI 1000) ∧ yfr [129] m m' := by
  have h8 := y2p8 hn
  intro d
  induction d with
  | zero =>
    intro k hk m h
    have e : k = 8 * 2 ^ n := by omega
    subst e
    refine ⟨m, fun {z} hz => ?_, h, yfr_r⟩
    apply bX5_fewestJumps_123_10_i
    simp (disch := omega) only [yl3, yl4, yl5, yl6, yl7, yl8, yl9, yl10, yl13, yl16, yl20, yl21, yl22, yl23, yl24, yl32, yl40, yl48, yl57, yl59, yl63, yl64, yl97, yl99, yl122, yl255, yl256, yl400, yl1000, yl2000, yl2048, yc0_eq, yc0_eq2, yc0_le, yc0_ge, yc0_lt, yc0_gt, yc0_ad, yc0_da, yc0_sb, yc0_ml, yc0_lm, yc1_eq, yc1_eq2, yc1_le, yc1_ge, yc1_lt, yc1_gt, yc1_ad, yc1_da, yc1_sb, yc1_ml, yc1_lm, yc2_eq, yc2_eq2, yc2_le, yc2_ge, yc2_lt, yc2_gt, yc2_ad, yc2_da, yc2_sb, yc2_ml, yc2_lm, yc31_ge, ymodn, yI_1sl, yc2_dv, yn1_eq, yn1_lt, xgd_t, xlt_e, Option.bind_some, nI_add, pk_mul, pk_sub, pk_div, pk_rem, yI_and, yI_or, yI_xor, yI_nd, yI_nd2, yI_31, yI_shl, nI_leI, nI_ltI, nI_eq, nI_clamp, xinb_t, yP_z, yP_if, if_pos]
    exact hz
  | succ d ih =>
    intro k hk m h
    obtain ⟨m', e1, e2, e3⟩ := ih (k + 1) (by omega) (xwi m 129 k (nI 1000)) (fun i hi => by
      by_cases e : i = k
      · subst e; rw [xwi_e]
      · rw [xwi_i e]; exact h i (by omega))
    refine ⟨m', fun {z} hz => ?_, e2, yfr_t (yfr_w yfr_r (by decide)) e3⟩
    apply bX5_fewestJumps_123_10_i
    simp (disch := omega) only [yl3, yl4, yl5, yl6, yl7, yl8, yl9, yl10, yl13, yl16, yl20, yl21, yl22, yl23, yl24, yl32, yl40, yl48, yl57, yl59, yl63, yl64, yl97, yl99, yl122, yl255, yl256, yl400, yl1000, yl2000, yl2048, yc0_eq, yc0_eq2, yc0_le, yc0_ge, yc0_lt, yc0_gt, yc0_ad, yc0_da, yc0_sb, yc0_ml, yc0_lm, yc1_eq, yc1_eq2, yc1_le, yc1_ge, yc1_lt, yc1_gt, yc1_ad, yc1_da, yc1_sb, yc1_ml, yc1_lm, yc2_eq, yc2_eq2, yc2_le, yc2_ge, yc2_lt, yc2_gt, yc2_ad, yc2_da, yc2_sb, yc2_ml, yc2_lm, yc31_ge, ymodn, yI_1sl, yc2_dv, yn1_eq, yn1_lt, xgd_t, xlt_e, Option.bind_some, nI_add, pk_mul, pk_sub, pk_div, pk_rem, yI_and, yI_or, yI_xor, yI_nd, yI_nd2, yI_31, yI_shl, nI_leI, nI_ltI, nI_eq, nI_clamp, xinb_t, yP_z, yP_if, if_neg]
    exact e1 hz
theorem s_fj_41 {n : Nat} {T : yG} (hT : yPo n T) (hn : n ≤ 8) : ∀ (d k : Nat), k + d = n → ∀ (m : xmm), yR0 n T m → (∀ D p, D < 2 ^ n → p < n → m.1 129 (D * 8 + p) = nI (yif (ynx T 0 p ∧ D = 2 ^ p ∧ p < k) 0 1000)) → ∃ m', (∀ {z : Int32 × xmm}, bX5_fewestJumps_123_88 (nI (2 ^ n - 1)) 0 m' = some z → bX5_fewestJumps_123_41 (nI k) m = some z) ∧ (∀ D p, D < 2 ^ n → p < n → m'.1 129 (D * 8 + p) = nI (yJs n T 0 D p)) ∧ yfr [129] m m' := by
  have h8 := y2p8 hn
  have h1 := y2p1 n
  intro d
  induction d with
  | zero =>
    intro k hk m h hc
    have e : k = n := by omega
    subst e
    refine ⟨m, fun {z} hz => ?_, fun D p hD hp => ?_, yfr_r⟩
    · apply bX5_fewestJumps_123_41_i
      simp (disch := omega) only [yl3, yl4, yl5, yl6, yl7, yl8, yl9, yl10, yl13, yl16, yl20, yl21, yl22, yl23, yl24, yl32, yl40, yl48, yl57, yl59, yl63, yl64, yl97, yl99, yl122, yl255, yl256, yl400, yl1000, yl2000, yl2048, yc0_eq, yc0_eq2, yc0_le, yc0_ge, yc0_lt, yc0_gt, yc0_ad, yc0_da, yc0_sb, yc0_ml, yc0_lm, yc1_eq, yc1_eq2, yc1_le, yc1_ge, yc1_lt, yc1_gt, yc1_ad, yc1_da, yc1_sb, yc1_ml, yc1_lm, yc2_eq, yc2_eq2, yc2_le, yc2_ge, yc2_lt, yc2_gt, yc2_ad, yc2_da, yc2_sb, yc2_ml, yc2_lm, yc31_ge, ymodn, yI_1sl, yc2_dv, yn1_eq, yn1_lt, xgd_t, xlt_e, Option.bind_some, nI_add, pk_mul, pk_sub, pk_div, pk_rem, yI_and, yI_or, yI_xor, yI_nd, yI_nd2, yI_31, yI_shl, nI_leI, nI_ltI, nI_eq, nI_clamp, xinb_t, yP_z, yP_if, h.1, if_pos]
      exact hz
    · rw [hc D p hD hp]
      congr 1
      unfold yJs
      by_cases g : yjok T D p ∧ ynd D (2 ^ p) = 0
      · have u := ynx_un g.1
        rw [g.2] at u
        have e : D = 2 ^ p := by rw [← u.2]; exact Nat.zero_or _
        rw [yif_t ⟨u.1, e, hp⟩, yif_t ⟨g.1, Or.inl g.2⟩, yJ_eq hD, yif_t g.1, if_pos g.2]
      · rw [yif_f, yif_f]
        · rintro ⟨g1, g2⟩
          exact g ⟨g1, g2.elim id fun e => absurd e (Nat.not_lt_zero _)⟩
        · rintro ⟨g1, g2, _⟩
          have e := ynx_ok (n := k) g1
          have e0 : 0 ||| 2 ^ p = D := by rw [Nat.zero_or]; exact g2.symm
          rw [e0] at e
          exact g ⟨e.2, e.1⟩
  | succ d ih =>
    intro k hk m h hc
    have hnx := s_isNext hT hn h (S := 0) (p := k) (by omega) (by omega)
    have hnx' : fX5_isNext_123 (0 : Int32) (nI k) m = some (yP (ynx T 0 k), m) := hnx
    have h2k : 2 ^ k < 2 ^ n := Nat.pow_lt_pow_right (by decide) (by omega)
    by_cases hx : ynx T 0 k
    · have fr : yfr [129] m (xwi m 129 (2 ^ k * 8 + k) 0) := yfr_w yfr_r (by decide)
      obtain ⟨m', e1, e2, e3⟩ := ih (k + 1) (by omega) (xwi m 129 (2 ^ k * 8 + k) 0) (yR0_f h fr (by decide) (by decide) (by decide)) (fun D p hD hp => by
        by_cases e : D * 8 + p = 2 ^ k * 8 + k
        · have e1 : p = k := by omega
          have e2 : D = 2 ^ k := by omega
          subst e1; subst e2
          rw [xwi_e, yif_t ⟨hx, rfl, Nat.lt_succ_self p⟩]
          rfl
        · rw [xwi_i e, hc D p hD hp]
          congr 1
          apply yif_c
          constructor
          · rintro ⟨g1, g2, g3⟩
            exact ⟨g1, g2, by omega⟩
          · rintro ⟨g1, g2, g3⟩
            refine ⟨g1, g2, ?_⟩
            by_cases e2 : p = k
            · subst e2; rw [g2] at e; exact absurd rfl e
            · omega)
      refine ⟨m', fun {z} hz => ?_, e2, yfr_t fr e3⟩
      apply bX5_fewestJumps_123_41_i
      simp (disch := omega) only [yl3, yl4, yl5, yl6, yl7, yl8, yl9, yl10, yl13, yl16, yl20, yl21, yl22, yl23, yl24, yl32, yl40, yl48, yl57, yl59, yl63, yl64, yl97, yl99, yl122, yl255, yl256, yl400, yl1000, yl2000, yl2048, yc0_eq, yc0_eq2, yc0_le, yc0_ge, yc0_lt, yc0_gt, yc0_ad, yc0_da, yc0_sb, yc0_ml, yc0_lm, yc1_eq, yc1_eq2, yc1_le, yc1_ge, yc1_lt, yc1_gt, yc1_ad, yc1_da, yc1_sb, yc1_ml, yc1_lm, yc2_eq, yc2_eq2, yc2_le, yc2_ge, yc2_lt, yc2_gt, yc2_ad, yc2_da, yc2_sb, yc2_ml, yc2_lm, yc31_ge, ymodn, yI_1sl, yc2_dv, yn1_eq, yn1_lt, xgd_t, xlt_e, Option.bind_some, nI_add, pk_mul, pk_sub, pk_div, pk_rem, yI_and, yI_or, yI_xor, yI_nd, yI_nd2, yI_31, yI_shl, nI_leI, nI_ltI, nI_eq, nI_clamp, xinb_t, yP_z, yP_if, h.1, if_neg, hnx', yif_t hx, s_jumpCell]
      exact e1 hz
    · obtain ⟨m', e1, e2, e3⟩ := ih (k + 1) (by omega) m h (fun D p hD hp => by
        rw [hc D p hD hp]
        congr 1
        apply yif_c
        constructor
        · rintro ⟨g1, g2, g3⟩
          exact ⟨g1, g2, by omega⟩
        · rintro ⟨g1, g2, g3⟩
          refine ⟨g1, g2, ?_⟩
          by_cases e2 : p = k
          · subst e2; exact absurd g1 hx
          · omega)
      refine ⟨m', fun {z} hz => ?_, e2, e3⟩
      apply bX5_fewestJumps_123_41_i
      simp (disch := omega) only [yl3, yl4, yl5, yl6, yl7, yl8, yl9, yl10, yl13, yl16, yl20, yl21, yl22, yl23, yl24, yl32, yl40, yl48, yl57, yl59, yl63, yl64, yl97, yl99, yl122, yl255, yl256, yl400, yl1000, yl2000, yl2048, yc0_eq, yc0_eq2, yc0_le, yc0_ge, yc0_lt, yc0_gt, yc0_ad, yc0_da, yc0_sb, yc0_ml, yc0_lm, yc1_eq, yc1_eq2, yc1_le, yc1_ge, yc1_lt, yc1_gt, yc1_ad, yc1_da, yc1_sb, yc1_ml, yc1_lm, yc2_eq, yc2_eq2, yc2_le, yc2_ge, yc2_lt, yc2_gt, yc2_ad, yc2_da, yc2_sb, yc2_ml, yc2_lm, yc31_ge, ymodn, yI_1sl, yc2_dv, yn1_eq, yn1_lt, xgd_t, xlt_e, Option.bind_some, nI_add, pk_mul, pk_sub, pk_div, pk_rem, yI_and, yI_or, yI_xor, yI_nd, yI_nd2, yI_31, yI_shl, nI_leI, nI_ltI, nI_eq, nI_clamp, xinb_t, yP_z, yP_if, h.1, if_neg, hnx', yif_f hx]
      exact e1 hz
theorem s_fj_122 {n : Nat} {T : yG} (hn : n ≤ 8) {m : xmm} (h : m.1 123 6 = nI n) (hc : ∀ p, p < n → m.1 129 ((2 ^ n - 1) * 8 + p) = nI (yJ n T (2 ^ n - 1) p)) : ∀ (d k : Nat), k + d = n → bX5_fewestJumps_123_122 (nI (2 ^ n - 1)) (nI (ymn (fun p => yJ n T (2 ^ n - 1) p) k)) (nI k) m = some (nI (ymn (fun p => yJ n T (2 ^ n - 1) p) n), m) := by
  have h8 := y2p8 hn
  have h1 := y2p1 n
  intro d
  induction d with
  | zero =>
    intro k hk
    have e : k = n := by omega
    subst e
    apply bX5_fewestJumps_123_122_i
    simp (disch := omega) only [yl3, yl4, yl5, yl6, yl7, yl8, yl9, yl10, yl13, yl16, yl20, yl21, yl22, yl23, yl24, yl32, yl40, yl48, yl57, yl59, yl63, yl64, yl97, yl99, yl122, yl255, yl256, yl400, yl1000, yl2000, yl2048, yc0_eq, yc0_eq2, yc0_le, yc0_ge, yc0_lt, yc0_gt, yc0_ad, yc0_da, yc0_sb, yc0_ml, yc0_lm, yc1_eq, yc1_eq2, yc1_le, yc1_ge, yc1_lt, yc1_gt, yc1_ad, yc1_da, yc1_sb, yc1_ml, yc1_lm, yc2_eq, yc2_eq2, yc2_le, yc2_ge, yc2_lt, yc2_gt, yc2_ad, yc2_da, yc2_sb, yc2_ml, yc2_lm, yc31_ge, ymodn, yI_1sl, yc2_dv, yn1_eq, yn1_lt, xgd_t, xlt_e, Option.bind_some, nI_add, pk_mul, pk_sub, pk_div, pk_rem, yI_and, yI_or, yI_xor, yI_nd, yI_nd2, yI_31, yI_shl, nI_leI, nI_ltI, nI_eq, nI_clamp, xinb_t, yP_z, yP_if, h, if_pos]
  | succ d ih =>
    intro k hk
    have b1 := ymn_le (fun p => yJ n T (2 ^ n - 1) p) k
    have b2 := (yJ_le hn T (2 ^ n - 1) k).1
    have emn : (if yJ n T (2 ^ n - 1) k < ymn (fun p => yJ n T (2 ^ n - 1) p) k then nI (yJ n T (2 ^ n - 1) k) else nI (ymn (fun p => yJ n T (2 ^ n - 1) p) k)) = nI (ymn (fun p => yJ n T (2 ^ n - 1) p) (k + 1)) := by
      rw [ymn_s]
      by_cases e : yJ n T (2 ^ n - 1) k < ymn (fun p => yJ n T (2 ^ n - 1) p) k
      · rw [if_pos e]; congr 1; omega
      · rw [if_neg e]; congr 1; omega
    apply bX5_fewestJumps_123_122_i
    simp (disch := omega) only [yl3, yl4, yl5, yl6, yl7, yl8, yl9, yl10, yl13, yl16, yl20, yl21, yl22, yl23, yl24, yl32, yl40, yl48, yl57, yl59, yl63, yl64, yl97, yl99, yl122, yl255, yl256, yl400, yl1000, yl2000, yl2048, yc0_eq, yc0_eq2, yc0_le, yc0_ge, yc0_lt, yc0_gt, yc0_ad, yc0_da, yc0_sb, yc0_ml, yc0_lm, yc1_eq, yc1_eq2, yc1_le, yc1_ge, yc1_lt, yc1_gt, yc1_ad, yc1_da, yc1_sb, yc1_ml, yc1_lm, yc2_eq, yc2_eq2, yc2_le, yc2_ge, yc2_lt, yc2_gt, yc2_ad, yc2_da, yc2_sb, yc2_ml, yc2_lm, yc31_ge, ymodn, yI_1sl, yc2_dv, yn1_eq, yn1_lt, xgd_t, xlt_e, Option.bind_some, nI_add, pk_mul, pk_sub, pk_div, pk_rem, yI_and, yI_or, yI_xor, yI_nd, yI_nd2, yI_31, yI_shl, nI_leI, nI_ltI, nI_eq, nI_clamp, xinb_t, yP_z, yP_if, h, if_neg, s_jumpCell, hc k (by omega), emn]
    exact ih (k + 1) (by omega)
theorem s_fj_88 {n : Nat} {T : yG} (hT : yPo n T) (hn : n ≤ 8) : ∀ (d S : Nat), S + d = 2 ^ n - 1 → ∀ (m : xmm), yR0 n T m → (∀ D p, D < 2 ^ n → p < n → m.1 129 (D * 8 + p) = nI (yJs n T S D p)) → ∃ m', bX5_fewestJumps_123_88 (nI (2 ^ n - 1)) (nI S) m = some (nI (yJF n T), m') ∧ yfr [129] m m' := by
  have h8 := y2p8 hn
  have h1 := y2p1 n
  intro d
  induction d with
  | zero =>
    intro S hS m h hc
    have e : S = 2 ^ n - 1 := by omega
    subst e
    refine ⟨m, ?_, yfr_r⟩
    apply bX5_fewestJumps_123_88_i
    by_cases hn0 : n = 0
    · subst hn0
      have e0 : bX5_fewestJumps_123_122 (nI (2 ^ 0 - 1)) (0 : Int32) (0 : Int32) m = some (nI (yJF 0 T), m) := by
        apply bX5_fewestJumps_123_122_i
        simp (disch := omega) only [yl3, yl4, yl5, yl6, yl7, yl8, yl9, yl10, yl13, yl16, yl20, yl21, yl22, yl23, yl24, yl32, yl40, yl48, yl57, yl59, yl63, yl64, yl97, yl99, yl122, yl255, yl256, yl400, yl1000, yl2000, yl2048, yc0_eq, yc0_eq2, yc0_le, yc0_ge, yc0_lt, yc0_gt, yc0_ad, yc0_da, yc0_sb, yc0_ml, yc0_lm, yc1_eq, yc1_eq2, yc1_le, yc1_ge, yc1_lt, yc1_gt, yc1_ad, yc1_da, yc1_sb, yc1_ml, yc1_lm, yc2_eq, yc2_eq2, yc2_le, yc2_ge, yc2_lt, yc2_gt, yc2_ad, yc2_da, yc2_sb, yc2_ml, yc2_lm, yc31_ge, ymodn, yI_1sl, yc2_dv, yn1_eq, yn1_lt, xgd_t, xlt_e, Option.bind_some, nI_add, pk_mul, pk_sub, pk_div, pk_rem, yI_and, yI_or, yI_xor, yI_nd, yI_nd2, yI_31, yI_shl, nI_leI, nI_ltI, nI_eq, nI_clamp, xinb_t, yP_z, yP_if, h.1, if_pos]
        rfl
      simp (disch := omega) only [yl3, yl4, yl5, yl6, yl7, yl8, yl9, yl10, yl13, yl16, yl20, yl21, yl22, yl23, yl24, yl32, yl40, yl48, yl57, yl59, yl63, yl64, yl97, yl99, yl122, yl255, yl256, yl400, yl1000, yl2000, yl2048, yc0_eq, yc0_eq2, yc0_le, yc0_ge, yc0_lt, yc0_gt, yc0_ad, yc0_da, yc0_sb, yc0_ml, yc0_lm, yc1_eq, yc1_eq2, yc1_le, yc1_ge, yc1_lt, yc1_gt, yc1_ad, yc1_da, yc1_sb, yc1_ml, yc1_lm, yc2_eq, yc2_eq2, yc2_le, yc2_ge, yc2_lt, yc2_gt, yc2_ad, yc2_da, yc2_sb, yc2_ml, yc2_lm, yc31_ge, ymodn, yI_1sl, yc2_dv, yn1_eq, yn1_lt, xgd_t, xlt_e, Option.bind_some, nI_add, pk_mul, pk_sub, pk_div, pk_rem, yI_and, yI_or, yI_xor, yI_nd, yI_nd2, yI_31, yI_shl, nI_leI, nI_ltI, nI_eq, nI_clamp, xinb_t, yP_z, yP_if, h.1, if_pos]
      exact e0
    · have hc2 : ∀ p, p < n → m.1 129 ((2 ^ n - 1) * 8 + p) = nI (yJ n T (2 ^ n - 1) p) := by
        intro p hp
        rw [hc _ p (by omega) hp]
        congr 1
        unfold yJs
        by_cases g : yjok T (2 ^ n - 1) p
        · have hlt : ynd (2 ^ n - 1) (2 ^ p) < 2 ^ n - 1 := ysb_lt (fun a ha => (yb_nd.mp ha).1) g.1 (fun e => (yb_nd.mp e).2 (yb_pw.mpr rfl))
          rw [yif_t ⟨g, Or.inr hlt⟩]
        · rw [yif_f (fun e => g e.1), yJ_eq (by omega), yif_f g]
      have e0 := s_fj_122 (T := T) hn h.1 hc2 n 0 (by omega)
      have eF : yJF n T = ymn (fun p => yJ n T (2 ^ n - 1) p) n := if_neg hn0
      simp (disch := omega) only [yl3, yl4, yl5, yl6, yl7, yl8, yl9, yl10, yl13, yl16, yl20, yl21, yl22, yl23, yl24, yl32, yl40, yl48, yl57, yl59, yl63, yl64, yl97, yl99, yl122, yl255, yl256, yl400, yl1000, yl2000, yl2048, yc0_eq, yc0_eq2, yc0_le, yc0_ge, yc0_lt, yc0_gt, yc0_ad, yc0_da, yc0_sb, yc0_ml, yc0_lm, yc1_eq, yc1_eq2, yc1_le, yc1_ge, yc1_lt, yc1_gt, yc1_ad, yc1_da, yc1_sb, yc1_ml, yc1_lm, yc2_eq, yc2_eq2, yc2_le, yc2_ge, yc2_lt, yc2_gt, yc2_ad, yc2_da, yc2_sb, yc2_ml, yc2_lm, yc31_ge, ymodn, yI_1sl, yc2_dv, yn1_eq, yn1_lt, xgd_t, xlt_e, Option.bind_some, nI_add, pk_mul, pk_sub, pk_div, pk_rem, yI_and, yI_or, yI_xor, yI_nd, yI_nd2, yI_31, yI_shl, nI_leI, nI_ltI, nI_eq, nI_clamp, xinb_t, yP_z, yP_if, h.1, if_pos, if_neg, eF]
      exact e0
  | succ d ih =>
    intro S hS m h hc
    obtain ⟨m1, a1, a2, a3⟩ := s_jumpOn hT hn (S := S) (by omega) h hc
    obtain ⟨m', e1, e2⟩ := ih (S + 1) (by omega) m1 (yR0_f h a3 (by decide) (by decide) (by decide)) a2
    refine ⟨m', ?_, yfr_t a3 e2⟩
    apply bX5_fewestJumps_123_88_i
    simp (disch := omega) only [yl3, yl4, yl5, yl6, yl7, yl8, yl9, yl10, yl13, yl16, yl20, yl21, yl22, yl23, yl24, yl32, yl40, yl48, yl57, yl59, yl63, yl64, yl97, yl99, yl122, yl255, yl256, yl400, yl1000, yl2000, yl2048, yc0_eq, yc0_eq2, yc0_le, yc0_ge, yc0_lt, yc0_gt, yc0_ad, yc0_da, yc0_sb, yc0_ml, yc0_lm, yc1_eq, yc1_eq2, yc1_le, yc1_ge, yc1_lt, yc1_gt, yc1_ad, yc1_da, yc1_sb, yc1_ml, yc1_lm, yc2_eq, yc2_eq2, yc2_le, yc2_ge, yc2_lt, yc2_gt, yc2_ad, yc2_da, yc2_sb, yc2_ml, yc2_lm, yc31_ge, ymodn, yI_1sl, yc2_dv, yn1_eq, yn1_lt, xgd_t, xlt_e, Option.bind_some, nI_add, pk_mul, pk_sub, pk_div, pk_rem, yI_and, yI_or, yI_xor, yI_nd, yI_nd2, yI_31, yI_shl, nI_leI, nI_ltI, nI_eq, nI_clamp, xinb_t, yP_z, yP_if, if_neg, a1]
    exact e1
theorem s_fewestJumps {n : Nat} {T : yG} (hT : yPo n T) (hn : n ≤ 8) {m : xmm} (h : yR0 n T m) : ∃ m', fX5_fewestJumps_123 m = some (nI (yJF n T), m') ∧ yfr [129] m m' := by
  have h8 := y2p8 hn
  obtain ⟨m1, a1, a2, a3⟩ := s_fj_10 hn (8 * 2 ^ n) 0 (by omega) m (fun i hi => absurd hi (Nat.not_lt_zero i))
  have k1 := yR0_f h a3 (by decide) (by decide) (by decide)
  obtain ⟨m2, b1, b2, b3⟩ := s_fj_41 hT hn n 0 (by omega) m1 k1 (fun D p hD hp => by
    rw [a2 _ (by omega), yif_f (fun e => Nat.not_lt_zero p e.2.2)])
  obtain ⟨m', e1, e2⟩ := s_fj_88 hT hn (2 ^ n - 1) 0 (by omega) m2 (yR0_f k1 b3 (by decide) (by decide) (by decide)) b2
  refine ⟨m', ?_, yfr_t a3 (yfr_t b3 e2)⟩
  apply fX5_fewestJumps_123_i
  simp (disch := omega) only [yl3, yl4, yl5, yl6, yl7, yl8, yl9, yl10, yl13, yl16, yl20, yl21, yl22, yl23, yl24, yl32, yl40, yl48, yl57, yl59, yl63, yl64, yl97, yl99, yl122, yl255, yl256, yl400, yl1000, yl2000, yl2048, yc0_eq, yc0_eq2, yc0_le, yc0_ge, yc0_lt, yc0_gt, yc0_ad, yc0_da, yc0_sb, yc0_ml, yc0_lm, yc1_eq, yc1_eq2, yc1_le, yc1_ge, yc1_lt, yc1_gt, yc1_ad, yc1_da, yc1_sb, yc1_ml, yc1_lm, yc2_eq, yc2_eq2, yc2_le, yc2_ge, yc2_lt, yc2_gt, yc2_ad, yc2_da, yc2_sb, yc2_ml, yc2_lm, yc31_ge, ymodn, yI_1sl, yc2_dv, yn1_eq, yn1_lt, xgd_t, xlt_e, Option.bind_some, nI_add, pk_mul, pk_sub, pk_div, pk_rem, yI_and, yI_or, yI_xor, yI_nd, yI_nd2, yI_31, yI_shl, nI_leI, nI_ltI, nI_eq, nI_clamp, xinb_t, yP_z, yP_if, h.1]
  apply a1
  apply b1
  exact e1
