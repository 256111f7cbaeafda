/-! ways up, from below and from above; straight orders by number -/
theorem ysm_0 {f : Nat → Nat} : ∀ {n : Nat}, (∀ k, k < n → f k = 0) → ysm f n = 0
  | 0, _ => rfl
  | n + 1, h => by rw [ysm_s, ysm_0 fun k hk => h k (by omega), h n (Nat.lt_succ_self n)]
theorem ysm_a (f g : Nat → Nat) : ∀ n : Nat, ysm (fun k => f k + g k) n = ysm f n + ysm g n
  | 0 => rfl
  | n + 1 => by
    rw [ysm_s, ysm_s, ysm_s, ysm_a f g n]
    omega
theorem ysm_cm (g : Nat → Nat → Nat) (n : Nat) : ∀ m : Nat, ysm (fun p => ysm (fun q => g p q) n) m = ysm (fun q => ysm (fun p => g p q) m) n
  | 0 => (ysm_0 fun _ _ => rfl).symm
  | m + 1 => by
    rw [ysm_s, ysm_cm g n m]
    have e : (fun q => ysm (fun p => g p q) (m + 1)) = fun q => ysm (fun p => g p q) m + g m q := by
      funext q
      rw [ysm_s]
    rw [e, ysm_a]
theorem yif_sm (A : Prop) (f : Nat → Nat) (n : Nat) : yif A (ysm f n) 0 = ysm (fun q => yif A (f q) 0) n := by
  by_cases h : A
  · rw [yif_t h]
    exact ysm_c fun k _ => (yif_t h).symm
  · rw [yif_f h]
    exact (ysm_0 fun k _ => yif_f h).symm
theorem ysm_if2 (A B : Nat → Prop) (f : Nat → Nat → Nat) (n : Nat) : ysm (fun p => yif (A p) (ysm (fun q => yif (B q) (f p q) 0) n) 0) n = ysm (fun q => yif (B q) (ysm (fun p => yif (A p) (f p q) 0) n) 0) n := by
  have e1 : (fun p => yif (A p) (ysm (fun q => yif (B q) (f p q) 0) n) 0) = fun p => ysm (fun q => yif (A p) (yif (B q) (f p q) 0) 0) n := by
    funext p; exact yif_sm _ _ n
  have e2 : (fun q => yif (B q) (ysm (fun p => yif (A p) (f p q) 0) n) 0) = fun q => ysm (fun p => yif (B q) (yif (A p) (f p q) 0) 0) n := by
    funext q; exact yif_sm _ _ n
  rw [e1, e2, ysm_cm]
  apply ysm_c
  intro q _
  apply ysm_c
  intro p _
  by_cases h : A p
  · by_cases h2 : B q
    · rw [yif_t h, yif_t h2, yif_t h2, yif_t h]
    · rw [yif_t h, yif_f h2, yif_f h2]
  · by_cases h2 : B q
    · rw [yif_f h, yif_t h2, yif_f h]
    · rw [yif_f h, yif_f h2]
def ydw (T : yG) (S : Nat) : Prop := ∀ q p, T q p → yb S p → yb S q
def yxm (T : yG) (S p : Nat) : Prop := yb S p ∧ ∀ c, T p c → ¬ yb S c
noncomputable def yPe (n : Nat) (T : yG) : Nat → Nat → Nat → Nat
  | 0, S, D => yif (S = D) 1 0
  | k + 1, S, D => ysm (fun p => yif (ynx T S p) (yPe n T k (S ||| 2 ^ p) D) 0) n
noncomputable def yFe (n : Nat) (T : yG) : Nat → Nat → Nat
  | 0, _ => 1
  | k + 1, S => ysm (fun p => yif (yxm T S p) (yFe n T k (ynd S (2 ^ p))) 0) n
theorem ydw_nx {T : yG} {S p : Nat} (h : ydw T S) (hp : ynx T S p) : ydw T (S ||| 2 ^ p) := by
  intro q r hq hr
  rcases yb_or.mp hr with e | e
  · exact yb_or.mpr (Or.inl (h q r hq e))
  · rw [yb_pw] at e
    subst e
    exact yb_or.mpr (Or.inl (hp.2 q hq))
theorem yPe_b {n : Nat} {T : yG} (hT : yPo n T) {D : Nat} (hD : ydw T D) : ∀ (k S : Nat), ydw T S → yPe n T (k + 1) S D = ysm (fun p => yif (yxm T D p) (yPe n T k S (ynd D (2 ^ p))) 0) n := by
  intro k
  induction k with
  | zero =>
    intro S hS
    show ysm (fun p => yif (ynx T S p) (yif (S ||| 2 ^ p = D) 1 0) 0) n = ysm (fun p => yif (yxm T D p) (yif (S = ynd D (2 ^ p)) 1 0) 0) n
    apply ysm_c
    intro p _
    have key : (ynx T S p ∧ S ||| 2 ^ p = D) ↔ (yxm T D p ∧ S = ynd D (2 ^ p)) := by
      constructor
      · rintro ⟨h1, rfl⟩
        refine ⟨⟨yb_or.mpr (Or.inr (yb_pw.mpr rfl)), fun c hc e => ?_⟩, ?_⟩
        · rcases yb_or.mp e with e | e
          · exact h1.1 (hS p c hc e)
          · rw [yb_pw] at e
            subst e
            exact hT.2.1 _ hc
        · apply ytb_ext
          intro i
          have e := yb_nd (A := S ||| 2 ^ p) (B := 2 ^ p) (a := i)
          rw [yb_or, yb_pw] at e
          constructor
          · intro hi
            refine e.mpr ⟨Or.inl hi, fun e2 => ?_⟩
            subst e2
            exact h1.1 hi
          · intro hi
            have := e.mp hi
            exact this.1.elim id fun e2 => absurd e2 this.2
      · rintro ⟨h1, rfl⟩
        refine ⟨⟨fun e => (yb_nd.mp e).2 (yb_pw.mpr rfl), fun q hq => yb_nd.mpr ⟨hD q p hq h1.1, fun e => ?_⟩⟩, ?_⟩
        · rw [yb_pw] at e
          subst e
          exact hT.2.1 _ hq
        · apply ytb_ext
          intro i
          have e := yb_or (A := ynd D (2 ^ p)) (B := 2 ^ p) (a := i)
          rw [yb_nd, yb_pw] at e
          constructor
          · intro hi
            rcases e.mp hi with h | h
            · exact h.1
            · subst h; exact h1.1
          · intro hi
            by_cases h : i = p
            · exact e.mpr (Or.inr h)
            · exact e.mpr (Or.inl ⟨hi, h⟩)
    by_cases h : ynx T S p ∧ S ||| 2 ^ p = D
    · have h2 := key.mp h
      rw [yif_t h.1, yif_t h.2, yif_t h2.1, yif_t h2.2]
    · have h2 : ¬ (yxm T D p ∧ S = ynd D (2 ^ p)) := fun e => h (key.mpr e)
      have e1 : yif (ynx T S p) (yif (S ||| 2 ^ p = D) 1 0) 0 = 0 := by
        by_cases a : ynx T S p
        · rw [yif_t a, yif_f fun e => h ⟨a, e⟩]
        · rw [yif_f a]
      have e2 : yif (yxm T D p) (yif (S = ynd D (2 ^ p)) 1 0) 0 = 0 := by
        by_cases a : yxm T D p
        · rw [yif_t a, yif_f fun e => h2 ⟨a, e⟩]
        · rw [yif_f a]
      rw [e1, e2]
  | succ k ih =>
    intro S hS
    show ysm (fun p => yif (ynx T S p) (yPe n T (k + 1) (S ||| 2 ^ p) D) 0) n = _
    have e1 : ysm (fun p => yif (ynx T S p) (yPe n T (k + 1) (S ||| 2 ^ p) D) 0) n = ysm (fun p => yif (ynx T S p) (ysm (fun q => yif (yxm T D q) (yPe n T k (S ||| 2 ^ p) (ynd D (2 ^ q))) 0) n) 0) n := by
      apply ysm_c
      intro p _
      by_cases h : ynx T S p
      · rw [yif_t h, yif_t h, ih _ (ydw_nx hS h)]
      · rw [yif_f h, yif_f h]
    rw [e1, ysm_if2]
    rfl
theorem yWe_P {n : Nat} {T : yG} : ∀ (k S : Nat), S < 2 ^ n → ysz n S + k = n → yWe n T k S = yPe n T k S (2 ^ n - 1) := by
  intro k
  induction k with
  | zero =>
    intro S hS h
    have : S = 2 ^ n - 1 := by
      apply ytb_ext
      intro i
      exact ⟨fun e => yall_b.mpr (ytb_of hS e), fun e => ysz_n h i (yall_b.mp e)⟩
    show 1 = yif (S = 2 ^ n - 1) 1 0
    rw [yif_t this]
  | succ k ih =>
    intro S hS h
    show ysm _ n = ysm _ n
    apply ysm_c
    intro p hp
    by_cases hx : ynx T S p
    · rw [yif_t hx, yif_t hx, ih _ (yor2_lt hS hp) (by rw [ysz_add hp hx.1]; omega)]
    · rw [yif_f hx, yif_f hx]
theorem ysz_rm {n S p : Nat} (hp : p < n) (h : yb S p) : ysz n S = ysz n (ynd S (2 ^ p)) + 1 := by
  have h1 : ¬ yb (ynd S (2 ^ p)) p := fun e => (yb_nd.mp e).2 (yb_pw.mpr rfl)
  have h2 := ysz_add hp h1
  have e : ynd S (2 ^ p) ||| 2 ^ p = S := by
    apply ytb_ext
    intro i
    have e := yb_or (A := ynd S (2 ^ p)) (B := 2 ^ p) (a := i)
    rw [yb_nd, yb_pw] at e
    constructor
    · intro hi
      rcases e.mp hi with h' | h'
      · exact h'.1
      · subst h'; exact h
    · intro hi
      by_cases h' : i = p
      · exact e.mpr (Or.inr h')
      · exact e.mpr (Or.inl ⟨hi, h'⟩)
  rw [e] at h2
  exact h2
theorem ydw_rm {T : yG} {D p : Nat} (hD : ydw T D) (hp : yxm T D p) : ydw T (ynd D (2 ^ p)) := by
  intro q r hq hr
  have := yb_nd.mp hr
  refine yb_nd.mpr ⟨hD q r hq this.1, fun e => ?_⟩
  rw [yb_pw] at e
  subst e
  exact hp.2 r hq this.1
theorem yFe_P {n : Nat} {T : yG} (hT : yPo n T) : ∀ (k D : Nat), ydw T D → D < 2 ^ n → ysz n D = k → yFe n T k D = yPe n T k 0 D := by
  intro k
  induction k with
  | zero =>
    intro D _ hD h
    have : (0 : Nat) = D := by
      apply ytb_ext
      intro i
      refine ⟨fun e => absurd e yb_0, fun e => ?_⟩
      have := ysz_rm (ytb_of hD e) e
      omega
    show 1 = yif (0 = D) 1 0
    rw [yif_t this]
  | succ k ih =>
    intro D hd hD h
    rw [yPe_b hT hd k 0 (fun q p _ e => absurd e yb_0)]
    show ysm _ n = _
    apply ysm_c
    intro p hp
    by_cases hx : yxm T D p
    · have := ysz_rm hp hx.1
      rw [yif_t hx, yif_t hx, ih _ (ydw_rm hd hx) (ynd_le _ _ n hD) (by omega)]
    · rw [yif_f hx, yif_f hx]
noncomputable def yF (n : Nat) (T : yG) (S : Nat) : Nat := yFe n T (ysz n S) S
theorem ysz_0 (n : Nat) : ysz n 0 = 0 := yct_0 fun _ _ => yb_0
theorem ysz_all (n : Nat) : ysz n (2 ^ n - 1) = n := by
  have key : ∀ k, k ≤ n → yct (fun a => yb (2 ^ n - 1) a) k = k := by
    intro k
    induction k with
    | zero => intro _; rfl
    | succ k ih => intro h; rw [yct_s, ih (by omega), yif_t (yall_b.mpr (by omega))]
  exact key n (Nat.le_refl n)
theorem yall_lt (n : Nat) : 2 ^ n - 1 < 2 ^ n := by have := y2p1 n; omega
/-- from above as from below -/
theorem yFW {n : Nat} {T : yG} (hT : yPo n T) : yF n T (2 ^ n - 1) = yW n T 0 := by
  unfold yF yW
  rw [ysz_0, ysz_all, Nat.sub_zero, yWe_P n 0 (Nat.two_pow_pos n) (by rw [ysz_0]; omega)]
  exact yFe_P hT n _ (fun q p hq _ => yall_b.mpr (hT.1 _ _ hq).1) (yall_lt n) (ysz_all n)
theorem yF_s {n : Nat} {T : yG} {S : Nat} (hS : S < 2 ^ n) (h0 : S ≠ 0) : yF n T S = ysm (fun p => yif (yxm T S p) (yF n T (ynd S (2 ^ p))) 0) n := by
  obtain ⟨a, ha⟩ := yex_ne h0
  have h1 := ysz_rm (ytb_of hS ha) ha
  have e : yF n T S = yFe n T (ysz n S) S := rfl
  rw [e, show ysz n S = (ysz n S - 1) + 1 by omega]
  show ysm _ n = _
  apply ysm_c
  intro p hp
  by_cases h : yxm T S p
  · rw [yif_t h, yif_t h]
    unfold yF
    have := ysz_rm hp h.1
    rw [show ysz n (ynd S (2 ^ p)) = ysz n S - 1 by omega]
  · rw [yif_f h, yif_f h]
theorem yFe_le {n : Nat} (hn : n ≤ 8) (T : yG) : ∀ k S, yFe n T k S ≤ 8 ^ k
  | 0, _ => Nat.le_refl _
  | k + 1, S => by
    have h := ysm_le (f := fun p => yif (yxm T S p) (yFe n T k (ynd S (2 ^ p))) 0) (c := 8 ^ k) (n := n) fun p _ => by
      by_cases h : yxm T S p
      · rw [yif_t h]; exact yFe_le hn T k _
      · rw [yif_f h]; exact Nat.zero_le _
    have h2 : n * 8 ^ k ≤ 8 * 8 ^ k := Nat.mul_le_mul_right _ hn
    have h3 : 8 ^ (k + 1) = 8 * 8 ^ k := by rw [Nat.pow_succ, Nat.mul_comm]
    rw [h3]
    exact Nat.le_trans h h2
/-! the post by a number -/
noncomputable def yps (n : Nat) (T : yG) (S p : Nat) : Nat := ysm (fun q => yif (ynx T S q) (yW n T (S ||| 2 ^ q)) 0) p
theorem yps_s (n : Nat) (T : yG) (S p : Nat) : yps n T S (p + 1) = yps n T S p + yif (ynx T S p) (yW n T (S ||| 2 ^ p)) 0 := rfl
theorem ysm_mono (f : Nat → Nat) (a : Nat) : ∀ d, ysm f a ≤ ysm f (a + d)
  | 0 => Nat.le_refl _
  | d + 1 => Nat.le_trans (ysm_mono f a d) (by show ysm f (a + d) ≤ ysm f (a + d + 1); rw [ysm_s]; omega)
theorem yps_mono (n : Nat) (T : yG) (S : Nat) {a b : Nat} (h : a ≤ b) : yps n T S a ≤ yps n T S b := by
  obtain ⟨d, rfl⟩ := Nat.exists_eq_add_of_le h
  exact ysm_mono _ a d
noncomputable def ypc (n : Nat) (T : yG) (S left : Nat) : Nat := @dite Nat (∃ p, left < yps n T S (p + 1)) (Classical.propDecidable _) (fun h => Classical.choose (yleast h)) (fun _ => 0)
theorem ypc_s {n : Nat} {T : yG} {S left : Nat} (hS : S < 2 ^ n) (hne : S ≠ 2 ^ n - 1) (hl : left < yW n T S) : ypc n T S left < n ∧ ynx T S (ypc n T S left) ∧ yps n T S (ypc n T S left) ≤ left ∧ left < yps n T S (ypc n T S left) + yW n T (S ||| 2 ^ (ypc n T S left)) := by
  rw [yW_s hS hne] at hl
  have hn0 : n ≠ 0 := by
    intro e
    subst e
    exact absurd hl (Nat.not_lt_zero _)
  have hex : ∃ p, left < yps n T S (p + 1) := ⟨n - 1, by rw [show n - 1 + 1 = n by omega]; exact hl⟩
  have e : ypc n T S left = Classical.choose (yleast hex) := by unfold ypc; exact dif_pos hex
  have h := Classical.choose_spec (yleast hex)
  rw [← e] at h
  have h1 : ypc n T S left < n := by
    rcases Nat.lt_or_ge (ypc n T S left) n with h' | h'
    · exact h'
    · have := h.2 (n - 1) (by omega)
      rw [show n - 1 + 1 = n by omega] at this
      exact absurd hl this
  have h2 : yps n T S (ypc n T S left) ≤ left := by
    rcases Nat.eq_zero_or_pos (ypc n T S left) with h' | h'
    · rw [h']; exact Nat.zero_le _
    · have := h.2 (ypc n T S left - 1) (by omega)
      rw [show ypc n T S left - 1 + 1 = ypc n T S left by omega] at this
      omega
  have h3 := h.1
  rw [yps_s] at h3
  by_cases hx : ynx T S (ypc n T S left)
  · rw [yif_t hx] at h3
    exact ⟨h1, hx, h2, h3⟩
  · rw [yif_f hx] at h3
    omega
noncomputable def yq (n : Nat) (T : yG) (i : Nat) : Nat → Nat × Nat
  | 0 => (0, i)
  | k + 1 => ((yq n T i k).1 ||| 2 ^ (ypc n T (yq n T i k).1 (yq n T i k).2), (yq n T i k).2 - yps n T (yq n T i k).1 (ypc n T (yq n T i k).1 (yq n T i k).2))
/-- the k-th post of the i-th straight order -/
noncomputable def ypk (n : Nat) (T : yG) (i k : Nat) : Nat := ypc n T (yq n T i k).1 (yq n T i k).2
theorem yq_s (n : Nat) (T : yG) (i k : Nat) : yq n T i (k + 1) = ((yq n T i k).1 ||| 2 ^ (ypk n T i k), (yq n T i k).2 - yps n T (yq n T i k).1 (ypk n T i k)) := rfl
theorem yq_ok {n : Nat} {T : yG} {i : Nat} (hi : i < yW n T 0) : ∀ k, k ≤ n → (yq n T i k).1 < 2 ^ n ∧ ysz n (yq n T i k).1 = k ∧ (yq n T i k).2 < yW n T (yq n T i k).1
  | 0, _ => ⟨Nat.two_pow_pos n, ysz_0 n, hi⟩
  | k + 1, h => by
    obtain ⟨h1, h2, h3⟩ := yq_ok hi k (by omega)
    have hne : (yq n T i k).1 ≠ 2 ^ n - 1 := by
      intro e
      rw [e, ysz_all] at h2
      omega
    obtain ⟨p1, p2, p3, p4⟩ := ypc_s h1 hne h3
    rw [yq_s]
    refine ⟨yor2_lt h1 p1, ?_, ?_⟩
    · show ysz n ((yq n T i k).1 ||| 2 ^ (ypk n T i k)) = k + 1
      have := ysz_add p1 p2.1
      unfold ypk
      omega
    · show (yq n T i k).2 - yps n T (yq n T i k).1 (ypk n T i k) < yW n T ((yq n T i k).1 ||| 2 ^ (ypk n T i k))
      unfold ypk
      omega
theorem ypk_ok {n : Nat} {T : yG} {i : Nat} (hi : i < yW n T 0) {k : Nat} (hk : k < n) : ypk n T i k < n ∧ ynx T (yq n T i k).1 (ypk n T i k) ∧ yps n T (yq n T i k).1 (ypk n T i k) ≤ (yq n T i k).2 ∧ (yq n T i k).2 < yps n T (yq n T i k).1 (ypk n T i k) + yW n T ((yq n T i k).1 ||| 2 ^ (ypk n T i k)) := by
  obtain ⟨h1, h2, h3⟩ := yq_ok hi k (by omega)
  refine ypc_s h1 ?_ h3
  intro e
  rw [e, ysz_all] at h2
  omega
/-- the class's post by a number -/
theorem s_sa_45 {n : Nat} {T : yG} (hT : yPo n T) (hn : n ≤ 8) {m : xmm} (h : yRK n T m) {S left i : Nat} (hS : S < 2 ^ n) (hne : S ≠ 2 ^ n - 1) (hl : left < yW n T S) (v2 : Int32) : ∀ (d p : Nat), p + d = ypc n T S left → ∀ (last : Int32) {z : Int32 × xmm}, bX5_straightAt_123_109 v2 (nI (left - yps n T S (ypc n T S left))) (nI S) (nI (ypc n T S left)) (nI i) m = some z → bX5_straightAt_123_45 v2 (nI (left - yps n T S p)) (nI S) last (nI i) (nI p) m = some z := by
  have h8 := y2p8 hn
  obtain ⟨p1, p2, p3, p4⟩ := ypc_s hS hne hl
  have hl2 := yW_le hn T S
  intro d
  induction d with
  | zero =>
    intro p hp last z hz
    have e : p = ypc n T S left := by omega
    rw [e]
    apply bX5_straightAt_123_45_i
    have b1 := yor2_lt hS p1
    have b2 := yW_le hn T (S ||| 2 ^ (ypc n T S left))
    simp (disch := omega) only [yl3, yl4, yl5, yl6, yl7, yl8, yl9, yl10, yl13, yl16, yl20, yl21, yl22, yl23, yl24, yl32, yl40, yl48, yl57, yl59, yl63, yl64, yl97, yl99, yl122, yl255, yl256, yl400, yl1000, yl2000, yl2048, yc0_eq, yc0_eq2, yc0_le, yc0_ge, yc0_lt, yc0_gt, yc0_ad, yc0_da, yc0_sb, yc0_ml, yc0_lm, yc1_eq, yc1_eq2, yc1_le, yc1_ge, yc1_lt, yc1_gt, yc1_ad, yc1_da, yc1_sb, yc1_ml, yc1_lm, yc2_eq, yc2_eq2, yc2_le, yc2_ge, yc2_lt, yc2_gt, yc2_ad, yc2_da, yc2_sb, yc2_ml, yc2_lm, yc31_ge, ymodn, yI_1sl, yc2_dv, yn1_eq, yn1_lt, xgd_t, xlt_e, Option.bind_some, nI_add, pk_mul, pk_sub, pk_div, pk_rem, yI_and, yI_or, yI_xor, yI_nd, yI_nd2, yI_31, yI_shl, nI_leI, nI_ltI, nI_eq, nI_clamp, xinb_t, yP_z, yP_if, h.1.1, if_neg, s_isNext hT hn h.1, yif_t p2, h.2.2 _ b1]
    exact hz
  | succ d ih =>
    intro p hp last z hz
    have m1 := yps_mono n T S (a := p + 1) (b := ypc n T S left) (by omega)
    rw [yps_s] at m1
    apply bX5_straightAt_123_45_i
    by_cases hx : ynx T S p
    · rw [yif_t hx] at m1
      have b1 := yor2_lt hS (by omega : p < n)
      have b2 := yW_le hn T (S ||| 2 ^ p)
      have e2 : left - yps n T S p - yW n T (S ||| 2 ^ p) = left - yps n T S (p + 1) := by rw [yps_s, yif_t hx]; omega
      simp (disch := omega) only [yl3, yl4, yl5, yl6, yl7, yl8, yl9, yl10, yl13, yl16, yl20, yl21, yl22, yl23, yl24, yl32, yl40, yl48, yl57, yl59, yl63, yl64, yl97, yl99, yl122, yl255, yl256, yl400, yl1000, yl2000, yl2048, yc0_eq, yc0_eq2, yc0_le, yc0_ge, yc0_lt, yc0_gt, yc0_ad, yc0_da, yc0_sb, yc0_ml, yc0_lm, yc1_eq, yc1_eq2, yc1_le, yc1_ge, yc1_lt, yc1_gt, yc1_ad, yc1_da, yc1_sb, yc1_ml, yc1_lm, yc2_eq, yc2_eq2, yc2_le, yc2_ge, yc2_lt, yc2_gt, yc2_ad, yc2_da, yc2_sb, yc2_ml, yc2_lm, yc31_ge, ymodn, yI_1sl, yc2_dv, yn1_eq, yn1_lt, xgd_t, xlt_e, Option.bind_some, nI_add, pk_mul, pk_sub, pk_div, pk_rem, yI_and, yI_or, yI_xor, yI_nd, yI_nd2, yI_31, yI_shl, nI_leI, nI_ltI, nI_eq, nI_clamp, xinb_t, yP_z, yP_if, h.1.1, if_neg, s_isNext hT hn h.1, yif_t hx, h.2.2 _ b1, if_pos, e2]
      exact ih (p + 1) (by omega) _ hz
    · have e2 : yps n T S (p + 1) = yps n T S p := by rw [yps_s, yif_f hx]; omega
      simp (disch := omega) only [yl3, yl4, yl5, yl6, yl7, yl8, yl9, yl10, yl13, yl16, yl20, yl21, yl22, yl23, yl24, yl32, yl40, yl48, yl57, yl59, yl63, yl64, yl97, yl99, yl122, yl255, yl256, yl400, yl1000, yl2000, yl2048, yc0_eq, yc0_eq2, yc0_le, yc0_ge, yc0_lt, yc0_gt, yc0_ad, yc0_da, yc0_sb, yc0_ml, yc0_lm, yc1_eq, yc1_eq2, yc1_le, yc1_ge, yc1_lt, yc1_gt, yc1_ad, yc1_da, yc1_sb, yc1_ml, yc1_lm, yc2_eq, yc2_eq2, yc2_le, yc2_ge, yc2_lt, yc2_gt, yc2_ad, yc2_da, yc2_sb, yc2_ml, yc2_lm, yc31_ge, ymodn, yI_1sl, yc2_dv, yn1_eq, yn1_lt, xgd_t, xlt_e, Option.bind_some, nI_add, pk_mul, pk_sub, pk_div, pk_rem, yI_and, yI_or, yI_xor, yI_nd, yI_nd2, yI_31, yI_shl, nI_leI, nI_ltI, nI_eq, nI_clamp, xinb_t, yP_z, yP_if, h.1.1, if_neg, s_isNext hT hn h.1, yif_f hx]
      have := ih (p + 1) (by omega) last hz
      rw [e2] at this
      exact this
theorem s_sa_27 {n : Nat} {T : yG} (hT : yPo n T) (hn : n ≤ 8) {m : xmm} (h : yRK n T m) {i k : Nat} (hi : i < yW n T 0) (hk : k < n) : ∀ (d j : Nat), j + d = k → ∀ (last : Int32), bX5_straightAt_123_27 (nI k) (nI (yq n T i j).2) (nI (yq n T i j).1) last (nI j) m = some (nI (ypk n T i k), m) := by
  have h8 := y2p8 hn
  intro d
  induction d with
  | zero =>
    intro j hj last
    have e : j = k := by omega
    subst e
    obtain ⟨h1, h2, h3⟩ := yq_ok hi j (by omega)
    have hne : (yq n T i j).1 ≠ 2 ^ n - 1 := by
      intro e
      rw [e, ysz_all] at h2
      omega
    obtain ⟨p1, p2, p3, p4⟩ := ypk_ok hi hk
    have hend : bX5_straightAt_123_109 (nI j) (nI ((yq n T i j).2 - yps n T (yq n T i j).1 (ypc n T (yq n T i j).1 (yq n T i j).2))) (nI (yq n T i j).1) (nI (ypc n T (yq n T i j).1 (yq n T i j).2)) (nI j) m = some (nI (ypk n T i j), m) := by
      apply bX5_straightAt_123_109_i
      apply bX5_straightAt_123_27_i
      simp (disch := omega) only [yl3, yl4, yl5, yl6, yl7, yl8, yl9, yl10, yl13, yl16, yl20, yl21, yl22, yl23, yl24, yl32, yl40, yl48, yl57, yl59, yl63, yl64, yl97, yl99, yl122, yl255, yl256, yl400, yl1000, yl2000, yl2048, yc0_eq, yc0_eq2, yc0_le, yc0_ge, yc0_lt, yc0_gt, yc0_ad, yc0_da, yc0_sb, yc0_ml, yc0_lm, yc1_eq, yc1_eq2, yc1_le, yc1_ge, yc1_lt, yc1_gt, yc1_ad, yc1_da, yc1_sb, yc1_ml, yc1_lm, yc2_eq, yc2_eq2, yc2_le, yc2_ge, yc2_lt, yc2_gt, yc2_ad, yc2_da, yc2_sb, yc2_ml, yc2_lm, yc31_ge, ymodn, yI_1sl, yc2_dv, yn1_eq, yn1_lt, xgd_t, xlt_e, Option.bind_some, nI_add, pk_mul, pk_sub, pk_div, pk_rem, yI_and, yI_or, yI_xor, yI_nd, yI_nd2, yI_31, yI_shl, nI_leI, nI_ltI, nI_eq, nI_clamp, xinb_t, yP_z, yP_if, if_pos]
      rfl
    have := s_sa_45 hT hn h h1 hne h3 (nI j) _ 0 (Nat.zero_add _) last hend
    apply bX5_straightAt_123_27_i
    simp (disch := omega) only [yl3, yl4, yl5, yl6, yl7, yl8, yl9, yl10, yl13, yl16, yl20, yl21, yl22, yl23, yl24, yl32, yl40, yl48, yl57, yl59, yl63, yl64, yl97, yl99, yl122, yl255, yl256, yl400, yl1000, yl2000, yl2048, yc0_eq, yc0_eq2, yc0_le, yc0_ge, yc0_lt, yc0_gt, yc0_ad, yc0_da, yc0_sb, yc0_ml, yc0_lm, yc1_eq, yc1_eq2, yc1_le, yc1_ge, yc1_lt, yc1_gt, yc1_ad, yc1_da, yc1_sb, yc1_ml, yc1_lm, yc2_eq, yc2_eq2, yc2_le, yc2_ge, yc2_lt, yc2_gt, yc2_ad, yc2_da, yc2_sb, yc2_ml, yc2_lm, yc31_ge, ymodn, yI_1sl, yc2_dv, yn1_eq, yn1_lt, xgd_t, xlt_e, Option.bind_some, nI_add, pk_mul, pk_sub, pk_div, pk_rem, yI_and, yI_or, yI_xor, yI_nd, yI_nd2, yI_31, yI_shl, nI_leI, nI_ltI, nI_eq, nI_clamp, xinb_t, yP_z, yP_if, if_neg, h.1.1]
    exact this
  | succ d ih =>
    intro j hj last
    obtain ⟨h1, h2, h3⟩ := yq_ok hi j (by omega)
    have hne : (yq n T i j).1 ≠ 2 ^ n - 1 := by
      intro e
      rw [e, ysz_all] at h2
      omega
    obtain ⟨p1, p2, p3, p4⟩ := ypk_ok hi (k := j) (by omega)
    have hend : bX5_straightAt_123_109 (nI k) (nI ((yq n T i j).2 - yps n T (yq n T i j).1 (ypc n T (yq n T i j).1 (yq n T i j).2))) (nI (yq n T i j).1) (nI (ypc n T (yq n T i j).1 (yq n T i j).2)) (nI j) m = some (nI (ypk n T i k), m) := by
      apply bX5_straightAt_123_109_i
      have e : ypc n T (yq n T i j).1 (yq n T i j).2 = ypk n T i j := rfl
      rw [e]
      simp (disch := omega) only [yl3, yl4, yl5, yl6, yl7, yl8, yl9, yl10, yl13, yl16, yl20, yl21, yl22, yl23, yl24, yl32, yl40, yl48, yl57, yl59, yl63, yl64, yl97, yl99, yl122, yl255, yl256, yl400, yl1000, yl2000, yl2048, yc0_eq, yc0_eq2, yc0_le, yc0_ge, yc0_lt, yc0_gt, yc0_ad, yc0_da, yc0_sb, yc0_ml, yc0_lm, yc1_eq, yc1_eq2, yc1_le, yc1_ge, yc1_lt, yc1_gt, yc1_ad, yc1_da, yc1_sb, yc1_ml, yc1_lm, yc2_eq, yc2_eq2, yc2_le, yc2_ge, yc2_lt, yc2_gt, yc2_ad, yc2_da, yc2_sb, yc2_ml, yc2_lm, yc31_ge, ymodn, yI_1sl, yc2_dv, yn1_eq, yn1_lt, xgd_t, xlt_e, Option.bind_some, nI_add, pk_mul, pk_sub, pk_div, pk_rem, yI_and, yI_or, yI_xor, yI_nd, yI_nd2, yI_31, yI_shl, nI_leI, nI_ltI, nI_eq, nI_clamp, xinb_t, yP_z, yP_if]
      have := ih (j + 1) (by omega) (nI (ypk n T i j))
      rw [yq_s] at this
      exact this
    have := s_sa_45 hT hn h h1 hne h3 (nI k) _ 0 (Nat.zero_add _) last hend
    apply bX5_straightAt_123_27_i
    simp (disch := omega) only [yl3, yl4, yl5, yl6, yl7, yl8, yl9, yl10, yl13, yl16, yl20, yl21, yl22, yl23, yl24, yl32, yl40, yl48, yl57, yl59, yl63, yl64, yl97, yl99, yl122, yl255, yl256, yl400, yl1000, yl2000, yl2048, yc0_eq, yc0_eq2, yc0_le, yc0_ge, yc0_lt, yc0_gt, yc0_ad, yc0_da, yc0_sb, yc0_ml, yc0_lm, yc1_eq, yc1_eq2, yc1_le, yc1_ge, yc1_lt, yc1_gt, yc1_ad, yc1_da, yc1_sb, yc1_ml, yc1_lm, yc2_eq, yc2_eq2, yc2_le, yc2_ge, yc2_lt, yc2_gt, yc2_ad, yc2_da, yc2_sb, yc2_ml, yc2_lm, yc31_ge, ymodn, yI_1sl, yc2_dv, yn1_eq, yn1_lt, xgd_t, xlt_e, Option.bind_some, nI_add, pk_mul, pk_sub, pk_div, pk_rem, yI_and, yI_or, yI_xor, yI_nd, yI_nd2, yI_31, yI_shl, nI_leI, nI_ltI, nI_eq, nI_clamp, xinb_t, yP_z, yP_if, if_neg, h.1.1]
    exact this
theorem s_straightAt {n : Nat} {T : yG} (hT : yPo n T) (hn : n ≤ 8) {m : xmm} (h : yRK n T m) {i k : Nat} (hi : i < 2 ^ 31) (hk : k < n) : fX5_straightAt_123 (nI i) (nI k) m = some (yif (i < yW n T 0) (nI (ypk n T i k)) (-1), m) := by
  have b := yW_le hn T 0
  have h0 := h.2.2 0 (Nat.two_pow_pos n)
  apply fX5_straightAt_123_i
  by_cases h1 : i < yW n T 0
  · rw [yif_t h1]
    simp (disch := omega) only [yl3, yl4, yl5, yl6, yl7, yl8, yl9, yl10, yl13, yl16, yl20, yl21, yl22, yl23, yl24, yl32, yl40, yl48, yl57, yl59, yl63, yl64, yl97, yl99, yl122, yl255, yl256, yl400, yl1000, yl2000, yl2048, yc0_eq, yc0_eq2, yc0_le, yc0_ge, yc0_lt, yc0_gt, yc0_ad, yc0_da, yc0_sb, yc0_ml, yc0_lm, yc1_eq, yc1_eq2, yc1_le, yc1_ge, yc1_lt, yc1_gt, yc1_ad, yc1_da, yc1_sb, yc1_ml, yc1_lm, yc2_eq, yc2_eq2, yc2_le, yc2_ge, yc2_lt, yc2_gt, yc2_ad, yc2_da, yc2_sb, yc2_ml, yc2_lm, yc31_ge, ymodn, yI_1sl, yc2_dv, yn1_eq, yn1_lt, xgd_t, xlt_e, Option.bind_some, nI_add, pk_mul, pk_sub, pk_div, pk_rem, yI_and, yI_or, yI_xor, yI_nd, yI_nd2, yI_31, yI_shl, nI_leI, nI_ltI, nI_eq, nI_clamp, xinb_t, yP_z, yP_if, if_neg, if_pos, h0]
    exact s_sa_27 hT hn h h1 hk k 0 (by omega) (-1)
  · rw [yif_f h1]
    simp (disch := omega) only [yl3, yl4, yl5, yl6, yl7, yl8, yl9, yl10, yl13, yl16, yl20, yl21, yl22, yl23, yl24, yl32, yl40, yl48, yl57, yl59, yl63, yl64, yl97, yl99, yl122, yl255, yl256, yl400, yl1000, yl2000, yl2048, yc0_eq, yc0_eq2, yc0_le, yc0_ge, yc0_lt, yc0_gt, yc0_ad, yc0_da, yc0_sb, yc0_ml, yc0_lm, yc1_eq, yc1_eq2, yc1_le, yc1_ge, yc1_lt, yc1_gt, yc1_ad, yc1_da, yc1_sb, yc1_ml, yc1_lm, yc2_eq, yc2_eq2, yc2_le, yc2_ge, yc2_lt, yc2_gt, yc2_ad, yc2_da, yc2_sb, yc2_ml, yc2_lm, yc31_ge, ymodn, yI_1sl, yc2_dv, yn1_eq, yn1_lt, xgd_t, xlt_e, Option.bind_some, nI_add, pk_mul, pk_sub, pk_div, pk_rem, yI_and, yI_or, yI_xor, yI_nd, yI_nd2, yI_31, yI_shl, nI_leI, nI_ltI, nI_eq, nI_clamp, xinb_t, yP_z, yP_if, if_neg, h0]
