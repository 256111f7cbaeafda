/-! an order: levels and chains, sets closed below, jumps, places, arrows -/
theorem wmn {P : Nat → Prop} {n m : Nat} (h : n ≤ m) : yct P n ≤ yct P m := by
  obtain ⟨d, rfl⟩ := Nat.exists_eq_add_of_le h
  rw [yct_add]
  omega
theorem wpp_sz (S : Nat) : ysz 8 S = ypp S := rfl
theorem wpp_n {n S : Nat} (hn : n ≤ 8) (hS : S < 2 ^ n) : ypp S = ysz n S := yct_ext hn fun k h1 _ hb => by have := ytb_of hS hb; omega
theorem wpp_add {S p : Nat} (hp : p < 8) (h : ¬ yb S p) : ypp (S ||| 2 ^ p) = ypp S + 1 := ysz_add (n := 8) hp h
theorem wpp_sub {A B : Nat} (h : ysb A B) : ypp A ≤ ypp B := yct_sub fun k _ hk => h k hk
theorem wpp_pw {p : Nat} (hp : p < 8) : ypp (2 ^ p) = 1 := by
  have := wpp_add (S := 0) hp yb_0
  rw [Nat.zero_or, ypp_0 (fun _ => yb_0)] at this
  exact this
theorem wcov_ex {n : Nat} {T : yG} (hT : yPo n T) {a : Nat} (h : ∃ c, T a c) : ∃ c, T a c ∧ ∀ q, T a q → ¬ T q c := by
  obtain ⟨c, h1, h2⟩ := yex_min hT (P := fun c => T a c) h
  exact ⟨c, h1, fun q hq hqc => h2 q hqc hq⟩
/-- the greatest level -/
noncomputable def wlm (n : Nat) (T : yG) : Nat := ymx (fun p => ylev n T p) n
theorem wclq_le {n : Nat} {T : yG} (hT : yPo n T) (hn : n ≤ 8) {S : Nat} (hS : S < 2 ^ n) (hc : ∀ p q, p ≠ q → yb S p → yb S q → T p q ∨ T q p) : ypp S ≤ wlm n T + 1 := by
  refine winj (wlm n T + 1) (fun p => ylev n T p) (fun q _ hq => ?_) (fun q r _ _ hq hr e => ?_)
  · have : ylev n T q ≤ wlm n T := ymx_ge (f := fun p => ylev n T p) (ytb_of hS hq)
    show ylev n T q < wlm n T + 1
    omega
  · refine Classical.byContradiction fun hne => ?_
    have e : ylev n T q = ylev n T r := e
    rcases hc q r hne hq hr with h | h
    · have := ylev_ge hT h; omega
    · have := ylev_ge hT h; omega
theorem wchn_ex {n : Nat} {T : yG} (hT : yPo n T) (hn : n ≤ 8) : ∀ k p, p < n → ylev n T p = k → ∃ S, S < 2 ^ n ∧ (∀ q, yb S q → q = p ∨ T q p) ∧ (∀ q r, q ≠ r → yb S q → yb S r → T q r ∨ T r q) ∧ ypp S = k + 1 := by
  intro k
  induction k with
  | zero =>
    intro p hp _
    refine ⟨2 ^ p, Nat.pow_lt_pow_right (by decide) hp, fun q hq => Or.inl (yb_pw.mp hq), fun q r hne hq hr => absurd ((yb_pw.mp hq).trans (yb_pw.mp hr).symm) hne, wpp_pw (by omega)⟩
  | succ k ih =>
    intro p hp hl
    rcases ylev_at hT p with h | ⟨q, hq, h⟩
    · omega
    · obtain ⟨S, h1, h2, h3, h4⟩ := ih q (hT.1 _ _ hq).1 (by omega)
      have hup : ∀ r, yb S r → T r p := fun r hr => by
        rcases h2 r hr with e | e
        · rw [e]; exact hq
        · exact hT.2.2 _ _ _ e hq
      have hnp : ¬ yb S p := fun hb => hT.2.1 p (hup p hb)
      refine ⟨S ||| 2 ^ p, yor2_lt h1 hp, fun r hr => ?_, fun a b hne ha hb => ?_, by rw [wpp_add (by omega) hnp, h4]⟩
      · rcases yb_or.mp hr with hr | hr
        · exact Or.inr (hup r hr)
        · exact Or.inl (yb_pw.mp hr)
      · rcases yb_or.mp ha with ha | ha
        · rcases yb_or.mp hb with hb | hb
          · exact h3 a b hne ha hb
          · rw [yb_pw.mp hb]; exact Or.inl (hup a ha)
        · rcases yb_or.mp hb with hb | hb
          · rw [yb_pw.mp ha]; exact Or.inr (hup b hb)
          · exact absurd ((yb_pw.mp ha).trans (yb_pw.mp hb).symm) hne
theorem wcmp {g T : yG} (h : yTO g T) {p q : Nat} : g p q → T p q ∨ T q p := h.2.1 p q
theorem wcmp' {R : Nat → Nat} {n : Nat} (hG : yGr n R) {T : yG} (h : yTO (yad R) T) {p q : Nat} (e : T p q ∨ T q p) : yad R p q := by
  rcases e with e | e
  · exact h.1 p q e
  · exact hG.2.2.2.1 _ _ (h.1 q p e)
/-- the longest chain is one more than the greatest level -/
theorem wlong {n : Nat} {R : Nat → Nat} (hG : yGr n R) (ho : yord (yad R)) (b : Nat) : ypp (ygs (ychn R) (2 ^ n)) = if n = 0 then 0 else wlm n (yT R b) + 1 := by
  have hT := yT_po hG ho b
  have hO := yT_TO (yGr_gd hG) ho b
  have h1 := y2p1 n
  have hP : ychn R (ygs (ychn R) (2 ^ n)) := wgs_P (fun p q _ hp => absurd hp yb_0) _
  have hlt : ygs (ychn R) (2 ^ n) < 2 ^ n := by
    rcases ygs_lt (ychn R) (2 ^ n) with h | h
    · exact h
    · omega
  by_cases h0 : n = 0
  · rw [if_pos h0]
    subst h0
    exact ypp_0 fun a ha => absurd (ytb_of hlt ha) (Nat.not_lt_zero a)
  · rw [if_neg h0]
    refine Nat.le_antisymm (wclq_le hT hG.1 hlt fun p q hne hp hq => hO.2.1 p q (hP p q hne hp hq)) ?_
    obtain ⟨p, hp, hl⟩ : ∃ p, p < n ∧ ylev n (yT R b) p = wlm n (yT R b) := by
      rcases ymx_at (f := fun p => ylev n (yT R b) p) (n := n) with h | ⟨j, hj, h⟩
      · refine ⟨0, by omega, ?_⟩
        have : ylev n (yT R b) 0 ≤ wlm n (yT R b) := ymx_ge (f := fun p => ylev n (yT R b) p) (by omega)
        unfold wlm at this ⊢
        omega
      · exact ⟨j, hj, h.symm⟩
    obtain ⟨S, s1, s2, s3, s4⟩ := wchn_ex hT hG.1 _ p hp hl
    rw [← s4]
    exact wgs_ge _ S s1 fun a c hne ha hc => wcmp' hG hO (s3 a c hne ha hc)
/-- sets closed below: more than posts -/
theorem wct_ge {P : Nat → Prop} (D : Nat → Nat) : ∀ k, (∀ j, j ≤ k → P (D j)) → (∀ j, j < k → D j < D (j + 1)) → k + 1 ≤ yct P (D k + 1) := by
  intro k
  induction k with
  | zero => intro h _; exact yct_1 (i := D 0) (Nat.lt_succ_self _) (h 0 (Nat.le_refl _))
  | succ k ih =>
    intro h h2
    have a := ih (fun j hj => h j (by omega)) (fun j hj => h2 j (by omega))
    have b := wmn (P := P) (show D k + 1 ≤ D (k + 1) by have := h2 k (by omega); omega)
    rw [yct_s, yif_t (h (k + 1) (Nat.le_refl _))]
    omega
theorem wdown {n : Nat} {T : yG} (hT : yPo n T) : n + 1 ≤ yct (fun S => ydw T S) (2 ^ n) := by
  have hi : 0 < yW n T 0 := yW_pos hT (ydw_0 T)
  have a := wct_ge (P := fun S => ydw T S) (fun k => (yq n T 0 k).1) n (fun j hj => yq_dw hi j hj) (fun j hj => by
    show (yq n T 0 j).1 < (yq n T 0 (j + 1)).1
    rw [yq_s]
    exact yor2_gt (ypk_ok hi hj).2.1.1)
  have b := wmn (P := fun S => ydw T S) (show (yq n T 0 n).1 + 1 ≤ 2 ^ n from (yq_ok hi n (Nat.le_refl n)).1)
  exact Nat.le_trans a b
/-- places in the first straight order -/
theorem wpl_ge {n : Nat} {T : yG} (hT : yPo n T) (hn : n ≤ 8) {p : Nat} (hp : p < n) : ypp (yci T p) ≤ ypl n T p := by
  have hi : 0 < yW n T 0 := yW_pos hT (ydw_0 T)
  obtain ⟨h1, h2⟩ := ypl_s hT hp
  have h3 := (ypk_ok hi h1).2.1
  rw [h2] at h3
  obtain ⟨h4, h5, -⟩ := yq_ok hi (ypl n T p) (by omega)
  calc ypp (yci T p) ≤ ypp (yq n T 0 (ypl n T p)).1 := wpp_sub fun q hq => h3.2 q ((yci_b hT hn).mp hq)
    _ = ypl n T p := by rw [wpp_n hn h4, h5]
theorem wpl_lt {n : Nat} {T : yG} (hT : yPo n T) {q p : Nat} (e : T q p) : ypl n T q < ypl n T p := by
  have hi : 0 < yW n T 0 := yW_pos hT (ydw_0 T)
  obtain ⟨hq, hp⟩ := hT.1 _ _ e
  obtain ⟨h1, h2⟩ := ypl_s hT hp
  obtain ⟨h1', h2'⟩ := ypl_s hT hq
  have h3 := (ypk_ok hi h1).2.1
  rw [h2] at h3
  obtain ⟨j, hj, e2⟩ := (yq_b _ _).mp (h3.2 q e)
  have := ypk_in hT (show j < n by omega) h1' (e2.trans h2'.symm)
  omega
theorem wpl_k {n : Nat} {T : yG} (hT : yPo n T) {k : Nat} (hk : k < n) : ypl n T (ypk n T 0 k) = k := by
  have hi : 0 < yW n T 0 := yW_pos hT (ydw_0 T)
  obtain ⟨h1, h2⟩ := ypl_s hT (ypk_ok hi hk).1
  exact ypk_in hT h1 hk h2
/-- jumps: not more than posts but one, not fewer than chains but one -/
theorem wjmp_le {n : Nat} {T : yG} (hT : yPo n T) (hn : n ≤ 8) : yJF n T ≤ n - 1 := by
  unfold yJF
  by_cases h : n = 0
  · rw [if_pos h]; omega
  · rw [if_neg h]
    have h99 := yJF_lt hT hn h
    obtain ⟨j, hj, e⟩ := ymn_at (f := fun p => yJ n T (2 ^ n - 1) p) (n := n) (by omega)
    have e : ymn (fun p => yJ n T (2 ^ n - 1) p) n = yJ n T (2 ^ n - 1) j := e
    have h2 := (yJe_le (n := n) (T := T) (ysz n (2 ^ n - 1)) (2 ^ n - 1) j).2
    have h3 : yJe n T (ysz n (2 ^ n - 1)) (2 ^ n - 1) j = yJ n T (2 ^ n - 1) j := rfl
    rw [h3, ysz_all] at h2
    have := h2 (by omega)
    omega
theorem wjmp_c {n : Nat} {T : yG} (hT : yPo n T) : ∀ S, S < 2 ^ n → ∀ p, yJ n T S p < 1000 → ∃ f : Nat → Nat, (∀ q, yb S q → f q ≤ yJ n T S p) ∧ (∀ q r, yb S q → yb S r → q ≠ r → f q = f r → T q r ∨ T r q) ∧ ∀ q, yb S q → f q = yJ n T S p → q = p ∨ T q p := by
  intro S
  induction S using Nat.strongRecOn with
  | _ S ih =>
  intro hS p hJ
  have hk := yJ_in hS hJ
  have hm : ∀ q, yb (ynd S (2 ^ p)) q ↔ yb S q ∧ q ≠ p := fun q => by rw [yb_nd, yb_pw]
  have e := yJ_eq (T := T) (p := p) hS
  rw [yif_t hk] at e
  by_cases h0 : ynd S (2 ^ p) = 0
  · rw [if_pos h0] at e
    have hall : ∀ q, yb S q → q = p := fun q hq => Classical.byContradiction fun hne => by
      have := (hm q).mpr ⟨hq, hne⟩
      rw [h0] at this
      exact yb_0 this
    exact ⟨fun _ => 0, fun q _ => Nat.zero_le _, fun q r hq hr hne _ => absurd ((hall q hq).trans (hall r hr).symm) hne, fun q hq _ => Or.inl (hall q hq)⟩
  · rw [if_neg h0] at e
    obtain ⟨q, hq, e2⟩ := ymn_at (f := fun q => yjc T (yJ n T (ynd S (2 ^ p)) q) q p) (n := n) (by omega)
    have e2 : ymn (fun q => yjc T (yJ n T (ynd S (2 ^ p)) q) q p) n = yjc T (yJ n T (ynd S (2 ^ p)) q) q p := e2
    have e3 : yJ n T S p = yjc T (yJ n T (ynd S (2 ^ p)) q) q p := e.trans e2
    unfold yjc at e3
    by_cases hb : yJ n T (ynd S (2 ^ p)) q < 1000
    · rw [if_pos hb] at e3
      have hlt : ynd S (2 ^ p) < S := ysb_lt (fun r hr => ((hm r).mp hr).1) hk.1 (fun h => ((hm p).mp h).2 rfl)
      obtain ⟨f, f1, f2, f3⟩ := ih _ hlt (by omega) q hb
      have key : ∀ r, yb S r → r ≠ p → f r = yJ n T S p → T r p := by
        intro r hr hne he
        have h1 := f1 r ((hm r).mpr ⟨hr, hne⟩)
        by_cases ht : T q p
        · rw [yif_t ht] at e3
          rcases f3 r ((hm r).mpr ⟨hr, hne⟩) (by omega) with h | h
          · rw [h]; exact ht
          · exact hT.2.2 _ _ _ h ht
        · rw [yif_f ht] at e3
          omega
      refine ⟨fun r => if r = p then yJ n T S p else f r, fun r hr => ?_, fun r s hr hs hne he => ?_, fun r hr he => ?_⟩
      · show (if r = p then yJ n T S p else f r) ≤ _
        by_cases er : r = p
        · rw [if_pos er]; exact Nat.le_refl _
        · rw [if_neg er]
          have := f1 r ((hm r).mpr ⟨hr, er⟩)
          omega
      · have he : (if r = p then yJ n T S p else f r) = (if s = p then yJ n T S p else f s) := he
        by_cases er : r = p
        · have es : s ≠ p := fun t => hne (er.trans t.symm)
          rw [if_pos er, if_neg es] at he
          rw [er]
          exact Or.inr (key s hs es he.symm)
        · by_cases es : s = p
          · rw [if_neg er, if_pos es] at he
            rw [es]
            exact Or.inl (key r hr er he)
          · rw [if_neg er, if_neg es] at he
            exact f2 r s ((hm r).mpr ⟨hr, er⟩) ((hm s).mpr ⟨hs, es⟩) hne he
      · have he : (if r = p then yJ n T S p else f r) = yJ n T S p := he
        by_cases er : r = p
        · exact Or.inl er
        · rw [if_neg er] at he
          exact Or.inr (key r hr er he)
    · rw [if_neg hb] at e3
      omega
theorem wjmp_ge {n : Nat} {R : Nat → Nat} (hG : yGr n R) (ho : yord (yad R)) (b : Nat) : ync R n ≤ yJF n (yT R b) + 1 := by
  have hT := yT_po hG ho b
  have hO := yT_TO (yGr_gd hG) ho b
  obtain ⟨-, hmin⟩ := ync_s R n
  by_cases h : n = 0
  · have := ync_le R n; omega
  · have h99 := yJF_lt hT hG.1 h
    unfold yJF
    rw [if_neg h]
    obtain ⟨p, hp, e⟩ := ymn_at (f := fun p => yJ n (yT R b) (2 ^ n - 1) p) (n := n) (by omega)
    have e : ymn (fun p => yJ n (yT R b) (2 ^ n - 1) p) n = yJ n (yT R b) (2 ^ n - 1) p := e
    rw [e]
    obtain ⟨f, f1, f2, -⟩ := wjmp_c hT (2 ^ n - 1) (yall_lt n) p (by omega)
    refine Nat.le_of_not_lt fun hc => hmin _ hc ⟨f, fun q _ hq => ⟨Nat.lt_succ_of_le (f1 q (yall_b.mpr hq)), fun r hr => absurd hr yb_0⟩, fun q r _ hqr hr he => ?_⟩
    exact wcmp' hG hO (f2 q r (yall_b.mpr (by omega)) (yall_b.mpr hr) (by omega) he)
/-- the chains that take all -/
theorem wlx {R : Nat → Nat} (hsy : ysy (yad R)) {n c : Nat} : ∀ (d p : Nat) (gs : Nat → Nat), p + d = n → yEx R n c p gs → (∀ q, p ≤ q → q < n → ylx R n c d p gs q < c ∧ ycpt R (gs (ylx R n c d p gs q)) q) ∧ ∀ q r, p ≤ q → q < r → r < n → ylx R n c d p gs q = ylx R n c d p gs r → yad R q r := by
  intro d
  induction d with
  | zero => intro p gs hp _; exact ⟨fun q h1 h2 => by omega, fun q r h1 h2 h3 => by omega⟩
  | succ d ih =>
    intro p gs hp hE
    have hpn : p < n := by omega
    obtain ⟨g, g1, g2⟩ := yleast ((yEx_s hsy hpn).mp hE)
    have eg : yfg R n c p gs = g := yfg_eq g1 fun j hj hh => g2 j hj ⟨by omega, hh.1, hh.2⟩
    have ep : ylx R n c (d + 1) p gs p = g := (if_pos rfl).trans eg
    have en : ∀ q, q ≠ p → ylx R n c (d + 1) p gs q = ylx R n c d (p + 1) (ygu gs g p) q := fun q hq => (if_neg hq).trans (by rw [eg])
    obtain ⟨i1, i2⟩ := ih (p + 1) (ygu gs g p) (by omega) g1.2.2
    refine ⟨fun q h1 h2 => ?_, fun q r h1 h2 h3 he => ?_⟩
    · by_cases e : q = p
      · rw [e, ep]; exact ⟨g1.1, g1.2.1⟩
      · rw [en q e]
        obtain ⟨a, b⟩ := i1 q (by omega) h2
        exact ⟨a, fun r hr => b r (ygu_b.mpr (Or.inl hr))⟩
    · by_cases e : q = p
      · rw [e, ep, en r (by omega)] at he
        have b := (i1 r (by omega) h3).2 p (ygu_b.mpr (Or.inr ⟨he.symm, rfl⟩))
        rw [e]
        exact hsy.1 _ _ b
      · rw [en q e, en r (by omega)] at he
        exact i2 q r (by omega) h2 h3 he
theorem wchains {n : Nat} {R : Nat → Nat} (hG : yGr n R) : (∀ q, q < n → ycq R n q < ync R n) ∧ (∀ q r, q ≠ r → q < n → r < n → ycq R n q = ycq R n r → yad R q r) ∧ ∀ c, c < ync R n → ∃ q, q < n ∧ ycq R n q = c := by
  obtain ⟨hE, hmin⟩ := ync_s R n
  obtain ⟨h1, h2⟩ := wlx hG.2.2.2 n 0 (fun _ => 0) (Nat.zero_add n) hE
  have a1 : ∀ q, q < n → ycq R n q < ync R n := fun q hq => (h1 q (Nat.zero_le _) hq).1
  have a2 : ∀ q r, q < r → r < n → ycq R n q = ycq R n r → yad R q r := fun q r h3 h4 e => h2 q r (Nat.zero_le _) h3 h4 e
  refine ⟨a1, fun q r hne hq hr e => ?_, fun c hc => Classical.byContradiction fun hn => ?_⟩
  · rcases Nat.lt_or_gt_of_ne hne with h | h
    · exact a2 q r h hr e
    · exact hG.2.2.2.1 _ _ (a2 r q h hq e.symm)
  · have hne : ∀ q, q < n → ycq R n q ≠ c := fun q hq e => hn ⟨q, hq, e⟩
    refine hmin (ync R n - 1) (by omega) ⟨fun q => if ycq R n q = ync R n - 1 then c else ycq R n q, fun q _ hq => ⟨?_, fun r hr => absurd hr yb_0⟩, fun q r _ hqr hr e => ?_⟩
    · have b1 := a1 q hq
      have b2 := hne q hq
      show (if ycq R n q = ync R n - 1 then c else ycq R n q) < ync R n - 1
      by_cases e : ycq R n q = ync R n - 1
      · rw [if_pos e]; omega
      · rw [if_neg e]; omega
    · have e : (if ycq R n q = ync R n - 1 then c else ycq R n q) = (if ycq R n r = ync R n - 1 then c else ycq R n r) := e
      apply a2 q r hqr hr
      have b1 := hne q (by omega)
      have b2 := hne r hr
      by_cases e1 : ycq R n q = ync R n - 1
      · by_cases e2 : ycq R n r = ync R n - 1
        · omega
        · rw [if_pos e1, if_neg e2] at e; omega
      · by_cases e2 : ycq R n r = ync R n - 1
        · rw [if_neg e1, if_pos e2] at e; omega
        · rw [if_neg e1, if_neg e2] at e; exact e
