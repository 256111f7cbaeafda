/-! in how many ways: by sets that all others see alike -/
/-- the least of a set stands for it -/
def yqt (S M m0 : Nat) : Nat := ynd S M ||| 2 ^ m0
theorem yqt_b {S M m0 a : Nat} : yb (yqt S M m0) a ↔ (yb S a ∧ ¬ yb M a) ∨ a = m0 := by
  unfold yqt
  rw [yb_or, yb_nd, yb_pw]
/-- the one that stands for a post -/
noncomputable def ypi (M m0 a : Nat) : Nat := yif (yb M a) m0 a
theorem ypi_in {M m0 a : Nat} (h : yb M a) : ypi M m0 a = m0 := yif_t h
theorem ypi_out {M m0 a : Nat} (h : ¬ yb M a) : ypi M m0 a = a := yif_f h
theorem yTO_qt {g : yG} (hg : ysy g) {S M m0 : Nat} (hS : S < 2 ^ 8) (hm : yst g S M) (h0 : yb M m0) {k j : Nat} (h1 : yhc (yTO (yin g M)) k) (h2 : yhc (yTO (yin g (yqt S M m0))) j) : yhc (yTO (yin g S)) (k * j) := by
  have hg' := yin_sy hg S
  have hMS := hm.1.1
  have hQS : ysb (yqt S M m0) S := fun a ha => by
    rcases yqt_b.mp ha with h | h
    · exact h.1
    · rw [h]; exact hMS _ h0
  have piQ : ∀ {a : Nat}, yb S a → yb (yqt S M m0) (ypi M m0 a) := by
    intro a ha
    by_cases h : yb M a
    · rw [ypi_in h]; exact yqt_b.mpr (Or.inr rfl)
    · rw [ypi_out h]; exact yqt_b.mpr (Or.inl ⟨ha, h⟩)
  have piid : ∀ {a : Nat}, yb (yqt S M m0) a → ypi M m0 a = a := by
    intro a ha
    by_cases h : yb M a
    · rcases yqt_b.mp ha with h' | h'
      · exact absurd h h'.2
      · rw [ypi_in h, h']
    · exact ypi_out h
  have gpi : ∀ {a b : Nat}, yb S a → yb S b → ¬ (yb M a ∧ yb M b) → (g (ypi M m0 a) (ypi M m0 b) ↔ g a b) := by
    intro a b ha hb hn
    by_cases h : yb M a
    · by_cases h' : yb M b
      · exact absurd ⟨h, h'⟩ hn
      · rw [ypi_in h, ypi_out h']
        have := hm.1.2.2 b hb h' m0 a h0 h
        exact ⟨fun e => hg.1 _ _ (this.mp (hg.1 _ _ e)), fun e => hg.1 _ _ (this.mpr (hg.1 _ _ e))⟩
    · by_cases h' : yb M b
      · rw [ypi_out h, ypi_in h']
        exact hm.1.2.2 a ha h m0 b h0 h'
      · rw [ypi_out h, ypi_out h']
  have Tpi : ∀ {T : yG}, yTO (yin g S) T → ∀ {a b : Nat}, yb S a → yb S b → ¬ (yb M a ∧ yb M b) → (T (ypi M m0 a) (ypi M m0 b) ↔ T a b) := by
    intro T hT a b ha hb hn
    by_cases h : yb M a
    · by_cases h' : yb M b
      · exact absurd ⟨h, h'⟩ hn
      · rw [ypi_in h, ypi_out h']
        constructor
        · intro e
          have e1 := (hT.1 _ _ e).1
          exact yTO_cl hg' hT (x := (m0, b)) (y := (a, b)) e (ycl_rv hg' (yst_un hg hS hm hb h' h0 h (hg.1 _ _ e1)))
        · intro e
          have e1 := (hT.1 _ _ e).1
          exact yTO_cl hg' hT (x := (a, b)) (y := (m0, b)) e (ycl_rv hg' (yst_un hg hS hm hb h' h h0 (hg.1 _ _ e1)))
    · by_cases h' : yb M b
      · rw [ypi_out h, ypi_in h']
        constructor
        · intro e
          exact yTO_cl hg' hT (x := (a, m0)) (y := (a, b)) e (yst_un hg hS hm ha h h0 h' (hT.1 _ _ e).1)
        · intro e
          exact yTO_cl hg' hT (x := (a, b)) (y := (a, m0)) e (yst_un hg hS hm ha h h' h0 (hT.1 _ _ e).1)
      · rw [ypi_out h, ypi_out h']
  refine yhc_b (fun x : yG × yG => fun a b => (yb M a ∧ yb M b ∧ x.1 a b) ∨ (¬ (yb M a ∧ yb M b) ∧ yb S a ∧ yb S b ∧ x.2 (ypi M m0 a) (ypi M m0 b))) (fun T : yG => ((fun a b => T a b ∧ yb M a ∧ yb M b, fun a b => T a b ∧ yb (yqt S M m0) a ∧ yb (yqt S M m0) b) : yG × yG)) ?_ ?_ (yhc_ml h1 h2)
  · rintro ⟨T1, T2⟩ ⟨hT1, hT2⟩
    dsimp only at hT1 hT2 ⊢
    obtain ⟨p1, p2, p3, p4⟩ := hT1
    obtain ⟨q1, q2, q3, q4⟩ := hT2
    have q0 : ∀ a, ¬ T2 a a := fun a h => q3 a a h h
    refine ⟨⟨?_, ?_, ?_, ?_⟩, ?_⟩
    · rintro a b (⟨a1, b1, h⟩ | ⟨hn, a1, b1, h⟩)
      · exact ⟨(p1 _ _ h).1, hMS _ a1, hMS _ b1⟩
      · exact ⟨(gpi a1 b1 hn).mp (q1 _ _ h).1, a1, b1⟩
    · rintro a b ⟨h, a1, b1⟩
      by_cases hn : yb M a ∧ yb M b
      · rcases p2 a b ⟨h, hn⟩ with h' | h'
        · exact Or.inl (Or.inl ⟨hn.1, hn.2, h'⟩)
        · exact Or.inr (Or.inl ⟨hn.2, hn.1, h'⟩)
      · rcases q2 _ _ ⟨(gpi a1 b1 hn).mpr h, piQ a1, piQ b1⟩ with h' | h'
        · exact Or.inl (Or.inr ⟨hn, a1, b1, h'⟩)
        · exact Or.inr (Or.inr ⟨fun e => hn ⟨e.2, e.1⟩, b1, a1, h'⟩)
    · rintro a b (⟨a1, b1, h⟩ | ⟨hn, a1, b1, h⟩) (⟨b2, a2, h2⟩ | ⟨hn2, b2, a2, h2⟩)
      · exact p3 _ _ h h2
      · exact hn2 ⟨b1, a1⟩
      · exact hn ⟨a2, b2⟩
      · exact q3 _ _ h h2
    · rintro a b c (⟨a1, b1, h⟩ | ⟨hn, a1, b1, h⟩) (⟨b2, c2, h2⟩ | ⟨hn2, b2, c2, h2⟩)
      · exact Or.inl ⟨a1, c2, p4 _ _ _ h h2⟩
      · have hc : ¬ yb M c := fun e => hn2 ⟨b1, e⟩
        rw [ypi_in b1] at h2
        exact Or.inr ⟨fun e => hc e.2, hMS _ a1, c2, by rw [ypi_in a1]; exact h2⟩
      · have ha : ¬ yb M a := fun e => hn ⟨e, b2⟩
        rw [ypi_in b2] at h
        exact Or.inr ⟨fun e => ha e.1, a1, hMS _ c2, by rw [ypi_in c2]; exact h⟩
      · have h3 := q4 _ _ _ h h2
        refine Or.inr ⟨fun e => ?_, a1, c2, h3⟩
        rw [ypi_in e.1, ypi_in e.2] at h3
        exact q0 _ h3
    · refine Prod.ext ?_ ?_
      · dsimp only
        funext a b
        apply propext
        constructor
        · rintro ⟨⟨_, _, h⟩ | ⟨hn, _, _, _⟩, a1, b1⟩
          · exact h
          · exact absurd ⟨a1, b1⟩ hn
        · intro h
          have := p1 _ _ h
          exact ⟨Or.inl ⟨this.2.1, this.2.2, h⟩, this.2.1, this.2.2⟩
      · dsimp only
        funext a b
        apply propext
        constructor
        · rintro ⟨⟨a2, b2, h⟩ | ⟨hn, _, _, h⟩, a1, b1⟩
          · have ea : a = m0 := by rw [← piid a1, ypi_in a2]
            have eb : b = m0 := by rw [← piid b1, ypi_in b2]
            rw [ea, eb] at h
            exact absurd h fun e => p3 _ _ e e
          · rw [piid a1, piid b1] at h
            exact h
        · intro h
          have := q1 _ _ h
          refine ⟨Or.inr ⟨fun e => ?_, hQS _ this.2.1, hQS _ this.2.2, by rw [piid this.2.1, piid this.2.2]; exact h⟩, this.2.1, this.2.2⟩
          have ea : a = m0 := by rw [← piid this.2.1, ypi_in e.1]
          have eb : b = m0 := by rw [← piid this.2.2, ypi_in e.2]
          rw [ea, eb] at h
          exact q0 _ h
  · intro T hT
    dsimp only
    refine ⟨⟨yTO_in hMS hT, yTO_in hQS hT⟩, ?_⟩
    funext a b
    apply propext
    constructor
    · rintro (⟨a1, b1, h, _⟩ | ⟨hn, a1, b1, h, _⟩)
      · exact h
      · exact (Tpi hT a1 b1 hn).mp h
    · intro h
      have := hT.1 _ _ h
      by_cases hn : yb M a ∧ yb M b
      · exact Or.inl ⟨hn.1, hn.2, h, hn⟩
      · exact Or.inr ⟨hn, this.2.1, this.2.2, (Tpi hT this.2.1 this.2.2 hn).mpr h, piQ this.2.1, piQ this.2.2⟩
/-! a network of which no set is seen alike but the trivial ones -/
def yprm (g : yG) (S : Nat) : Prop := ∀ M, ymo g S M → (∀ a b, yb M a → yb M b → a = b) ∨ M = S
theorem yprm_all {g : yG} (hg : ysy g) {S : Nat} (hS : S < 2 ^ 8) (hp : yprm g S) {x : yA} (hx : yin g S x.1 x.2) {y : yA} (hy : yin g S y.1 y.2) : ycl (yin g S) x y ∨ ycl (yin g S) x (yrv y) := by
  have hg' := yin_sy hg S
  have span : ∀ {w : yA}, yin g S w.1 w.2 → ∀ a, yb S a → ∃ y, ycl (yin g S) w y ∧ (y.1 = a ∨ y.2 = a) := by
    intro w hw a ha
    obtain ⟨v1, v2⟩ := yvs_mo hg hS hw
    rcases hp _ v1 with h | h
    · have := h w.1 w.2 ((v2 _).mpr ⟨w, ycl_r _ w, Or.inl rfl⟩) ((v2 _).mpr ⟨w, ycl_r _ w, Or.inr rfl⟩)
      have h' := hw.1
      rw [this] at h'
      exact absurd h' (hg.2 _)
    · exact (v2 a).mp (by rw [h]; exact ha)
  have tri : ∀ {a b c : Nat}, yin g S a b → yin g S a c → yin g S b c → ycl (yin g S) (b, c) (a, c) ∨ ycl (yin g S) (b, c) (b, a) := by
    intro a b c hab hac hbc
    by_cases h1 : ycl (yin g S) (b, c) (a, c)
    · exact Or.inl h1
    · by_cases h2 : ycl (yin g S) (b, c) (b, a)
      · exact Or.inr h2
      · obtain ⟨y, hy, e⟩ := span (w := (b, c)) hbc a hab.2.1
        have := ytri hg' hab hac h1 h2 hy
        rcases e with e | e
        · rw [e] at this; exact absurd this.1.1 (hg.2 a)
        · rw [e] at this; exact absurd this.2.1.1 (hg.2 a)
  let col : yA → Prop := fun y => ycl (yin g S) x y ∨ ycl (yin g S) x (yrv y)
  have col_rv : ∀ {y : yA}, col y → col (yrv y) := fun h => h.symm
  have col_cl : ∀ {y z : yA}, col y → ycl (yin g S) y z → col z := by
    rintro y z (h | h) h2
    · exact Or.inl (ycl_t h h2)
    · exact Or.inr (ycl_t h (ycl_rv hg' h2))
  have at_ : ∀ {u v w : Nat}, yin g S u v → col (u, v) → yin g S u w → col (u, w) := by
    intro u v w huv hc huw
    refine Classical.byContradiction fun hn => ?_
    have hvw : v ≠ w := fun e => by subst e; exact hn hc
    have gvw : yin g S v w := Classical.byContradiction fun h => hn (col_cl hc (ycl_1 ⟨huv, huw, Or.inl ⟨rfl, hvw, h⟩⟩))
    rcases tri (a := w) (b := u) (c := v) (hg'.1 _ _ huw) (hg'.1 _ _ gvw) huv with h | h
    · rcases tri (a := v) (b := u) (c := w) (hg'.1 _ _ huv) gvw huw with h' | h'
      · exact hn (col_cl (col_rv (col_cl hc h)) (ycl_sy hg' h'))
      · exact hn (col_cl hc (ycl_sy hg' h'))
    · exact hn (col_cl hc h)
  obtain ⟨w, hw, e⟩ := span hx y.1 hy.2.1
  have cw : col w := Or.inl hw
  have gw := ycl_e hw hx
  rcases e with e | e
  · have := at_ (u := w.1) (v := w.2) (w := y.2) gw cw (by rw [e]; exact hy)
    rw [e] at this
    exact this
  · have := at_ (u := w.2) (v := w.1) (w := y.2) (hg'.1 _ _ gw) (col_rv cw) (by rw [e]; exact hy)
    rw [e] at this
    exact this
theorem yprm_2 {g : yG} (hg : ysy g) {S : Nat} (hS : S < 2 ^ 8) (hp : yprm g S) (ho : yord (yin g S)) {x : yA} (hx : yin g S x.1 x.2) : yhc (yTO (yin g S)) 2 := by
  have hg' := yin_sy hg S
  have one : ∀ x : yA, yin g S x.1 x.2 → yTO (yin g S) fun a b => ycl (yin g S) x (a, b) := by
    intro x hx
    refine ⟨fun a b h => ycl_e h hx, fun a b h => yprm_all hg hS hp hx (y := (a, b)) h, fun a b h h2 => ho x hx (yodd_of hg' h h2), fun a b c h h2 => ycl_tr hg' hx (ho x hx) h h2⟩
  have two : ∀ (x : yA) (T : yG), yin g S x.1 x.2 → yTO (yin g S) T → T x.1 x.2 → T = fun a b => ycl (yin g S) x (a, b) := by
    intro x T hx hT h
    funext a b
    apply propext
    constructor
    · intro h2
      have e := hT.1 _ _ h2
      rcases yprm_all hg hS hp hx (y := (a, b)) e with h3 | h3
      · exact h3
      · exact absurd h2 (hT.2.2.1 _ _ (yTO_cl hg' hT h h3))
    · intro h2
      exact yTO_cl hg' hT h h2
  refine yhc_2 _ _ ?_ (one x hx) (one (yrv x) (hg'.1 _ _ hx)) ?_
  · intro e
    have : ycl (yin g S) (yrv x) (x.1, x.2) := by
      have h := congrFun (congrFun e x.1) x.2
      rw [← h]
      exact ycl_r _ x
    exact ho (yrv x) (hg'.1 _ _ hx) this
  · intro T hT
    rcases hT.2.1 _ _ hx with h | h
    · exact Or.inl (two x T hx hT h)
    · exact Or.inr (two (yrv x) T (hg'.1 _ _ hx) hT h)
theorem yprm_of {g : yG} (hg : ysy g) {S : Nat} (hS : S < 2 ^ 8) (hst : ∀ M, yst g S M → (∀ a b, yb M a → yb M b → a = b) ∨ M = S) (h1 : ypt g S ≤ 1) (h2 : ypt (yco g) S ≤ 1) : yprm g S := by
  refine Classical.byContradiction fun hn => ?_
  have hex : ∃ d, ∃ M, ymo g S M ∧ ¬ ((∀ a b, yb M a → yb M b → a = b) ∨ M = S) ∧ d = S - M := by
    refine Classical.byContradiction fun h => hn fun M hM => Classical.byContradiction fun h3 => h ⟨S - M, M, hM, h3, rfl⟩
  obtain ⟨d, ⟨M, hM, hM2, rfl⟩, hmin⟩ := yleast hex
  have hns : ¬ yst g S M := fun h => hM2 (hst M h)
  have hov : ∃ M', ymo g S M' ∧ (∃ a, yb M a ∧ yb M' a) ∧ ¬ ysb M M' ∧ ¬ ysb M' M := by
    refine Classical.byContradiction fun h => hns ⟨hM, fun M' m1 m2 => Classical.byContradiction fun h3 => h ⟨M', m1, m2, fun e => h3 (Or.inl e), fun e => h3 (Or.inr e)⟩⟩
  obtain ⟨M', hM', ⟨e, e1, e2⟩, n1, n2⟩ := hov
  have hx1 : ∃ x0, yb M' x0 ∧ ¬ yb M x0 := Classical.byContradiction fun h => n2 fun a ha => Classical.byContradiction fun h3 => h ⟨a, ha, h3⟩
  have hy1 : ∃ y0, yb M y0 ∧ ¬ yb M' y0 := Classical.byContradiction fun h => n1 fun a ha => Classical.byContradiction fun h3 => h ⟨a, ha, h3⟩
  obtain ⟨x0, x1, x2⟩ := hx1
  obtain ⟨y0, y1, y2⟩ := hy1
  have hU : ymo g S (M ||| M') := by
    refine ⟨fun a ha => ?_, ⟨e, yb_or.mpr (Or.inl e1)⟩, ?_⟩
    · rcases yb_or.mp ha with h | h
      · exact hM.1 a h
      · exact hM'.1 a h
    · intro z hz hzn a b ha hb
      have z1 : ¬ yb M z := fun h => hzn (yb_or.mpr (Or.inl h))
      have z2 : ¬ yb M' z := fun h => hzn (yb_or.mpr (Or.inr h))
      have to_e : ∀ a, yb (M ||| M') a → (g z a ↔ g z e) := by
        intro a ha
        rcases yb_or.mp ha with h | h
        · exact hM.2.2 z hz z1 a e h e1
        · exact hM'.2.2 z hz z2 a e h e2
      exact (to_e a ha).trans (to_e b hb).symm
  have hUS : M ||| M' = S := by
    refine Classical.byContradiction fun hne => ?_
    have hlt : M < M ||| M' := ysb_lt (fun a ha => yb_or.mpr (Or.inl ha)) (yb_or.mpr (Or.inr x1)) x2
    have hle : M ||| M' ≤ S := ysb_le hU.1
    refine hmin (S - (M ||| M')) (by omega) ⟨M ||| M', hU, ?_, rfl⟩
    rintro (h | h)
    · have := h x0 y0 (yb_or.mpr (Or.inr x1)) (yb_or.mpr (Or.inl y1))
      rw [this] at x2
      exact x2 y1
    · exact hne h
  have cross : ∀ x y, yb S x → ¬ yb M x → yb M y → (g x y ↔ g x0 y0) := by
    intro x y hx hxn hy
    have hxM' : yb M' x := by
      rw [← hUS] at hx
      rcases yb_or.mp hx with h | h
      · exact absurd h hxn
      · exact h
    have a1 : g x y ↔ g x y0 := hM.2.2 x hx hxn y y0 hy y1
    have a2 : g y0 x ↔ g y0 x0 := hM'.2.2 y0 (hM.1 _ y1) y2 x x0 hxM' x1
    exact a1.trans ⟨fun h => hg.1 _ _ (a2.mp (hg.1 _ _ h)), fun h => hg.1 _ _ (a2.mpr (hg.1 _ _ h))⟩
  by_cases hc : g x0 y0
  · have := ypt_le1 (yco_sy hg) hS h2 (hM.1 _ y1) (hM'.1 _ x1) (fun u => yb M u) y1 (by
      intro u v hu huv hv
      refine Classical.byContradiction fun hvn => huv.2 ?_
      exact hg.1 _ _ ((cross v u hv hvn hu).mpr hc))
    exact x2 this
  · have := ypt_le1 hg hS h1 (hM.1 _ y1) (hM'.1 _ x1) (fun u => yb M u) y1 (by
      intro u v hu huv hv
      refine Classical.byContradiction fun hvn => hc ?_
      exact (cross v u hv hvn hu).mp (hg.1 _ _ huv))
    exact x2 this
/-! a network with all lines -/
def yfa : Nat → Nat
  | 0 => 1
  | n + 1 => (n + 1) * yfa n
noncomputable def ypp (S : Nat) : Nat := yct (fun a => yb S a) 8
theorem ytop {T : yG} {S : Nat} (ht : ∀ a b, yb S a → yb S b → a ≠ b → T a b ∨ T b a) (hr : ∀ a b c, T a b → T b c → T a c) : ∀ n : Nat, (∃ a, a < n ∧ yb S a) → ∃ v, v < n ∧ yb S v ∧ ∀ u, u < n → yb S u → u ≠ v → T u v
  | 0, h => by obtain ⟨a, ha, _⟩ := h; exact absurd ha (Nat.not_lt_zero a)
  | n + 1, h => by
    by_cases hn : ∃ a, a < n ∧ yb S a
    · obtain ⟨v, v1, v2, v3⟩ := ytop ht hr n hn
      by_cases h2 : yb S n
      · rcases ht n v h2 v2 (by omega) with h3 | h3
        · refine ⟨v, by omega, v2, fun u hu hs hne => ?_⟩
          by_cases e : u = n
          · subst e; exact h3
          · exact v3 u (by omega) hs hne
        · refine ⟨n, by omega, h2, fun u hu hs hne => ?_⟩
          by_cases e : u = v
          · subst e; exact h3
          · exact hr _ _ _ (v3 u (by omega) hs e) h3
      · refine ⟨v, by omega, v2, fun u hu hs hne => ?_⟩
        by_cases e : u = n
        · subst e; exact absurd hs h2
        · exact v3 u (by omega) hs hne
    · obtain ⟨a, ha, hs⟩ := h
      have e : a = n := Classical.byContradiction fun hne => hn ⟨a, by omega, hs⟩
      subst e
      refine ⟨a, by omega, hs, fun u hu hs hne => ?_⟩
      exact absurd ⟨u, by omega, hs⟩ hn
theorem ypp_rm {S v : Nat} (hS : S < 2 ^ 8) (hv : yb S v) : ypp S = ypp (ynd S (2 ^ v)) + 1 := by
  have key : ∀ n, yct (fun a => yb S a) n = yct (fun a => yb (ynd S (2 ^ v)) a) n + yif (v < n) 1 0 := by
    intro n
    induction n with
    | zero => rw [yif_f (Nat.not_lt_zero v)]; rfl
    | succ n ih =>
      rw [yct_s, yct_s, ih]
      have e : yb (ynd S (2 ^ v)) n ↔ yb S n ∧ n ≠ v := by rw [yb_nd, yb_pw]
      by_cases h : n = v
      · subst h
        rw [yif_f (Nat.lt_irrefl n), yif_t hv, yif_f (p := yb (ynd S (2 ^ n)) n) (fun h => (e.mp h).2 rfl), yif_t (Nat.lt_succ_self n)]
      · have e2 : yb (ynd S (2 ^ v)) n ↔ yb S n := e.trans ⟨fun h => h.1, fun h1 => ⟨h1, h⟩⟩
        rw [yif_c e2, yif_c (p := v < n + 1) (q := v < n) (by omega)]
        omega
  have := key 8
  rw [yif_t (ytb_of hS hv)] at this
  exact this
theorem ypp_0 {S : Nat} (h : ∀ a, ¬ yb S a) : ypp S = 0 := yct_0 fun a _ => h a
theorem ypp_ge2 {S a b : Nat} (hS : S < 2 ^ 8) (ha : yb S a) (hb : yb S b) (h : a ≠ b) : 2 ≤ ypp S := by
  rcases Nat.lt_or_gt_of_ne h with e | e
  · exact yct_2 e (ytb_of hS hb) ha hb
  · exact yct_2 e (ytb_of hS ha) hb ha
theorem ypp_lt2 {S a b : Nat} (hS : S < 2 ^ 8) (h : ypp S < 2) (ha : yb S a) (hb : yb S b) : a = b := Classical.byContradiction fun hn => by have := ypp_ge2 hS ha hb hn; omega
theorem ysm_if (P : Nat → Prop) (c : Nat) : ∀ n, ysm (fun k => yif (P k) c 0) n = yct P n * c
  | 0 => (Nat.zero_mul c).symm
  | n + 1 => by
    rw [ysm_s, yct_s, ysm_if P c n, Nat.add_mul]
    by_cases h : P n
    · rw [yif_t h, yif_t h, Nat.one_mul]
    · rw [yif_f h, yif_f h, Nat.zero_mul]
theorem yTO_all {g : yG} (hg : ysy g) : ∀ (S : Nat), S < 2 ^ 8 → (∀ a b, yb S a → yb S b → a ≠ b → g a b) → yhc (yTO (yin g S)) (yfa (ypp S)) := by
  intro S
  induction S using Nat.strongRecOn with
  | ind S ih =>
    intro hS hall
    by_cases hne : ∃ a, yb S a
    · have hsum : yhc (fun T : yG => ∃ v, v < 8 ∧ (yb S v ∧ yTO (yin g S) T ∧ ∀ u, yb S u → u ≠ v → T u v)) (ysm (fun v => yif (yb S v) (yfa (ypp S - 1)) 0) 8) := by
        refine yhc_sm (P := fun v T => yb S v ∧ yTO (yin g S) T ∧ ∀ u, yb S u → u ≠ v → T u v) ?_ ?_
        · intro v hv
          by_cases h : yb S v
          · have hlt : ynd S (2 ^ v) < S := ysb_lt (fun a ha => (yb_nd.mp ha).1) h (fun e => (yb_nd.mp e).2 (yb_pw.mpr rfl))
            have mb : ∀ a, yb (ynd S (2 ^ v)) a ↔ yb S a ∧ a ≠ v := fun a => by rw [yb_nd, yb_pw]
            have hc := ih _ hlt (Nat.lt_trans hlt hS) (fun a b ha hb => hall a b ((mb a).mp ha).1 ((mb b).mp hb).1)
            rw [yif_t h, ypp_rm hS h, Nat.add_sub_cancel]
            refine yhc_b (fun T a b => T a b ∨ (yb S a ∧ a ≠ v ∧ b = v)) (fun T a b => T a b ∧ yb (ynd S (2 ^ v)) a ∧ yb (ynd S (2 ^ v)) b) ?_ ?_ hc
            · rintro T ⟨t1, t2, t3, t4⟩
              have n1 : ∀ a b, T a b → a ≠ v ∧ b ≠ v := fun a b h => ⟨((mb a).mp (t1 _ _ h).2.1).2, ((mb b).mp (t1 _ _ h).2.2).2⟩
              refine ⟨⟨h, ⟨?_, ?_, ?_, ?_⟩, fun u hu hne => Or.inr ⟨hu, hne, rfl⟩⟩, ?_⟩
              · rintro a b (h' | ⟨h1, h2, h3⟩)
                · have := t1 _ _ h'
                  exact ⟨this.1, ((mb a).mp this.2.1).1, ((mb b).mp this.2.2).1⟩
                · rw [h3]; exact ⟨hall a v h1 h h2, h1, h⟩
              · rintro a b ⟨h1, h2, h3⟩
                by_cases ea : a = v
                · refine Or.inr (Or.inr ⟨h3, ?_, ea⟩)
                  intro e
                  rw [ea, e] at h1
                  exact hg.2 v h1
                · by_cases eb : b = v
                  · exact Or.inl (Or.inr ⟨h2, ea, eb⟩)
                  · rcases t2 a b ⟨h1, (mb a).mpr ⟨h2, ea⟩, (mb b).mpr ⟨h3, eb⟩⟩ with h4 | h4
                    · exact Or.inl (Or.inl h4)
                    · exact Or.inr (Or.inl h4)
              · rintro a b (h' | ⟨h1, h2, h3⟩) (h'' | ⟨h4, h5, h6⟩)
                · exact t3 _ _ h' h''
                · exact (n1 _ _ h').1 h6
                · exact (n1 _ _ h'').1 h3
                · exact h2 h6
              · rintro a b c (h' | ⟨h1, h2, h3⟩) (h'' | ⟨h4, h5, h6⟩)
                · exact Or.inl (t4 _ _ _ h' h'')
                · exact Or.inr ⟨((mb a).mp (t1 _ _ h').2.1).1, (n1 _ _ h').1, h6⟩
                · exact absurd h3 (n1 _ _ h'').1
                · exact absurd h3 h5
              · funext a b
                apply propext
                constructor
                · rintro ⟨h' | ⟨_, _, h3⟩, h2, h4⟩
                  · exact h'
                  · exact absurd h3 ((mb b).mp h4).2
                · intro h'
                  exact ⟨Or.inl h', (t1 _ _ h').2⟩
            · rintro T ⟨_, hT, htop⟩
              refine ⟨yTO_in (fun a ha => ((mb a).mp ha).1) hT, ?_⟩
              obtain ⟨t1, t2, t3, t4⟩ := hT
              funext a b
              apply propext
              constructor
              · rintro (⟨h', _⟩ | ⟨h1, h2, h3⟩)
                · exact h'
                · rw [h3]; exact htop a h1 h2
              · intro h'
                have e := t1 _ _ h'
                by_cases ea : a = v
                · refine absurd h' (t3 _ _ ?_)
                  rw [ea]
                  refine htop b e.2.2 fun eb => ?_
                  rw [ea, eb] at e
                  exact hg.2 v e.1
                · by_cases eb : b = v
                  · exact Or.inr ⟨e.2.1, ea, eb⟩
                  · exact Or.inl ⟨h', (mb a).mpr ⟨e.2.1, ea⟩, (mb b).mpr ⟨e.2.2, eb⟩⟩
          · rw [yif_f h]
            exact yhc_0 fun T hT => h hT.1
        · rintro i j T hij hj ⟨h1, h2, h3⟩ ⟨h4, h5, h6⟩
          exact h2.2.2.1 _ _ (h3 j h4 (by omega)) (h6 i h1 (by omega))
      rw [ysm_if] at hsum
      obtain ⟨v, hv⟩ := hne
      have e : ypp S = ypp S - 1 + 1 := by have := ypp_rm hS hv; omega
      have e2 : yct (fun k => yb S k) 8 * yfa (ypp S - 1) = yfa (ypp S) := by
        show ypp S * _ = _
        rw [e]
        rfl
      rw [e2] at hsum
      refine yhc_c ?_ hsum
      intro T
      constructor
      · rintro ⟨v, _, _, hT, _⟩
        exact hT
      · intro hT
        obtain ⟨w, w1, w2, w3⟩ := ytop (T := T) (S := S) (fun a b ha hb hne => hT.2.1 a b ⟨hall a b ha hb hne, ha, hb⟩) hT.2.2.2 8 ⟨v, ytb_of hS hv, hv⟩
        exact ⟨w, w1, w2, hT, fun u hu hne => w3 u (ytb_of hS hu) hu hne⟩
    · have hn : ∀ a, ¬ yb S a := fun a ha => hne ⟨a, ha⟩
      rw [ypp_0 hn]
      refine yhc_1 (fun _ _ => False) ⟨fun _ _ h => h.elim, fun a _ h => absurd h.2.1 (hn a), fun _ _ h => h.elim, fun _ _ _ h => h.elim⟩ ?_
      intro T hT
      funext a b
      apply propext
      exact ⟨fun h => hn a (hT.1 _ _ h).2.1, fun h => h.elim⟩
