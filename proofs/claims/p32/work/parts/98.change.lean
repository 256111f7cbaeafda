/-! lines that come and go, colours, a post bare, arrows begun the other way -/
theorem wfp_fp {R : Nat → Nat} {a b : Nat} (hab : a ≠ b) : yfp (yfp R a b) b a = R := weqR fun p q => by
  rw [yfp_b hab.symm, yfp_b hab]
  have e : ((p = b ∧ q = a) ∨ (p = a ∧ q = b)) ↔ ((p = a ∧ q = b) ∨ (p = b ∧ q = a)) := Or.comm
  rw [e]
  by_cases h1 : yad R p q <;> by_cases h2 : (p = a ∧ q = b) ∨ (p = b ∧ q = a)
  · exact ⟨fun _ => h1, fun _ t => (t.mpr h2) ⟨fun _ => h2, fun _ => h1⟩⟩
  · exact ⟨fun _ => h1, fun _ t => h2 (t.mp (fun s => h2 (s.mp h1)))⟩
  · exact ⟨fun t => absurd ⟨fun _ => h2, fun _ s => h1 (s.mpr h2)⟩ t, fun t => absurd t h1⟩
  · exact ⟨fun t => absurd ⟨fun s => absurd ⟨fun x => absurd x h1, fun x => absurd x h2⟩ s, fun x => absurd x h2⟩ t, fun t => absurd t h1⟩
theorem wfp_on {R : Nat → Nat} {a b : Nat} (hab : a ≠ b) (h : ¬ yad R a b) (hs : ysy (yad R)) {p q : Nat} : yad (yfp R a b) p q ↔ yad R p q ∨ (p = a ∧ q = b) ∨ (p = b ∧ q = a) := by
  rw [yfp_b hab]
  have hx : ((p = a ∧ q = b) ∨ (p = b ∧ q = a)) → ¬ yad R p q := by
    rintro (⟨rfl, rfl⟩ | ⟨rfl, rfl⟩)
    · exact h
    · exact fun t => h (hs.1 _ _ t)
  by_cases h1 : yad R p q
  · exact ⟨fun _ => Or.inl h1, fun _ t => hx (t.mp h1) h1⟩
  · by_cases h2 : (p = a ∧ q = b) ∨ (p = b ∧ q = a)
    · exact ⟨fun _ => Or.inr h2, fun _ t => h1 (t.mpr h2)⟩
    · exact ⟨fun t => absurd ⟨fun x => absurd x h1, fun x => absurd x h2⟩ t, fun t => absurd (t.resolve_left h1) h2⟩
theorem wfp_off {R : Nat → Nat} {a b : Nat} (hab : a ≠ b) (h : yad R a b) (hs : ysy (yad R)) : ¬ yad (yfp R a b) a b ∧ (∀ p q, yad (yfp R a b) p q → yad R p q) := by
  refine ⟨fun t => ?_, fun p q t => ?_⟩
  · rw [yfp_b hab] at t
    exact t ⟨fun _ => Or.inl ⟨rfl, rfl⟩, fun _ => h⟩
  · rw [yfp_b hab] at t
    refine Classical.byContradiction fun h1 => t ⟨fun x => absurd x h1, ?_⟩
    rintro (⟨rfl, rfl⟩ | ⟨rfl, rfl⟩)
    · exact h
    · exact hs.1 _ _ h
theorem wln_on {n : Nat} {R : Nat → Nat} (hG : yGr n R) {a b : Nat} (ha : a < n) (hb : b < n) (hab : a ≠ b) (h : ¬ yad R a b) : yln (yfp R a b) = yln R + 1 := by
  have hn := hG.1
  have hG' := yfp_gr hG ha hb hab
  have h1 := war2 (yGr_gd hG)
  have h2 := war2 (yGr_gd hG')
  have d : ∀ c e, e < 8 → (8 * c + e) / 8 = c ∧ (8 * c + e) % 8 = e := fun c e he => ⟨by omega, by omega⟩
  have x1 : yar (yfp R a b) (8 * a + b) := by
    show yad _ ((8 * a + b) / 8) ((8 * a + b) % 8)
    rw [(d a b (by omega)).1, (d a b (by omega)).2]
    exact (wfp_on hab h hG.2.2.2).mpr (Or.inr (Or.inl ⟨rfl, rfl⟩))
  have x2 : yar (yfp R a b) (8 * b + a) := by
    show yad _ ((8 * b + a) / 8) ((8 * b + a) % 8)
    rw [(d b a (by omega)).1, (d b a (by omega)).2]
    exact (wfp_on hab h hG.2.2.2).mpr (Or.inr (Or.inr ⟨rfl, rfl⟩))
  have r1 := wct_rm (n := 64) (by omega) x1
  have r2 := wct_rm (P := fun x => yar (yfp R a b) x ∧ x ≠ 8 * a + b) (q := 8 * b + a) (n := 64) (by omega) ⟨x2, by omega⟩
  have r3 : yct (fun x => (yar (yfp R a b) x ∧ x ≠ 8 * a + b) ∧ x ≠ 8 * b + a) 64 = yct (yar R) 64 := yct_c fun k _ => by
    show (yad (yfp R a b) (k / 8) (k % 8) ∧ k ≠ 8 * a + b) ∧ k ≠ 8 * b + a ↔ yad R (k / 8) (k % 8)
    rw [wfp_on hab h hG.2.2.2]
    constructor
    · rintro ⟨⟨t | t | t, s1⟩, s2⟩
      · exact t
      · exact absurd (by omega) s1
      · exact absurd (by omega) s2
    · intro t
      refine ⟨⟨Or.inl t, fun s => ?_⟩, fun s => ?_⟩
      · subst s
        rw [(d a b (by omega)).1, (d a b (by omega)).2] at t
        exact h t
      · subst s
        rw [(d b a (by omega)).1, (d b a (by omega)).2] at t
        exact h (hG.2.2.2.1 _ _ t)
  omega
theorem wln_off {n : Nat} {R : Nat → Nat} (hG : yGr n R) {a b : Nat} (ha : a < n) (hb : b < n) (hab : a ≠ b) (h : yad R a b) : yln (yfp R a b) + 1 = yln R := by
  have hG' := yfp_gr hG ha hb hab
  have h0 := (wfp_off hab h hG.2.2.2).1
  have := wln_on hG' hb ha hab.symm (fun t => h0 (hG'.2.2.2.1 _ _ t))
  rw [wfp_fp hab] at this
  exact this.symm
theorem wln_bare {n : Nat} {R : Nat → Nat} (hG : yGr n R) {a : Nat} (ha : a < n) : yln (ysp1 R a) + ypp (R a) = yln R := by
  have hn := hG.1
  have h1 := war2 (yGr_gd hG)
  have h2 := war2 (yGr_gd (ysp1_gr (a := a) hG))
  have e0 : yct (yar R) 64 = yct (fun k => yar (ysp1 R a) k ∨ ((yar R k ∧ k / 8 = a) ∨ (yar R k ∧ k % 8 = a))) 64 := yct_c fun k _ => by
    show yad R (k / 8) (k % 8) ↔ yad (ysp1 R a) (k / 8) (k % 8) ∨ ((yad R (k / 8) (k % 8) ∧ k / 8 = a) ∨ (yad R (k / 8) (k % 8) ∧ k % 8 = a))
    rw [ysp1_b]
    constructor
    · intro t
      by_cases c1 : k / 8 = a
      · exact Or.inr (Or.inl ⟨t, c1⟩)
      · by_cases c2 : k % 8 = a
        · exact Or.inr (Or.inr ⟨t, c2⟩)
        · exact Or.inl ⟨t, c1, c2⟩
    · rintro (t | t | t)
      · exact t.1
      · exact t.1
      · exact t.1
  rw [e0, yct_or (fun k t s => ?_), yct_or (fun k t s => ?_)] at h1
  · have e1 : yct (fun k => yar R k ∧ k / 8 = a) 64 = ypp (R a) := wct_b (fun k => k % 8) (fun q => 8 * a + q) (fun k hk t => ⟨Nat.mod_lt _ (by decide), by have := t.1; have e := t.2; have this : yad R (k / 8) (k % 8) := this; rw [e] at this; exact this, by have := t.2; show 8 * a + k % 8 = k; omega⟩) (fun q hq t => ⟨by omega, ⟨by show yad R ((8 * a + q) / 8) ((8 * a + q) % 8); rw [show (8 * a + q) / 8 = a by omega, show (8 * a + q) % 8 = q by omega]; exact t, by omega⟩, by show (8 * a + q) % 8 = q; omega⟩)
    have e2 : yct (fun k => yar R k ∧ k % 8 = a) 64 = ypp (R a) := wct_b (fun k => k / 8) (fun q => 8 * q + a) (fun k hk t => ⟨by show k / 8 < 8; omega, by have := t.1; have e := t.2; have this : yad R (k / 8) (k % 8) := this; rw [e] at this; exact hG.2.2.2.1 _ _ this, by have := t.2; show 8 * (k / 8) + a = k; omega⟩) (fun q hq t => ⟨by omega, ⟨by show yad R ((8 * q + a) / 8) ((8 * q + a) % 8); rw [show (8 * q + a) / 8 = q by omega, show (8 * q + a) % 8 = a by omega]; exact hG.2.2.2.1 _ _ t, by omega⟩, by show (8 * q + a) / 8 = q; omega⟩)
    omega
  · have t1 : yad R (k / 8) (k % 8) := t.1
    rw [t.2, s.2] at t1
    exact hG.2.2.2.2 _ t1
  · have t : yad (ysp1 R a) (k / 8) (k % 8) := t
    rw [ysp1_b] at t
    rcases s with s | s
    · exact t.2.1 s.2
    · exact t.2.2 s.2
theorem wpt_le {g g' : yG} (h : ∀ a b, g' a b → g a b) (S : Nat) : ypt g S ≤ ypt g' S := yct_sub fun a _ ha => ⟨ha.1, fun b hb hs t => ha.2 b hb hs (fun X hx hc => t X hx (fun u v hu hg hv => hc u v hu (h _ _ hg) hv))⟩
/-! colours -/
theorem wck_0 {R : Nat → Nat} {w : Nat} (h : ∃ q, yb w q) : yck R 0 w = 0 := yhc_u (yck_h R 0 w) (yhc_0 fun f hf => by
  obtain ⟨q, hq⟩ := h
  exact absurd (hf.2.1 q hq) (Nat.not_lt_zero _))
theorem wck_1 {R : Nat → Nat} {w : Nat} (h : ∀ p q, yb w p → yb w q → ¬ yad R p q) : yck R 1 w = 1 := yhc_u (yck_h R 1 w) (yhc_1 (fun _ => 0) ⟨fun _ _ => rfl, fun _ _ => Nat.lt_succ_self 0, fun q r hq hr _ => h q r hq hr⟩ fun f hf => funext fun q => by
  by_cases c : yb w q
  · have := hf.2.1 q c; show f q = 0; omega
  · exact hf.1 q c)
theorem wck_1n {R : Nat → Nat} {w p q : Nat} (hp : yb w p) (hq : yb w q) (h : yad R p q) : yck R 1 w = 0 := yhc_u (yck_h R 1 w) (yhc_0 fun f hf => by
  have h1 := hf.2.1 p hp
  have h2 := hf.2.1 q hq
  exact hf.2.2 p q hp hq (by omega) h)
theorem wck_le {R R' : Nat → Nat} (h : ∀ p q, yad R p q → yad R' p q) (c w : Nat) : yck R' c w ≤ yck R c w := wmono (yck_h R' c w) (yck_h R c w) fun f hf => ⟨hf.1, hf.2.1, fun q r hq hr e t => hf.2.2 q r hq hr e (h _ _ t)⟩
theorem wln_0 {n : Nat} {R : Nat → Nat} (hG : yGr n R) : yln R = 0 ↔ ∀ p q, ¬ yad R p q := by
  have hgd := yGr_gd hG
  have h1 := war2 hgd
  constructor
  · intro h p q t
    have h8 := hgd.2.2 p q t
    have := yct_1 (P := yar R) (i := 8 * p + q) (n := 64) (by omega) (by
      show yad R ((8 * p + q) / 8) ((8 * p + q) % 8)
      rw [show (8 * p + q) / 8 = p by omega, show (8 * p + q) % 8 = q by omega]
      exact t)
    omega
  · intro h
    have : yct (yar R) 64 = 0 := yct_0 fun k _ t => h _ _ t
    omega
/-! far by one -/
theorem wfar {n : Nat} {R : Nat → Nat} (hG : yGr n R) {a b : Nat} (ha : a < n) (hb : b < n) (hab : a ≠ b) (h : yad R a b) : yfd R a b = 1 := by
  have hn := hG.1
  have h1 : yb (yit R 255 a (0 + 1)) b := by
    rw [yit_b (by decide) (by omega)]
    refine Or.inr ⟨(yall_b (n := 8)).mpr (by omega), a, ?_, h⟩
    exact yb_pw.mpr rfl
  have h0 : ¬ yb (yit R 255 a 0) b := fun t => hab (yb_pw.mp t).symm
  have e := yft_lk h1 h0 (by omega)
  unfold yfd
  rw [yif_t ⟨_, h1⟩, e]
  rfl
/-! begun the other way -/
theorem wfirst {R : Nat → Nat} (hG : yGd R) (h : 0 < yln R) : ∃ k, yLI R 0 k ∧ yar R k ∧ k = ylo R ∧ ∃ c, yar R c := by
  have hex : ∃ c, yar R c := by
    have := war2 hG
    obtain ⟨i, -, hi⟩ := yct_p1 (P := yar R) (n := 64) (by omega)
    exact ⟨i, hi⟩
  obtain ⟨h1, h2⟩ := ylo_s hex
  have h64 := yar_64 hG h1
  have hlt : ylo R / 8 < ylo R % 8 := by
    obtain ⟨t1, t2, t3, t4⟩ := wtn_ar hG h64 h1
    refine Nat.lt_of_not_le fun c => h2 (ytn (ylo R)) ?_ t2
    unfold ytn at t4 ⊢
    omega
  refine ⟨ylo R, ⟨h64, ⟨h1, hlt⟩, ?_⟩, h1, rfl, hex⟩
  exact yct_0 fun k hk t => h2 k hk t.1
theorem wbeg {R : Nat → Nat} (hG : yGd R) (ho : yord (yad R)) {b k : Nat} (hb : b < 2) (hk : yLI R 0 k) : yse R b k = 0 ∧ (yT R b (k / 8) (k % 8) ↔ b = 0) := by
  have hpos : 0 < yln R := by
    rw [yli_tot hG]
    exact yct_1 (P := yLa R) hk.1 hk.2.1
  obtain ⟨k', h1, h2, h3, hex⟩ := wfirst hG hpos
  have e := yLI_u hk h1
  subst e
  have hO := yT_TO hG ho b
  refine ⟨yse_eq (i := 0) hG h2 (yLs_lo hG (i := 0) hex k (by rw [h3]; exact Nat.le_refl _)), ?_⟩
  have hN : 0 < yN R b := by
    refine Nat.pos_of_ne_zero fun z => (yN_s hG b).1 ?_
    rw [z]
    exact hex
  have hb0 : b = 0 ∨ b = 1 := by omega
  rcases hb0 with hb0 | hb0
  · refine ⟨fun _ => hb0, fun _ => ⟨0, hN, hex, ?_⟩⟩
    have e2 : ysq b 0 (ylo (yLs R b 0)) = k := by
      show (if 0 = 0 ∧ b = 1 then ytn (ylo R) else ylo R) = k
      rw [if_neg (by omega), h3]
    rw [e2]
    exact ycl_r _ _
  · refine ⟨fun t => ?_, fun t => by omega⟩
    have e2 : ysq b 0 (ylo (yLs R b 0)) = ytn k := by
      show (if 0 = 0 ∧ b = 1 then ytn (ylo R) else ylo R) = ytn k
      rw [if_pos ⟨rfl, hb0⟩, h3]
    have t2 : yT R b (k % 8) (k / 8) := ⟨0, hN, hex, by
      rw [e2, ytn_an hk.1]
      exact ycl_r _ _⟩
    exact absurd t2 (hO.2.2.1 _ _ t)
