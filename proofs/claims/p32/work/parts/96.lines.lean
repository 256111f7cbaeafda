/-! arrows and classes turned round; lines counted; signs; two orders crossed -/
theorem wtn_ar {R : Nat → Nat} (hG : yGd R) {k : Nat} (hk : k < 64) (h : yar R k) : ytn k < 64 ∧ yar R (ytn k) ∧ ytn (ytn k) = k ∧ ytn k ≠ k := by
  refine ⟨ytn_lt hk, ?_, ytn_ytn hk, fun e => ?_⟩
  · have e := ytn_an hk
    show yad R (yan (ytn k)).1 (yan (ytn k)).2
    rw [e]
    exact hG.2.1.1 _ _ h
  · have e2 : k / 8 = k % 8 := by unfold ytn at e; omega
    have h : yad R (k / 8) (k % 8) := h
    rw [e2] at h
    exact hG.2.1.2 _ h
theorem wsm_ext {f : Nat → Nat} {n : Nat} : ∀ d, (∀ k, n ≤ k → f k = 0) → ysm f (n + d) = ysm f n
  | 0, _ => rfl
  | d + 1, h => by
    show ysm f (n + d + 1) = _
    rw [ysm_s, wsm_ext d h, h (n + d) (by omega), Nat.add_zero]
theorem wsm8 {f : Nat → Nat} {n : Nat} (hn : n ≤ 8) (h : ∀ k, n ≤ k → f k = 0) : ysm f 8 = ysm f n := by
  obtain ⟨d, e⟩ := Nat.exists_eq_add_of_le hn
  rw [e]
  exact wsm_ext d h
theorem war2 {R : Nat → Nat} (hG : yGd R) : yct (yar R) 64 = 2 * yln R := by
  obtain ⟨w, e, -⟩ := weven (P := yar R) (n := 64) ytn (fun x hx hp => wtn_ar hG hx hp)
  have e1 := yli_ar R 8
  have e2 : yln R = ysm (fun p => ypp (R p)) 8 / 2 := rfl
  rw [e1, e] at e2
  omega
theorem wnear {n : Nat} {R : Nat → Nat} (hG : yGr n R) : ysm (fun p => ypp (R p)) n = 2 * yln R := by
  rw [← war2 (yGr_gd hG), ← yli_ar R 8]
  exact (wsm8 hG.1 fun k hk => by rw [hG.2.2.1 k hk]; exact ypp_0 fun _ => yb_0).symm
theorem wunders {n : Nat} {R : Nat → Nat} (hG : yGr n R) {T : yG} (hO : yTO (yad R) T) : ysm (fun p => ypp (yro T p)) n = yln R := by
  have hT : yPo n T := yTO_po (fun _ _ => yGr_n hG) hO
  have e1 : ∀ p, ypp (R p) = ypp (yro T p) + ypp (yci T p) := fun p => by
    have : ypp (R p) = yct (fun c => yb (yro T p) c ∨ yb (yci T p) c) 8 := yct_c fun c _ => by
      rw [yro_b hT hG.1, yci_b hT hG.1]
      exact ⟨fun h => hO.2.1 p c h, fun h => wcmp' hG hO h⟩
    rw [this]
    exact yct_or (fun c h1 h2 => hO.2.2.1 p c ((yro_b hT hG.1).mp h1) ((yci_b hT hG.1).mp h2)) 8
  have e2 : ysm (fun p => ypp (yro T p)) 8 = ysm (fun p => ypp (yci T p)) 8 := by
    have a1 : ∀ p, ypp (yro T p) = ysm (fun c => yif (T p c) 1 0) 8 := fun p => by
      rw [ysm_if, Nat.mul_one]
      exact yct_c fun c _ => yro_b hT hG.1
    have a2 : ∀ p, ypp (yci T p) = ysm (fun c => yif (T c p) 1 0) 8 := fun p => by
      rw [ysm_if, Nat.mul_one]
      exact yct_c fun c _ => yci_b hT hG.1
    rw [ysm_c (g := fun p => ysm (fun c => yif (T p c) 1 0) 8) (fun p _ => a1 p), ysm_c (f := fun p => ypp (yci T p)) (g := fun p => ysm (fun c => yif (T c p) 1 0) 8) (fun p _ => a2 p)]
    exact ysm_cm (fun p c => yif (T p c) 1 0) 8 8
  have e3 := wnear hG
  rw [ysm_c (g := fun p => ypp (yro T p) + ypp (yci T p)) (fun p _ => e1 p), ysm_a] at e3
  have e4 := wsm8 (f := fun p => ypp (yro T p)) hG.1 fun k hk => ypp_0 fun c hc => by have := (hT.1 _ _ ((yro_b hT hG.1).mp hc)).1; omega
  have e5 := wsm8 (f := fun p => ypp (yci T p)) hG.1 fun k hk => ypp_0 fun c hc => by have := (hT.1 _ _ ((yci_b hT hG.1).mp hc)).2; omega
  omega
theorem wsteps {R : Nat → Nat} (hG : yGd R) (b : Nat) : yN R b ≤ yln R := by
  have key : ∀ i, i ≤ yN R b → yct (yar (yLs R b i)) 64 + 2 * i ≤ yct (yar R) 64 := by
    intro i
    induction i with
    | zero => intro _; exact Nat.le_refl _
    | succ i ih =>
      intro hi
      have h0 := ih (by omega)
      have hL := yLs_gd hG b i
      have hx := (yN_s hG b).2 i (by omega)
      obtain ⟨x1, x2⟩ := ysq_ar hL b i hx
      generalize ex : ysq b i (ylo (yLs R b i)) = x at x1 x2
      have hcl : ycli R b i (yan x) := ⟨hx, by rw [ex]; exact ycl_r _ _⟩
      obtain ⟨t1, t2, t3, t4⟩ := wtn_ar hL x1 x2
      have a1 := wct_rm (P := yar (yLs R b i)) x1 x2
      have a2 := wct_rm (P := fun k => yar (yLs R b i) k ∧ k ≠ x) t1 ⟨t2, t4⟩
      have a3 : yct (yar (yLs R b (i + 1))) 64 ≤ yct (fun k => (yar (yLs R b i) k ∧ k ≠ x) ∧ k ≠ ytn x) 64 := yct_sub fun k hk hp => by
        have h1 : yad (yLs R b (i + 1)) (yan k).1 (yan k).2 := hp
        rw [yLs_ad hG] at h1
        refine ⟨⟨h1.1, fun e => ?_⟩, fun e => ?_⟩
        · subst e
          exact h1.2.1 hcl
        · subst e
          have e2 := ytn_an x1
          have h2 := h1.2.2
          rw [e2] at h2
          exact h2 hcl
      omega
  have := key _ (Nat.le_refl _)
  rw [war2 hG] at this
  omega
/-! classes -/
theorem wrp_u {R : Nat → Nat} (hG : yGd R) {r s : Nat} (h : yrp R r) (h2 : yrp R s) (e : ycn2 R r s) : r = s := by
  rcases Nat.lt_trichotomy r s with c | c | c
  · exact absurd e (h2.2 r c h.1)
  · exact c
  · exact absurd (ycl_sy hG.2.1 e) (h.2 s c h2.1)
theorem wodd_c {R : Nat → Nat} (hG : yGd R) {x y : yA} (h : ycl (yad R) x y) : yodd (yad R) x ↔ yodd (yad R) y := by
  have key : ∀ {x y : yA}, ycl (yad R) x y → yodd (yad R) x → yodd (yad R) y := fun h o => ycl_t (ycl_sy hG.2.1 h) (ycl_t o (ycl_rv hG.2.1 h))
  exact ⟨key h, key (ycl_sy hG.2.1 h)⟩
theorem wodd_r {R : Nat → Nat} (hG : yGd R) {x : yA} : yodd (yad R) (yrv x) ↔ yodd (yad R) x := by
  constructor
  · intro h; exact ycl_rv hG.2.1 (x := yrv x) (y := x) h
  · intro h; exact ycl_rv hG.2.1 (x := x) (y := yrv x) h
theorem wK_par {R : Nat → Nat} (hG : yGd R) : yK R % 2 = yKo R % 2 := by
  have e0 : yK R = yct (fun k => yrp R k ∧ yodd (yad R) (yan k)) 64 + yct (fun k => yrp R k ∧ ¬ yodd (yad R) (yan k)) 64 := by
    have : yK R = yct (fun k => (yrp R k ∧ yodd (yad R) (yan k)) ∨ (yrp R k ∧ ¬ yodd (yad R) (yan k))) 64 := yct_c fun k _ => by
      constructor
      · intro h
        by_cases o : yodd (yad R) (yan k)
        · exact Or.inl ⟨h, o⟩
        · exact Or.inr ⟨h, o⟩
      · rintro (h | h)
        · exact h.1
        · exact h.1
    rw [this]
    exact yct_or (fun k h1 h2 => h2.2 h1.2) 64
  have hex : ∀ k, k < 64 → yar R k → ∃ r, yrp R r ∧ ycn2 R r (ytn k) := fun k hk h => by
    obtain ⟨r, -, h2, h3⟩ := yrep hG (wtn_ar hG hk h).2.1
    exact ⟨r, h2, h3⟩
  obtain ⟨φ, hφ⟩ : ∃ φ : Nat → Nat, ∀ k, k < 64 → yar R k → yrp R (φ k) ∧ ycn2 R (φ k) (ytn k) := by
    refine ⟨fun k => @dite Nat (∃ r, yrp R r ∧ ycn2 R r (ytn k)) (Classical.propDecidable _) (fun h => Classical.choose h) (fun _ => 0), fun k hk h => ?_⟩
    have e : (fun k => @dite Nat (∃ r, yrp R r ∧ ycn2 R r (ytn k)) (Classical.propDecidable _) (fun h => Classical.choose h) (fun _ => 0)) k = Classical.choose (hex k hk h) := dif_pos (hex k hk h)
    rw [e]
    exact Classical.choose_spec (hex k hk h)
  obtain ⟨w, e1, -⟩ := weven (P := fun k => yrp R k ∧ ¬ yodd (yad R) (yan k)) (n := 64) φ (fun k hk hp => by
    obtain ⟨h1, h2⟩ := hφ k hk hp.1.1
    have h64 : φ k < 64 := yar_64 hG h1.1
    have c1 : ycl (yad R) (yan (φ k)) (yrv (yan k)) := by rw [← ytn_an hk]; exact h2
    have o1 : ¬ yodd (yad R) (yan (φ k)) := fun o => hp.2 ((wodd_r hG).mp ((wodd_c hG c1).mp o))
    obtain ⟨h3, h4⟩ := hφ (φ k) h64 h1.1
    have c2 : ycl (yad R) (yan (φ (φ k))) (yrv (yan (φ k))) := by rw [← ytn_an h64]; exact h4
    have c3 : ycl (yad R) (yrv (yan (φ k))) (yan k) := by
      have := ycl_rv hG.2.1 c1
      rw [yrv_rv] at this
      exact this
    refine ⟨h64, ⟨h1, o1⟩, wrp_u hG h3 hp.1 (ycl_t c2 c3), fun e => hp.2 ?_⟩
    rw [e] at c1
    exact c1)
  have e2 : yKo R = yct (fun k => yrp R k ∧ yodd (yad R) (yan k)) 64 := rfl
  omega
theorem wcl_r {R : Nat → Nat} (hG : yGd R) {x k : Nat} (hx : x < 64) (hk : k < 64) : ycl (yad R) (yan (ytn x)) (yan k) ↔ ycl (yad R) (yan x) (yan (ytn k)) := by
  rw [ytn_an hx, ytn_an hk]
  constructor
  · intro h
    have := ycl_rv hG.2.1 h
    rw [yrv_rv] at this
    exact this
  · intro h
    have := ycl_rv hG.2.1 h
    rw [yrv_rv] at this
    exact this
theorem wcz_r {R : Nat → Nat} (hG : yGd R) {x : Nat} (hx : x < 64) : ycz R (ytn x) = ycz R x := by
  refine wct_b ytn ytn (fun k hk h => ⟨ytn_lt hk, ?_, ytn_ytn hk⟩) (fun k hk h => ⟨ytn_lt hk, ?_, ytn_ytn hk⟩)
  · exact (wcl_r hG hx hk).mp h
  · refine (wcl_r hG hx (ytn_lt hk)).mpr ?_
    rw [ytn_ytn hk]
    exact h
theorem wlc_r {R : Nat → Nat} (hG : yGd R) {x j : Nat} (hx : x < 64) (hj : j < 64) : ylc R (ytn x) j ↔ ylc R x j := by
  unfold ylc
  have a := wcl_r hG hx hj
  rw [ytn_an hj] at a
  have b := wcl_r hG hx (ytn_lt hj)
  rw [ytn_ytn hj, ytn_an hj] at b
  rw [a, b]
  exact Or.comm
theorem wlm_r {R : Nat → Nat} (hG : yGd R) {x k : Nat} (hx : x < 64) (hk : k ≤ 64) : ylm R (ytn x) k = ylm R x k := ybs_c fun i _ => by
  constructor
  · rintro ⟨j, h1, h2, h3, h4⟩
    exact ⟨j, h1, h2, (wlc_r hG hx (by omega)).mp h3, h4⟩
  · rintro ⟨j, h1, h2, h3, h4⟩
    exact ⟨j, h1, h2, (wlc_r hG hx (by omega)).mpr h3, h4⟩
theorem wwl_r {R : Nat → Nat} (hG : yGd R) {x : Nat} (hx : x < 64) : ywl R (ytn x) = ywl R x := by
  unfold ywl
  rw [ytn_an hx]
  by_cases o : yodd (yad R) (yan x)
  · rw [yif_t o, yif_t ((wodd_r hG).mpr o), ydt_rv hG.2.1 o]
  · rw [yif_f o, yif_f (fun h => o ((wodd_r hG).mp h))]
theorem wlm_own {R : Nat → Nat} {x i : Nat} (h : yLI R i x) : yb (ylm R x 64) i := (ylm_b (Nat.le_refl 64)).mpr ⟨x, h.1, h.2.1, Or.inl (ycl_r _ _), h.2.2⟩
/-- the walk: from its arrow, step by step, to the one against it -/
theorem wwalk {R : Nat → Nat} (hG : yGd R) {x : Nat} (h64 : x < 64) (hx : yar R x) (ho : yodd (yad R) (yan x)) : ywk R (ytn x) x 0 = x ∧ (0 < ywl R x) ∧ ywk R (ytn x) x (ywl R x - 1) = ytn x ∧ (∀ k, k < ywl R x → ywk R (ytn x) x k < 64 ∧ yar R (ywk R (ytn x) x k)) ∧ ∀ k, k + 1 < ywl R x → yfc (yad R) (yan (ywk R (ytn x) x k)) (yan (ywk R (ytn x) x (k + 1))) := by
  obtain ⟨h1, h2⟩ := ywl_d hG h64 ho
  have h1 : ycl (yad R) (yan (ytn x)) (yan x) := h1
  have h2 : ywl R x = ydt (yad R) (yan (ytn x)) (yan x) + 1 := h2
  have t2 : yar R (ytn x) := (wtn_ar hG h64 hx).2.1
  have hok := ywk_ok hG t2 h1 h64
  refine ⟨rfl, by omega, ?_, fun k hk => ?_, fun k hk => ?_⟩
  · rw [h2, Nat.add_sub_cancel]
    obtain ⟨a, b, c⟩ := hok _ (Nat.le_refl _)
    have e := ydt_z b (by omega)
    have e1 : ytn x / 8 = ywk R (ytn x) x (ydt (yad R) (yan (ytn x)) (yan x)) / 8 := congrArg Prod.fst e
    have e2 : ytn x % 8 = ywk R (ytn x) x (ydt (yad R) (yan (ytn x)) (yan x)) % 8 := congrArg Prod.snd e
    omega
  · obtain ⟨a, b, c⟩ := hok k (by omega)
    exact ⟨a, ycl_e b t2⟩
  · obtain ⟨a, b, c⟩ := hok k (by omega)
    exact (yn1_s (ynr_ex hG t2 b (by omega))).1.2.2.2
/-! signs -/
theorem wsP_up {F G : Nat → Int32} {q : Nat} {x : Int32} : ∀ n, q < n → (∀ c, c ≠ q → G c = F c) → F q = 0 → G q = x → ysP G n = ysP F n + x
  | 0, h, _, _, _ => absurd h (Nat.not_lt_zero q)
  | n + 1, h, h1, h2, h3 => by
    rw [ysP_s, ysP_s]
    by_cases e : q = n
    · subst e
      have : ∀ k, k ≤ q → ysP G k = ysP F k := fun k => by
        induction k with
        | zero => intro _; rfl
        | succ k ih => intro hk; rw [ysP_s, ysP_s, ih (by omega), h1 k (by omega)]
      rw [this q (Nat.le_refl q), h3, h2, Int32.add_zero]
    · rw [wsP_up n (by omega) h1 h2 h3, h1 n (fun t => e t.symm), Int32.add_assoc, Int32.add_comm x, ← Int32.add_assoc]
theorem wsP_0 : ∀ n, ysP (fun _ => 0) n = 0
  | 0 => rfl
  | n + 1 => by rw [ysP_s, wsP_0 n]; rfl
theorem wsg_1 {n : Nat} {T : yG} (hT : yPo n T) (p : Nat) : ysg n T p p = 1 := by rw [ysg_eq hT, yif_t rfl]
theorem wsg_v {n : Nat} {T : yG} (hT : yPo n T) {p q : Nat} (e : T p q) : ysg n T p q = -(ysP (fun c => yif (T c q ∧ (c = p ∨ T p c)) (ysg n T p c) 0) n) := by
  have hne : ¬ q = p := fun t => by rw [t] at e; exact hT.2.1 p e
  rw [ysg_eq hT p q, yif_f hne, yif_t e, ysP_N]
theorem wmob {n : Nat} {T : yG} (hT : yPo n T) {p q : Nat} (e : T p q) : ysP (fun c => yif ((c = p ∨ T p c) ∧ (c = q ∨ T c q)) (ysg n T p c) 0) n = 0 := by
  rw [wsP_up (F := fun c => yif (T c q ∧ (c = p ∨ T p c)) (ysg n T p c) 0) (q := q) n (hT.1 _ _ e).2 (fun c hc => ?_) (yif_f fun h => hT.2.1 q h.1) rfl]
  · show _ + yif ((q = p ∨ T p q) ∧ (q = q ∨ T q q)) (ysg n T p q) 0 = 0
    rw [yif_t ⟨Or.inr e, Or.inl rfl⟩, wsg_v hT e]
    exact Int32.add_right_neg _
  · refine yif_c ⟨fun h => ⟨h.2.resolve_left hc, h.1⟩, fun h => ⟨h.2, Or.inr h.1⟩⟩
theorem wcvs {n : Nat} {T : yG} (hT : yPo n T) {p q : Nat} (e : T p q) (h : ∀ c, T p c → ¬ T c q) : ysg n T p q = -1 := by
  rw [wsg_v hT e, wsP_up (F := fun _ => 0) (q := p) (x := 1) n (hT.1 _ _ e).1 (fun c hc => ?_) rfl ?_, wsP_0]
  · rfl
  · show yif (T p q ∧ (p = p ∨ T p p)) (ysg n T p p) 0 = 1
    rw [yif_t ⟨e, Or.inl rfl⟩, wsg_1 hT]
  · exact yif_f fun t => h c (t.2.resolve_left hc) t.1
/-! two orders, one of them turned -/
theorem wTOr {g T : yG} (hg : ysy g) (h : yTO g T) : yTO g (fun a b => T b a) := ⟨fun a b e => hg.1 _ _ (h.1 b a e), fun a b e => (h.2.1 a b e).symm, fun a b e e2 => h.2.2.1 b a e e2, fun a b c e e2 => h.2.2.2 c b a e2 e⟩
theorem wuni {n : Nat} {R : Nat → Nat} (hG : yGr n R) {T O : yG} (hT : yTO (yad R) T) (hO : yTO (yad (yop n R)) O) : (∀ a, ¬ (T a a ∨ O a a)) ∧ (∀ a b c, (T a b ∨ O a b) → (T b c ∨ O b c) → (T a c ∨ O a c)) ∧ ∀ a c, a < n → c < n → a ≠ c → (T a c ∨ O a c) ∨ (T c a ∨ O c a) := by
  have hT0 : ∀ a, ¬ T a a := fun a h => hT.2.2.1 a a h h
  have hO0 : ∀ a, ¬ O a a := fun a h => hO.2.2.1 a a h h
  have hsy := hG.2.2.2
  have hx : ∀ a b, T a b → O a b → False := fun a b h1 h2 => (yop_b.mp (hO.1 a b h2)).2.2.2 (hT.1 a b h1)
  have hx2 : ∀ a b, T a b → O b a → False := fun a b h1 h2 => (yop_b.mp (hO.1 b a h2)).2.2.2 (hsy.1 _ _ (hT.1 a b h1))
  have htot : ∀ a c, a < n → c < n → a ≠ c → (T a c ∨ O a c) ∨ (T c a ∨ O c a) := fun a c ha hc hne => by
    by_cases h : yad R a c
    · rcases hT.2.1 a c h with h | h
      · exact Or.inl (Or.inl h)
      · exact Or.inr (Or.inl h)
    · rcases hO.2.1 a c (yop_b.mpr ⟨ha, hc, hne, h⟩) with h | h
      · exact Or.inl (Or.inr h)
      · exact Or.inr (Or.inr h)
  refine ⟨fun a h => h.elim (hT0 a) (hO0 a), fun a b c h1 h2 => ?_, htot⟩
  have bd : ∀ a b, (T a b ∨ O a b) → a < n ∧ b < n := fun a b h => by
    rcases h with h | h
    · exact yGr_n hG (hT.1 _ _ h)
    · have := yop_b.mp (hO.1 _ _ h); exact ⟨this.1, this.2.1⟩
  have hne : a ≠ c := fun e => by
    subst e
    rcases h1 with h1 | h1 <;> rcases h2 with h2 | h2
    · exact hT.2.2.1 _ _ h1 h2
    · exact hx2 _ _ h1 h2
    · exact hx2 _ _ h2 h1
    · exact hO.2.2.1 _ _ h1 h2
  rcases htot a c (bd _ _ h1).1 (bd _ _ h2).2 hne with h | h
  · exact h
  · exfalso
    rcases h1 with h1 | h1 <;> rcases h2 with h2 | h2 <;> rcases h with h | h
    · exact hT.2.2.1 _ _ (hT.2.2.2 _ _ _ h1 h2) h
    · exact hx2 _ _ (hT.2.2.2 _ _ _ h1 h2) h
    · exact hx2 _ _ (hT.2.2.2 _ _ _ h h1) h2
    · exact hx2 _ _ h1 (hO.2.2.2 _ _ _ h2 h)
    · exact hx2 _ _ (hT.2.2.2 _ _ _ h2 h) h1
    · exact hx2 _ _ h2 (hO.2.2.2 _ _ _ h h1)
    · exact hx2 _ _ h (hO.2.2.2 _ _ _ h1 h2)
    · exact hO.2.2.1 _ _ (hO.2.2.2 _ _ _ h1 h2) h
theorem wplace {n : Nat} {L : yG} (h0 : ∀ a, ¬ L a a) (ht : ∀ a b c, L a b → L b c → L a c) (hc : ∀ a c, a < n → c < n → a ≠ c → L a c ∨ L c a) {a c : Nat} (ha : a < n) (hcn : c < n) (hne : a ≠ c) : (yct (fun q => L q a) n < yct (fun q => L q c) n ↔ L a c) ∧ yct (fun q => L q a) n ≠ yct (fun q => L q c) n := by
  have key : ∀ a c, a < n → c < n → L a c → yct (fun q => L q a) n < yct (fun q => L q c) n := fun a c ha _ h => yct_slt (j := a) (fun q _ hq => ht q a c hq h) ha h (h0 a)
  rcases hc a c ha hcn hne with h | h
  · have := key a c ha hcn h
    exact ⟨⟨fun _ => h, fun _ => this⟩, by omega⟩
  · have := key c a hcn ha h
    exact ⟨⟨fun g => by omega, fun g => absurd (ht _ _ _ g h) (h0 a)⟩, by omega⟩
theorem wcross {n : Nat} {R : Nat → Nat} (hG : yGr n R) {b : Nat} (h1 : yord (yad R)) (h2 : yord (yad (yop n R))) {p q : Nat} (hp : p < n) (hq : q < n) (hne : p ≠ q) : ((¬ (ycp n (R, b) p 0 < ycp n (R, b) q 0 ↔ ycp n (R, b) p 1 < ycp n (R, b) q 1)) ↔ yad R p q) ∧ ycp n (R, b) p 0 ≠ ycp n (R, b) q 0 := by
  have hT := yT_TO (yGr_gd hG) h1 b
  have hO := yT_TO (yGr_gd (yop_gr hG)) h2 0
  obtain ⟨a1, a2, a3⟩ := wuni hG hT hO
  obtain ⟨c1, c2, c3⟩ := wuni hG (wTOr hG.2.2.2 hT) hO
  have e0 : ∀ a, ycp n (R, b) a 0 = yct (fun q => yT R b q a ∨ yT (yop n R) 0 q a) n := fun a => yct_c fun q _ => by
    show ((if (0 : Nat) = 0 then yT R b q a else yT R b a q) ∨ yTo n (R, b) q a) ↔ _
    rw [if_pos rfl]
    exact Iff.rfl
  have e1 : ∀ a, ycp n (R, b) a 1 = yct (fun q => yT R b a q ∨ yT (yop n R) 0 q a) n := fun a => yct_c fun q _ => by
    show ((if (1 : Nat) = 0 then yT R b q a else yT R b a q) ∨ yTo n (R, b) q a) ↔ _
    rw [if_neg (by decide)]
    exact Iff.rfl
  obtain ⟨d1, d2⟩ := wplace (L := fun q a => yT R b q a ∨ yT (yop n R) 0 q a) a1 a2 a3 hp hq hne
  obtain ⟨d3, -⟩ := wplace (L := fun q a => yT R b a q ∨ yT (yop n R) 0 q a) c1 c2 c3 hp hq hne
  rw [e0, e0, e1, e1]
  refine ⟨?_, d2⟩
  rw [d1, d3]
  have hno : yad R p q → ¬ yT (yop n R) 0 p q := fun h t => (yop_b.mp (hO.1 _ _ t)).2.2.2 h
  constructor
  · intro h
    refine Classical.byContradiction fun hn => h ?_
    have n1 : ¬ yT R b p q := fun t => hn (hT.1 _ _ t)
    have n2 : ¬ yT R b q p := fun t => hn (hG.2.2.2.1 _ _ (hT.1 _ _ t))
    exact ⟨fun t => Or.inr (t.resolve_left n1), fun t => Or.inr (t.resolve_left n2)⟩
  · intro h t
    have n3 := hno h
    rcases hT.2.1 p q h with g | g
    · exact hT.2.2.1 _ _ g ((t.mp (Or.inl g)).resolve_right n3)
    · exact hT.2.2.1 _ _ ((t.mpr (Or.inl g)).resolve_right n3) g
