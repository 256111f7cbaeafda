/-! posts exchanged, the other network: what stays -/
theorem wsgi {a b : Nat} (h : a ≠ b) (p : Nat) : ysg2 a b (ysg2 a b p) = p := by
  by_cases e1 : p = a
  · rw [e1, ysg2_a, ysg2_b h]
  · by_cases e2 : p = b
    · rw [e2, ysg2_b h, ysg2_a]
    · rw [ysg2_n e1 e2, ysg2_n e1 e2]
theorem wsgl {a b n p : Nat} (h : a ≠ b) (ha : a < n) (hb : b < n) (hp : p < n) : ysg2 a b p < n := ysg2_lt (p := ysg2 a b p) ha hb (by rw [wsgi h]; exact hp)
theorem weqR {R R' : Nat → Nat} (h : ∀ p q, yad R p q ↔ yad R' p q) : R = R' := funext fun p => ytb_ext fun q => h p q
theorem wword {R : Nat → Nat} (hG : yGd R) : yord (yad R) ↔ ∃ T, yTO (yad R) T := by
  constructor
  · intro h; exact ⟨_, yT_TO hG h 0⟩
  · rintro ⟨T, hT⟩ x hx ho
    rcases hT.2.1 _ _ hx with h | h
    · exact hT.2.2.1 _ _ h (yTO_cl hG.2.1 hT h ho)
    · exact hT.2.2.1 _ _ (yTO_cl hG.2.1 hT (x := yrv x) (y := x) h (ycl_sy hG.2.1 ho)) h
theorem wTOm {g g' : yG} {σ : Nat → Nat} (h : ∀ p q, g' p q ↔ g (σ p) (σ q)) {T : yG} (hT : yTO g T) : yTO g' (fun p q => T (σ p) (σ q)) := ⟨fun p q e => (h p q).mpr (hT.1 _ _ e), fun p q e => hT.2.1 _ _ ((h p q).mp e), fun p q e => hT.2.2.1 _ _ e, fun p q r e e2 => hT.2.2.2 _ _ _ e e2⟩
section
variable {n : Nat} {R : Nat → Nat} {a b : Nat}
theorem wex_b (hG : yGr n R) (ha : a < n) (hb : b < n) (hab : a ≠ b) {p q : Nat} : yad R p q ↔ yad (yex R n a b) (ysg2 a b p) (ysg2 a b q) := by
  rw [yex_b hG ha hb, wsgi hab, wsgi hab]
theorem wex_ex (hG : yGr n R) (ha : a < n) (hb : b < n) (hab : a ≠ b) : yex (yex R n a b) n b a = R := weqR fun p q => by
  have e : ∀ p, ysg2 b a p = ysg2 a b p := fun p => by
    by_cases e1 : p = a
    · rw [e1, ysg2_a, ysg2_b hab.symm]
    · by_cases e2 : p = b
      · rw [e2, ysg2_a, ysg2_b hab]
      · rw [ysg2_n e1 e2, ysg2_n e2 e1]
  rw [yex_b (yex_gr hG ha hb) hb ha, yex_b hG ha hb, e, e, wsgi hab, wsgi hab]
theorem wex_ord (hG : yGr n R) (ha : a < n) (hb : b < n) (hab : a ≠ b) : yord (yad (yex R n a b)) ↔ yord (yad R) := by
  rw [wword (yGr_gd hG), wword (yGr_gd (yex_gr hG ha hb))]
  constructor
  · rintro ⟨T, hT⟩; exact ⟨_, wTOm (g := yad (yex R n a b)) (g' := yad R) (σ := ysg2 a b) (fun p q => wex_b hG ha hb hab) hT⟩
  · rintro ⟨T, hT⟩; exact ⟨_, wTOm (g := yad R) (g' := yad (yex R n a b)) (σ := ysg2 a b) (fun p q => yex_b hG ha hb) hT⟩
theorem win_all (hG : yGr n R) : yin (yad R) (2 ^ n - 1) = yad R := by
  funext p q
  exact propext ⟨fun h => h.1, fun h => ⟨h, yall_b.mpr (yGr_n hG h).1, yall_b.mpr (yGr_n hG h).2⟩⟩
theorem wways_h (hG : yGr n R) (ho : yord (yad R)) : yhc (yTO (yad R)) (yPr (yad R) (2 ^ n - 1)) := by
  have h256 := y2p8 hG.1
  have h1 := y2p1 n
  have e := win_all hG
  have := yways hG.2.2.2 (2 ^ n - 1) (show 2 ^ n - 1 < 2 ^ 8 by omega) (by rw [e]; exact ho)
  rw [e] at this
  exact this
theorem wex_pr (hG : yGr n R) (ha : a < n) (hb : b < n) (hab : a ≠ b) (ho : yord (yad R)) : yPr (yad (yex R n a b)) (2 ^ n - 1) = yPr (yad R) (2 ^ n - 1) := by
  refine yhc_u (wways_h (yex_gr hG ha hb) ((wex_ord hG ha hb hab).mpr ho)) (yhc_b (P := yTO (yad R)) (Q := yTO (yad (yex R n a b))) (fun T p q => T (ysg2 a b p) (ysg2 a b q)) (fun T p q => T (ysg2 a b p) (ysg2 a b q)) (fun T hT => ⟨wTOm (g := yad R) (g' := yad (yex R n a b)) (σ := ysg2 a b) (fun p q => yex_b hG ha hb) hT, ?_⟩) (fun T hT => ⟨wTOm (g := yad (yex R n a b)) (g' := yad R) (σ := ysg2 a b) (fun p q => wex_b hG ha hb hab) hT, ?_⟩) (wways_h hG ho))
  · funext p q
    show T (ysg2 a b (ysg2 a b p)) (ysg2 a b (ysg2 a b q)) = T p q
    rw [wsgi hab, wsgi hab]
  · funext p q
    show T (ysg2 a b (ysg2 a b p)) (ysg2 a b (ysg2 a b q)) = T p q
    rw [wsgi hab, wsgi hab]
/-! sets moved -/
noncomputable def wsw (n a b S : Nat) : Nat := ybs (fun q => yb S (ysg2 a b q)) n
theorem wsw_b (ha : a < n) (hb : b < n) {S : Nat} (hS : S < 2 ^ n) {q : Nat} : yb (wsw n a b S) q ↔ yb S (ysg2 a b q) := by
  unfold wsw
  rw [yb_bs]
  exact ⟨fun h => h.2, fun h => ⟨ysg2_lt ha hb (ytb_of hS h), h⟩⟩
theorem wsw_lt (S : Nat) : wsw n a b S < 2 ^ n := ybs_lt _ n
theorem wsw_sw (ha : a < n) (hb : b < n) (hab : a ≠ b) {S : Nat} (hS : S < 2 ^ n) : wsw n a b (wsw n a b S) = S := ytb_ext fun q => by
  have h1 := wsw_b ha hb (wsw_lt (n := n) (a := a) (b := b) S) (q := q)
  have h2 := wsw_b ha hb hS (q := ysg2 a b q)
  rw [wsgi hab] at h2
  exact h1.trans h2
theorem wsw_pp (hn : n ≤ 8) (ha : a < n) (hb : b < n) (hab : a ≠ b) {P Q : Nat → Prop} (h : ∀ q, P q ↔ Q (ysg2 a b q)) : yct P 8 = yct Q 8 := by
  refine wct_b (ysg2 a b) (ysg2 a b) (fun q hq hp => ⟨wsgl hab (by omega) (by omega) hq, (h q).mp hp, wsgi hab q⟩) (fun q hq hp => ⟨wsgl hab (by omega) (by omega) hq, (h _).mpr (by rw [wsgi hab]; exact hp), wsgi hab q⟩)
theorem wcn_m {g g' : yG} {S S' : Nat} {σ : Nat → Nat} (hi : ∀ p, σ (σ p) = p) (hg : ∀ p q, g' p q → g (σ p) (σ q)) (hS : ∀ q, yb S' q → yb S (σ q)) {u v : Nat} (h : ycn g' S' u v) : ycn g S (σ u) (σ v) := by
  intro X hx hc
  exact h (fun w => X (σ w)) hx (fun p q hp hpq hq => hc _ _ hp (hg p q hpq) (hS q hq))
theorem wex_rd (hG : yGr n R) (ha : a < n) (hb : b < n) (hab : a ≠ b) {S : Nat} (hS : S < 2 ^ n) (h : yrd R S) : yrd (yex R n a b) (wsw n a b S) := by
  have hn := hG.1
  have h256 := y2p8 hn
  have hG' := yex_gr (R := R) hG ha hb
  have hS8 : S < 2 ^ 8 := Nat.lt_of_lt_of_le hS h256
  have hW8 : wsw n a b S < 2 ^ 8 := Nat.lt_of_lt_of_le (wsw_lt S) h256
  obtain ⟨h1, h2, h3⟩ := h
  have epp : ypp (wsw n a b S) = ypp S := wsw_pp hn ha hb hab fun q => wsw_b ha hb hS
  refine ⟨by rw [epp]; exact h1, fun p hp hb' => ?_, ?_⟩
  · rw [← h2 (ysg2 a b p) (wsgl hab (by omega) (by omega) hp) ((wsw_b ha hb hS).mp hb')]
    refine wsw_pp hn ha hb hab fun q => ?_
    rw [yb_an, yb_an, wsw_b ha hb hS]
    exact and_congr (yex_b hG ha hb) Iff.rfl
  · obtain ⟨u, hu⟩ : ∃ u, yb S u := Classical.byContradiction fun hn2 => by
      have := ypp_0 (S := S) fun u hu => hn2 ⟨u, hu⟩
      omega
    have g1 := ypt_ge1 (g := yad (yex R n a b)) hW8 ⟨ysg2 a b u, (wsw_b ha hb hS).mpr (by rw [wsgi hab]; exact hu)⟩
    have g2 : ypt (yad (yex R n a b)) (wsw n a b S) ≤ 1 := ypt_of fun p q hp hq => by
      have c := ypt_le1 hG.2.2.2 hS8 (by omega) ((wsw_b ha hb hS).mp hp) ((wsw_b ha hb hS).mp hq)
      have := wcn_m (g := yad (yex R n a b)) (g' := yad R) (S := wsw n a b S) (S' := S) (σ := ysg2 a b) (wsgi hab) (fun p q hpq => (wex_b hG ha hb hab).mp hpq) (fun q hq => (wsw_b ha hb hS).mpr (by rw [wsgi hab]; exact hq)) c
      rw [wsgi hab, wsgi hab] at this
      exact this
    omega
theorem wsw_0 (ha : a < n) (hb : b < n) (hab : a ≠ b) {S : Nat} (hS : S < 2 ^ n) (h : S ≠ 0) : wsw n a b S ≠ 0 := fun e => by
  obtain ⟨u, hu⟩ := yex_ne h
  have : yb (wsw n a b S) (ysg2 a b u) := (wsw_b ha hb hS).mpr (by rw [wsgi hab]; exact hu)
  rw [e] at this
  exact yb_0 this
theorem wex_rds (hG : yGr n R) (ha : a < n) (hb : b < n) (hab : a ≠ b) : ycnt (yrd (yex R n a b)) n = ycnt (yrd R) n := by
  have hG' := yex_gr (R := R) hG ha hb
  have hb2 := fun S (hS : S < 2 ^ n) (h : yrd (yex R n a b) S) => wex_rd hG' hb ha hab.symm hS h
  have hsw : ∀ S, wsw n b a S = wsw n a b S := fun S => ybs_c fun q _ => by
    have e : ysg2 b a q = ysg2 a b q := by
      by_cases e1 : q = a
      · rw [e1, ysg2_a, ysg2_b hab.symm]
      · by_cases e2 : q = b
        · rw [e2, ysg2_a, ysg2_b hab]
        · rw [ysg2_n e1 e2, ysg2_n e2 e1]
    rw [e]
  refine wct_b (wsw n a b) (wsw n a b) (fun S hS h => ⟨wsw_lt S, ⟨wsw_0 ha hb hab hS h.1, ?_⟩, wsw_sw ha hb hab hS⟩) (fun S hS h => ⟨wsw_lt S, ⟨wsw_0 ha hb hab hS h.1, wex_rd hG ha hb hab hS h.2⟩, wsw_sw ha hb hab hS⟩)
  have := hb2 S hS h.2
  rw [wex_ex hG ha hb hab, hsw] at this
  exact this
/-! posts sent to posts -/
theorem wlk_h (R R' : Nat → Nat) (n : Nat) : yhc (yiso R R' n) (yLk R R' n) := yhc_c (fun h => ⟨fun e => e.1, fun e => ⟨e, fun q hq => absurd hq (Nat.not_lt_zero q)⟩⟩) (yIs_h (R := R) (R' := R') n 0 (Nat.zero_add n) (fun _ => 0) (fun q hq => absurd hq (Nat.not_lt_zero q)))
theorem wiso_of {R R' : Nat → Nat} {h : Nat → Nat} (h0 : ∀ q, n ≤ q → h q = 0) (h1 : ∀ q, q < n → h q < n) (h2 : ∀ q r, q < n → r < n → (yad R q r ↔ yad R' (h q) (h r)) ∧ (h q = h r → q = r)) : yiso R R' n h := ⟨h0, h1, fun r q hr hq => ⟨fun e => by have := (h2 r q (by omega) hq).2 e; omega, (h2 q r hq (by omega)).1⟩⟩
/-- sources exchanged -/
theorem wlk_src (hG : yGr n R) {R2 : Nat → Nat} (hs2 : ysy (yad R2)) (ha : a < n) (hb : b < n) (hab : a ≠ b) : yLk (yex R n a b) R2 n = yLk R R2 n := by
  have hG' := yex_gr (R := R) hG ha hb
  have key : ∀ {A B : Nat → Nat}, ysy (yad A) → (∀ p q, yad B p q ↔ yad A (ysg2 a b p) (ysg2 a b q)) → ∀ h, yiso A R2 n h → yiso B R2 n (fun q => if q < n then h (ysg2 a b q) else 0) ∧ (fun q => if q < n then (fun q => if q < n then h (ysg2 a b q) else 0) (ysg2 a b q) else 0) = h := by
    intro A B hA hAB h hh
    refine ⟨wiso_of (fun q hq => if_neg (by omega)) (fun q hq => ?_) (fun q r hq hr => ?_), funext fun q => ?_⟩
    · show (if q < n then h (ysg2 a b q) else 0) < n
      rw [if_pos hq]
      exact hh.2.1 _ (wsgl hab ha hb hq)
    · obtain ⟨c1, c2⟩ := yiso_ad hA hs2 hh (wsgl hab ha hb hq) (wsgl hab ha hb hr)
      show (yad B q r ↔ yad R2 (if q < n then h (ysg2 a b q) else 0) (if r < n then h (ysg2 a b r) else 0)) ∧ ((if q < n then h (ysg2 a b q) else 0) = (if r < n then h (ysg2 a b r) else 0) → q = r)
      rw [if_pos hq, if_pos hr]
      refine ⟨(hAB q r).trans c1, fun e => ?_⟩
      have := congrArg (ysg2 a b) (c2 e)
      rw [wsgi hab, wsgi hab] at this
      exact this
    · show (if q < n then (if ysg2 a b q < n then h (ysg2 a b (ysg2 a b q)) else 0) else 0) = h q
      by_cases hq : q < n
      · rw [if_pos hq, if_pos (wsgl hab ha hb hq), wsgi hab]
      · rw [if_neg hq, hh.1 q (by omega)]
  exact yhc_u (wlk_h _ _ n) (yhc_b (fun h q => if q < n then h (ysg2 a b q) else 0) (fun h q => if q < n then h (ysg2 a b q) else 0) (fun h hh => key hG.2.2.2 (fun p q => yex_b hG ha hb) h hh) (fun h hh => key hG'.2.2.2 (fun p q => wex_b hG ha hb hab) h hh) (wlk_h R R2 n))
/-- targets exchanged -/
theorem wlk_tgt (hG : yGr n R) {R2 : Nat → Nat} (hs2 : ysy (yad R2)) (ha : a < n) (hb : b < n) (hab : a ≠ b) : yLk R2 (yex R n a b) n = yLk R2 R n := by
  have hG' := yex_gr (R := R) hG ha hb
  have key : ∀ {A B : Nat → Nat}, ysy (yad A) → (∀ p q, yad A p q ↔ yad B (ysg2 a b p) (ysg2 a b q)) → ∀ h, yiso R2 A n h → yiso R2 B n (fun q => if q < n then ysg2 a b (h q) else 0) ∧ (fun q => if q < n then ysg2 a b ((fun q => if q < n then ysg2 a b (h q) else 0) q) else 0) = h := by
    intro A B hA hAB h hh
    refine ⟨wiso_of (fun q hq => if_neg (by omega)) (fun q hq => ?_) (fun q r hq hr => ?_), funext fun q => ?_⟩
    · show (if q < n then ysg2 a b (h q) else 0) < n
      rw [if_pos hq]
      exact wsgl hab ha hb (hh.2.1 _ hq)
    · obtain ⟨c1, c2⟩ := yiso_ad hs2 hA hh hq hr
      show (yad R2 q r ↔ yad B (if q < n then ysg2 a b (h q) else 0) (if r < n then ysg2 a b (h r) else 0)) ∧ ((if q < n then ysg2 a b (h q) else 0) = (if r < n then ysg2 a b (h r) else 0) → q = r)
      rw [if_pos hq, if_pos hr]
      refine ⟨c1.trans (hAB _ _), fun e => c2 ?_⟩
      have := congrArg (ysg2 a b) e
      rw [wsgi hab, wsgi hab] at this
      exact this
    · show (if q < n then ysg2 a b (if q < n then ysg2 a b (h q) else 0) else 0) = h q
      by_cases hq : q < n
      · rw [if_pos hq, if_pos hq, wsgi hab]
      · rw [if_neg hq, hh.1 q (by omega)]
  exact yhc_u (wlk_h _ _ n) (yhc_b (fun h q => if q < n then ysg2 a b (h q) else 0) (fun h q => if q < n then ysg2 a b (h q) else 0) (fun h hh => key hG.2.2.2 (fun p q => wex_b hG ha hb hab) h hh) (fun h hh => key hG'.2.2.2 (fun p q => yex_b hG ha hb) h hh) (wlk_h R2 R n))
theorem wex_lk (hG : yGr n R) (ha : a < n) (hb : b < n) (hab : a ≠ b) : yLk (yex R n a b) (yex R n a b) n = yLk R R n := by
  rw [wlk_tgt hG (yex_gr hG ha hb).2.2.2 ha hb hab, wlk_src hG hG.2.2.2 ha hb hab]
theorem wex_ln (hG : yGr n R) (ha : a < n) (hb : b < n) (hab : a ≠ b) : yln (yex R n a b) = yln R := by
  have h1 := war2 (yGr_gd hG)
  have h2 := war2 (yGr_gd (yex_gr hG ha hb))
  have hn := hG.1
  have e : yct (yar (yex R n a b)) 64 = yct (yar R) 64 := by
    have d : ∀ k, (8 * ysg2 a b (k / 8) + ysg2 a b (k % 8)) / 8 = ysg2 a b (k / 8) ∧ (8 * ysg2 a b (k / 8) + ysg2 a b (k % 8)) % 8 = ysg2 a b (k % 8) := fun k => by
      have := wsgl (n := 8) (p := k % 8) hab (by omega) (by omega) (Nat.mod_lt _ (by decide))
      exact ⟨by omega, by omega⟩
    have l : ∀ k, k < 64 → 8 * ysg2 a b (k / 8) + ysg2 a b (k % 8) < 64 := fun k hk => by
      have := wsgl (n := 8) (p := k % 8) hab (by omega) (by omega) (Nat.mod_lt _ (by decide))
      have := wsgl (n := 8) (p := k / 8) hab (by omega) (by omega) (by omega)
      omega
    have t : ∀ k, 8 * ysg2 a b ((8 * ysg2 a b (k / 8) + ysg2 a b (k % 8)) / 8) + ysg2 a b ((8 * ysg2 a b (k / 8) + ysg2 a b (k % 8)) % 8) = k := fun k => by
      rw [(d k).1, (d k).2, wsgi hab, wsgi hab]
      omega
    refine wct_b (fun k => 8 * ysg2 a b (k / 8) + ysg2 a b (k % 8)) (fun k => 8 * ysg2 a b (k / 8) + ysg2 a b (k % 8)) (fun k hk h => ⟨l k hk, ?_, t k⟩) (fun k hk h => ⟨l k hk, ?_, t k⟩)
    · show yad R ((8 * ysg2 a b (k / 8) + ysg2 a b (k % 8)) / 8) ((8 * ysg2 a b (k / 8) + ysg2 a b (k % 8)) % 8)
      rw [(d k).1, (d k).2]
      exact (yex_b hG ha hb).mp h
    · show yad (yex R n a b) ((8 * ysg2 a b (k / 8) + ysg2 a b (k % 8)) / 8) ((8 * ysg2 a b (k / 8) + ysg2 a b (k % 8)) % 8)
      rw [(d k).1, (d k).2]
      exact (wex_b hG ha hb hab).mp h
  omega
/-! the other network -/
theorem wop_op (hG : yGr n R) : yop n (yop n R) = R := weqR fun p q => by
  rw [yop_b, yop_b]
  constructor
  · intro h
    exact Classical.byContradiction fun hn => h.2.2.2 ⟨h.1, h.2.1, h.2.2.1, hn⟩
  · intro h
    refine ⟨(yGr_n hG h).1, (yGr_n hG h).2, fun e => ?_, fun t => t.2.2.2 h⟩
    rw [e] at h
    exact hG.2.2.2.2 _ h
theorem wop_chn {S : Nat} (hS : S < 2 ^ n) : ychn (yop n R) S ↔ (∀ p q, p ≠ q → yb S p → yb S q → ¬ yad R p q) := by
  constructor
  · intro h p q hne hp hq; exact (yop_b.mp (h p q hne hp hq)).2.2.2
  · intro h p q hne hp hq; exact yop_b.mpr ⟨ytb_of hS hp, ytb_of hS hq, hne, h p q hne hp hq⟩
theorem wap_ne (hG : yGr n R) {S : Nat} : yap R S ↔ ∀ p q, p ≠ q → yb S p → yb S q → ¬ yad R p q := by
  constructor
  · intro h p q _ hp hq; exact h p q hp hq
  · intro h p q hp hq
    by_cases e : p = q
    · rw [e]; exact hG.2.2.2.2 q
    · exact h p q e hp hq
theorem wop_c4 (hG : yGr n R) : ycnt (ychn (yop n R)) n = ycnt (yap R) n := yct_c fun S hS => and_congr Iff.rfl ((wop_chn hS).trans (wap_ne hG).symm)
theorem wop_c5 (hG : yGr n R) : ycnt (yap (yop n R)) n = ycnt (ychn R) n := by
  have := wop_c4 (yop_gr hG)
  rw [wop_op hG] at this
  exact this.symm
theorem wop_mo {S : Nat} : ymo (yad (yop n R)) (2 ^ n - 1) S ↔ ymo (yad R) (2 ^ n - 1) S := by
  have key : ∀ x y, yb (2 ^ n - 1) x → ysb S (2 ^ n - 1) → ¬ yb S x → yb S y → (yad (yop n R) x y ↔ ¬ yad R x y) := fun x y hx hs hn hy => by
    rw [yop_b]
    exact ⟨fun h => h.2.2.2, fun h => ⟨yall_b.mp hx, yall_b.mp (hs y hy), fun e => hn (by rw [e]; exact hy), h⟩⟩
  constructor
  · rintro ⟨hs, h1, h⟩
    refine ⟨hs, h1, fun x hx hn p q hp hq => ?_⟩
    have := h x hx hn p q hp hq
    rw [key x p hx hs hn hp, key x q hx hs hn hq] at this
    exact ⟨fun a => Classical.byContradiction fun c => this.mpr c a, fun a => Classical.byContradiction fun c => this.mp c a⟩
  · rintro ⟨hs, h1, h⟩
    refine ⟨hs, h1, fun x hx hn p q hp hq => ?_⟩
    rw [key x p hx hs hn hp, key x q hx hs hn hq]
    exact not_congr (h x hx hn p q hp hq)
theorem wop_lk (hG : yGr n R) : yLk (yop n R) (yop n R) n = yLk R R n := by
  have hO := yop_gr hG
  refine yhc_u (wlk_h _ _ n) (yhc_c (fun h => ?_) (wlk_h R R n))
  constructor
  · intro e
    refine wiso_of e.1 e.2.1 fun q r hq hr => ?_
    obtain ⟨c1, c2⟩ := yiso_ad hG.2.2.2 hG.2.2.2 e hq hr
    refine ⟨?_, c2⟩
    rw [yop_b, yop_b]
    exact ⟨fun t => ⟨e.2.1 q hq, e.2.1 r hr, fun s => t.2.2.1 (c2 s), fun s => t.2.2.2 (c1.mpr s)⟩, fun t => ⟨hq, hr, fun s => t.2.2.1 (by rw [s]), fun s => t.2.2.2 (c1.mp s)⟩⟩
  · intro e
    refine wiso_of e.1 e.2.1 fun q r hq hr => ?_
    obtain ⟨c1, c2⟩ := yiso_ad hO.2.2.2 hO.2.2.2 e hq hr
    refine ⟨?_, c2⟩
    rw [yop_b, yop_b] at c1
    by_cases hqr : q = r
    · subst hqr
      exact ⟨fun t => absurd t (hG.2.2.2.2 _), fun t => absurd t (hG.2.2.2.2 _)⟩
    · have hne : h q ≠ h r := fun s => hqr (c2 s)
      exact ⟨fun t => Classical.byContradiction fun s => (c1.mpr ⟨e.2.1 q hq, e.2.1 r hr, hne, s⟩).2.2.2 t, fun t => Classical.byContradiction fun s => (c1.mp ⟨hq, hr, hqr, s⟩).2.2.2 t⟩
theorem wop_ln (hG : yGr n R) : 2 * yln R + 2 * yln (yop n R) + n = n * n := by
  have h1 := wnear hG
  have h2 := wnear (yop_gr hG)
  have e : ∀ p, p < n → ypp (R p) + ypp (yop n R p) + 1 = n := fun p hp => by
    have a1 := yct_or (P := fun q => yb (R p) q) (Q := fun q => yb (yop n R p) q) (fun q h h' => (yop_b.mp h').2.2.2 h) 8
    have a2 := wct_rm (P := fun q => q < n) (q := p) (n := 8) (by have := hG.1; omega) hp
    have a3 : yct (fun q => q < n) 8 = n := (yct_ext (P := fun q => q < n) hG.1 (fun k hk _ h => by omega)).trans ((yct_c fun k hk => ⟨fun _ => True.intro, fun _ => hk⟩).trans (wct_all n))
    have a4 : yct (fun q => q < n ∧ q ≠ p) 8 = yct (fun q => yb (R p) q ∨ yb (yop n R p) q) 8 := yct_c fun q _ => by
      constructor
      · intro h
        by_cases c : yb (R p) q
        · exact Or.inl c
        · exact Or.inr (yop_b.mpr ⟨hp, h.1, fun s => h.2 s.symm, c⟩)
      · rintro (h | h)
        · exact ⟨(yGr_n hG h).2, fun s => by rw [s] at h; exact hG.2.2.2.2 _ h⟩
        · have := yop_b.mp h
          exact ⟨this.2.1, fun s => this.2.2.1 s.symm⟩
    have a5 : ypp (R p) = yct (fun q => yb (R p) q) 8 := rfl
    have a6 : ypp (yop n R p) = yct (fun q => yb (yop n R p) q) 8 := rfl
    omega
  have s : ∀ m, m ≤ n → ysm (fun p => ypp (R p)) m + ysm (fun p => ypp (yop n R p)) m + m = m * n := by
    intro m
    induction m with
    | zero => intro _; rw [Nat.zero_mul]; rfl
    | succ m ih =>
      intro hm
      have := ih (by omega)
      have := e m (by omega)
      rw [ysm_s, ysm_s, Nat.succ_mul]
      omega
  have := s n (Nat.le_refl n)
  rw [h1, h2] at this
  exact this
end
