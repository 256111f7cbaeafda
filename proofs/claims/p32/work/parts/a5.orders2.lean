/-! the law's check of the orders, from its start -/
section
variable {n : Nat} {N : yNW} {h : Nat} {H : Nat → yNW} {hd : Nat → Prop} {K : Nat → yNW} {len : Nat} {Z : xmm → Prop}
theorem s_o371 (hG : yGr n N.1) (ho : yord (yad N.1)) {u lv un p q : Nat} {J : xmm → Prop} (hp : p < n) (hq : q < n) (hpq : yT N.1 N.2 p q) (nx : ∀ m, wI n N h H hd K len Z m → wR 1 J (bL_orders_0_226 (nI u) (nI n) 1 (nI lv) (nI un) (nI (2 ^ n - 1)) (nI p) (nI (yro (yT N.1 N.2) p)) (nI (q + 1)) m)) : ∀ (d c : Nat) (m : xmm), c + d = n → wI n N h H hd K len Z m → wR 1 J (bL_orders_0_371 (nI u) (nI n) 1 (nI lv) (nI un) (nI (2 ^ n - 1)) (nI p) (nI (yro (yT N.1 N.2) p)) (nI q) (ysP (fun c => yif ((c = p ∨ yT N.1 N.2 p c) ∧ (c = q ∨ yT N.1 N.2 c q)) (ysg n (yT N.1 N.2) p c) 0) c) (nI c) m) := by
  have hn := hG.1
  have hT := yT_po hG ho N.2
  intro d
  induction d with
  | zero =>
    intro c m hc hI
    have e : c = n := by omega
    subst e
    refine wb (fun _ e => bL_orders_0_371_i _ _ _ _ _ _ _ _ _ _ _ _ e) (wt (nI_le (Nat.le_refl _) (by omega)) (wno (by decide) (wt ?_ ?_)))
    · exact wmob hT hpq
    rw [nI_1]
    exact nx m hI
  | succ d ih =>
    intro c m hc hI
    have hcn : c < n := by omega
    have hbit : (nI (yro (yT N.1 N.2) p) >>> (nI c &&& 31)) &&& (1 : Int32) = yP (yT N.1 N.2 p c) := (yI_bit (by have := yro_lt (yT N.1 N.2) p; omega) (by omega)).trans (yP_c (yro_b hT hn))
    have skip : ∀ m, wI n N h H hd K len Z m → ¬ ((c = p ∨ yT N.1 N.2 p c) ∧ (c = q ∨ yT N.1 N.2 c q)) → wR 1 J (bL_orders_0_371 (nI u) (nI n) 1 (nI lv) (nI un) (nI (2 ^ n - 1)) (nI p) (nI (yro (yT N.1 N.2) p)) (nI q) (ysP (fun c => yif ((c = p ∨ yT N.1 N.2 p c) ∧ (c = q ∨ yT N.1 N.2 c q)) (ysg n (yT N.1 N.2) p c) 0) c) (nI c + 1) m) := by
      intro m hI hno
      have := ih (c + 1) m (by omega) hI
      rw [ysP_s, yif_f hno, Int32.add_zero, ← nI_1] at this
      exact this
    have take : ∀ m, wI n N h H hd K len Z m → ((c = p ∨ yT N.1 N.2 p c) ∧ (c = q ∨ yT N.1 N.2 c q)) → wR 1 J (bL_orders_0_414 (nI u) (nI n) 1 (nI lv) (nI un) (nI (2 ^ n - 1)) (nI p) (nI (yro (yT N.1 N.2) p)) (nI q) (ysP (fun c => yif ((c = p ∨ yT N.1 N.2 p c) ∧ (c = q ∨ yT N.1 N.2 c q)) (ysg n (yT N.1 N.2) p c) 0) c) (nI c) m) := by
      intro m hI hy
      refine wb (fun _ e => bL_orders_0_414_i _ _ _ _ _ _ _ _ _ _ _ _ e) ?_
      refine wq (wre (q_sign hI _ _) (e_sign' hn ho hp hcn)) fun m hI => ?_
      have := ih (c + 1) m (by omega) hI
      rw [ysP_s, yif_t hy, ← nI_1] at this
      exact this
    have mid : ∀ m, wI n N h H hd K len Z m → (c = p ∨ yT N.1 N.2 p c) → wR 1 J (bL_orders_0_395 (nI u) (nI n) 1 (nI lv) (nI un) (nI (2 ^ n - 1)) (nI p) (nI (yro (yT N.1 N.2) p)) (nI q) (ysP (fun c => yif ((c = p ∨ yT N.1 N.2 p c) ∧ (c = q ∨ yT N.1 N.2 c q)) (ysg n (yT N.1 N.2) p c) 0) c) (nI c) m) := by
      intro m hI hy
      refine wb (fun _ e => bL_orders_0_395_i _ _ _ _ _ _ _ _ _ _ _ _ e) ?_
      by_cases e : c = q
      · exact wt (by rw [e]) (take m hI ⟨hy, Or.inl e⟩)
      · refine wno (fun t => e ((nI_eq (by omega) (by omega)).mp t)) ?_
        by_cases ht : yT N.1 N.2 c q
        · refine wq (wre (q_under hI _ _) ((e_under' hn ho hcn hq).trans (yP_t ht))) fun m hI => ?_
          exact wt rfl (take m hI ⟨hy, Or.inr ht⟩)
        · refine wq (wre (q_under hI _ _) ((e_under' hn ho hcn hq).trans (yP_f ht))) fun m hI => ?_
          exact wno w01 (skip m hI fun t => t.2.elim e ht)
    refine wb (fun _ e => bL_orders_0_371_i _ _ _ _ _ _ _ _ _ _ _ _ e) (wno (nI_ge hcn (by omega)) ?_)
    by_cases e : c = p
    · exact wt (by rw [e]) (mid m hI (Or.inl e))
    · refine wno (fun t => e ((nI_eq (by omega) (by omega)).mp t)) ?_
      by_cases ht : yT N.1 N.2 p c
      · exact wt (hbit.trans (yP_t ht)) (mid m hI (Or.inr ht))
      · refine wno (fun t => ?_) (skip m hI fun t => t.1.elim e ht)
        rw [hbit, yP_f ht] at t
        exact absurd t (by decide)
theorem s_o226 (hG : yGr n N.1) (ho : yord (yad N.1)) {u lv un p : Nat} {J : xmm → Prop} (hp : p < n) (nx : ∀ m, wI n N h H hd K len Z m → wR 1 J (bL_orders_0_58 (nI u) (nI n) 1 (nI lv) (nI un) (nI (2 ^ n - 1)) (nI (p + 1)) m)) : ∀ (d q : Nat) (m : xmm), q + d = n → wI n N h H hd K len Z m → wR 1 J (bL_orders_0_226 (nI u) (nI n) 1 (nI lv) (nI un) (nI (2 ^ n - 1)) (nI p) (nI (yro (yT N.1 N.2) p)) (nI q) m) := by
  have hn := hG.1
  have hT := yT_po hG ho N.2
  intro d
  induction d with
  | zero =>
    intro q m hq hI
    refine wb (fun _ e => bL_orders_0_226_i _ _ _ _ _ _ _ _ _ _ e) (wt (nI_le (by omega) (by omega)) ?_)
    rw [nI_1]
    exact nx m hI
  | succ d ih =>
    intro q m hq hI
    have hqn : q < n := by omega
    have hbit : (nI (yro (yT N.1 N.2) p) >>> (nI q &&& 31)) &&& (1 : Int32) = yP (yT N.1 N.2 p q) := (yI_bit (by have := yro_lt (yT N.1 N.2) p; omega) (by omega)).trans (yP_c (yro_b hT hn))
    refine wb (fun _ e => bL_orders_0_226_i _ _ _ _ _ _ _ _ _ _ e) (wno (nI_ge hqn (by omega)) ?_)
    by_cases ht : yT N.1 N.2 p q
    · refine wno (fun t => ?_) (wno (by decide) ?_)
      · rw [hbit, yP_t ht] at t
        exact absurd t (by decide)
      refine wq (wre (q_post hI _ _) (e_post2 hn ho hqn)) fun m hI => ?_
      refine wt ?_ ?_
      · show nI (yro (yT N.1 N.2) q) &&& (nI (yro (yT N.1 N.2) p) ^^^ (-1)) = 0
        rw [yI_nd, ynd0.mpr fun c hc => (yro_b hT hn).mpr (hT.2.2 _ _ _ ht ((yro_b hT hn).mp hc))]
        rfl
      refine wq (wre (q_under hI _ _) ((e_under' hn ho hp hqn).trans (yP_t ht))) fun m hI => ?_
      refine wt rfl ?_
      refine wq (wre (q_under hI _ _) ((e_under' hn ho hqn hp).trans (yP_f fun t => hT.2.1 p (hT.2.2 _ _ _ ht t)))) fun m hI => ?_
      refine wt rfl ?_
      refine wq (wre (q_post hI _ _) (e_post0 hn ho hp)) fun m hI => ?_
      refine wq (wre (q_post hI _ _) (e_post0 hn ho hqn)) fun m hI => ?_
      refine wno (nI_ge (ylev_ge hT ht) (by have := ylev_le hT q; omega)) ?_
      refine wq (wre (q_post hI _ _) (e_post4 hn ho hp)) fun m hI => ?_
      refine wq (wre (q_post hI _ _) (e_post4 hn ho hqn)) fun m hI => ?_
      refine wno (nI_ge (wpl_lt hT ht) (by have := (ypl_s hT hqn).1; omega)) ?_
      have go : ∀ m, wI n N h H hd K len Z m → wR 1 J (bL_orders_0_371 (nI u) (nI n) 1 (nI lv) (nI un) (nI (2 ^ n - 1)) (nI p) (nI (yro (yT N.1 N.2) p)) (nI q) 0 0 m) := fun m hI => s_o371 hG ho hp hqn ht (fun m hI => ih (q + 1) m (by omega) hI) n 0 m (Nat.zero_add n) hI
      refine wb (fun _ e => bL_orders_0_326_i _ _ _ _ _ _ _ _ _ _ e) ?_
      refine wq (wre (q_post hI _ _) (e_post3 hn ho hp)) fun m hI => ?_
      have hcb : (nI (ycv n (yT N.1 N.2) p) >>> (nI q &&& 31)) &&& (1 : Int32) = yP (yb (ycv n (yT N.1 N.2) p) q) := yI_bit (by have := ycv_lt hn (yT N.1 N.2) p; omega) (by omega)
      by_cases hc : yb (ycv n (yT N.1 N.2) p) q
      · refine wt (hcb.trans (yP_t hc)) (wno (by decide) ?_)
        refine wq (wre (q_sign hI _ _) ((e_sign' hn ho hp hqn).trans (wcvs hT ht ?_))) fun m hI => ?_
        · exact (yb_bs.mp hc).2.2
        exact wt rfl (go m hI)
      · refine wno (fun t => ?_) (go m hI)
        have t : (nI (ycv n (yT N.1 N.2) p) >>> (nI q &&& 31)) &&& (1 : Int32) = 1 := t
        rw [hcb, yP_f hc] at t
        exact absurd t (by decide)
    · refine wt (hbit.trans (yP_f ht)) ?_
      rw [nI_1]
      exact ih (q + 1) m (by omega) hI
theorem wmxs {lv x : Nat} (h1 : lv < 2 ^ 31) (h2 : x < 2 ^ 31) : (if nI lv < nI x then nI x else nI lv) = nI (max lv x) := by
  by_cases c : lv < x
  · rw [if_pos (nI_lt c h2), Nat.max_eq_right (Nat.le_of_lt c)]
  · rw [if_neg (nI_nlt (by omega) h1), Nat.max_eq_left (by omega)]
theorem wmx_le {T : yG} (hT : yPo n T) : ∀ p, ymx (fun p => ylev n T p) p ≤ n := fun p => by
  rcases ymx_at (f := fun p => ylev n T p) (n := p) with h | ⟨j, -, h⟩
  · omega
  · rw [h]; exact ylev_le hT j
theorem wun_le (T : yG) : ∀ p, ysm (fun p => ypp (yro T p)) p ≤ p * 8 := fun p => ysm_le fun k _ => ypp_le _
theorem s_o58 (hG : yGr n N.1) (ho : yord (yad N.1)) {u : Nat} (hu : u < 2 ^ 31) {J : xmm → Prop} (nx : ∀ m, wI n N h H hd K len Z m → wR 1 J (bL_orders_0_635 (nI u) (nI n) (nI (2 ^ n - 1)) 1 m)) : ∀ (d p : Nat) (m : xmm), p + d = n → wI n N h H hd K len Z m → wR 1 J (bL_orders_0_58 (nI u) (nI n) 1 (nI (ymx (fun p => ylev n (yT N.1 N.2) p) p)) (nI (ysm (fun p => ypp (yro (yT N.1 N.2) p)) p)) (nI (2 ^ n - 1)) (nI p) m) := by
  have hn := hG.1
  have hgd := yGr_gd hG
  have hT := yT_po hG ho N.2
  have hO := yT_TO hgd ho N.2
  have h256 := y2p8 hn
  have h1' := y2p1 n
  have h28 := wln_28 hgd
  have hml := wmx_le hT
  intro d
  induction d with
  | zero =>
    intro p m hp hI
    have e : p = n := by omega
    subst e
    have hlong := wlong hG ho N.2
    have hwl : wlm p (yT N.1 N.2) = ymx (fun q => ylev p (yT N.1 N.2) q) p := rfl
    refine wb (fun _ e => bL_orders_0_58_i _ _ _ _ _ _ _ _ e) (wt (nI_le (Nat.le_refl _) (by omega)) ?_)
    refine wq (q_cnt hI _) fun m hI => ?_
    refine wno (by decide) (wt ?_ ?_)
    · show nI (ysm (fun p => ypp (yro (yT N.1 N.2) p)) p) = nI (yln N.1)
      rw [wunders hG hO]
    refine wq (wre (q_ord hI _) (e_ord2 ho)) fun m hI => ?_
    have fin : ∀ s m, s = ygl p (yT N.1 N.2) → wI p N h H hd K len Z m → wR 1 J (bL_orders_0_514 (nI u) (nI p) (nI (2 ^ p - 1)) (nI (yln N.1)) (ygl p (yT N.1 N.2)) s m) := by
      intro s m hs hI
      have hchP : ychn N.1 (ygs (ychn N.1) (2 ^ p)) := wgs_P (fun p q _ hp => absurd hp yb_0) _
      have hapP : yap N.1 (ygs (yap N.1) (2 ^ p)) := wgs_P (fun p q hp => absurd hp yb_0) _
      have hchl : ygs (ychn N.1) (2 ^ p) < 2 ^ p := by
        rcases ygs_lt (ychn N.1) (2 ^ p) with h | h
        · exact h
        · omega
      have hapl : ygs (yap N.1) (2 ^ p) < 2 ^ p := by
        rcases ygs_lt (yap N.1) (2 ^ p) with h | h
        · exact h
        · omega
      have hd1 := wdown hT
      have hd2 : yct (fun S => ydw (yT N.1 N.2) S) (2 ^ p) ≤ 2 ^ p := yct_le _ _
      have hj1 := wjmp_le hT hn
      have hj2 := wjmp_ge hG ho N.2
      have hc8 := ync_le N.1 p
      have hst := wsteps hgd N.2
      refine wb (fun _ e => bL_orders_0_514_i _ _ _ _ _ _ _ e) (wt hs.symm ?_)
      refine wq (wre (q_ord hI _) (e_ord4 ho)) fun m hI => ?_
      refine wq (wre (q_ord hI _) (e_ord6 ho)) fun m hI => ?_
      refine wt ?_ ?_
      · show nI (ypp (ygs (yap N.1) (2 ^ p))) = nI (ync N.1 p)
        rw [wdilw hG ho]
      refine wq (wre (q_ord hI _) (e_ord3 ho)) fun m hI => ?_
      refine wq (wre (q_set hI _ _) ((e_set' hn hchl 0).trans (yP_t hchP))) fun m hI => ?_
      refine wt rfl ?_
      refine wq (wre (q_ord hI _) (e_ord5 ho)) fun m hI => ?_
      refine wq (wre (q_set hI _ _) ((e_set' hn hapl 1).trans (yP_t hapP))) fun m hI => ?_
      refine wt rfl ?_
      refine wq (wre (q_ord hI _) (e_ord3 ho)) fun m hI => ?_
      refine wq (q_bc hI (by omega)) fun m hI => ?_
      refine wq (wre (q_ord hI _) (e_ord2 ho)) fun m hI => ?_
      refine wt rfl ?_
      refine wq (wre (q_ord hI _) (e_ord8 ho)) fun m hI => ?_
      refine wno ?_ ?_
      · show ¬ nI (yct (fun S => ydw (yT N.1 N.2) S) (2 ^ p)) < nI p + 1
        rw [nI_1]
        exact nI_nlt hd1 (by omega)
      refine wq (wre (q_ord hI _) (e_ord9 ho)) fun m hI => ?_
      refine wno ?_ ?_
      · show ¬ (if (0 : Int32) < nI p - 1 then nI p - 1 else 0) < nI (yJF p (yT N.1 N.2))
        by_cases hp1 : 1 < p
        · rw [show (1 : Int32) = nI 1 from rfl, pk_sub (by omega), if_pos (show (0 : Int32) < nI (p - 1) from nI_lt (a := 0) (by omega) (by omega))]
          exact nI_nlt hj1 (by omega)
        · have hz : yJF p (yT N.1 N.2) = 0 := by omega
          rw [hz]
          rcases (show p = 0 ∨ p = 1 by omega) with e | e <;> rw [e] <;> decide
      refine wq (wre (q_ord hI _) (e_ord9 ho)) fun m hI => ?_
      refine wq (wre (q_ord hI _) (e_ord6 ho)) fun m hI => ?_
      refine wno ?_ ?_
      · show ¬ nI (yJF p (yT N.1 N.2)) < nI (ync N.1 p) - 1
        by_cases hc0 : ync N.1 p = 0
        · rw [hc0]
          intro t
          have := Int32.lt_iff_toInt_lt.mp t
          rw [nI_toInt (by omega)] at this
          have e : (nI 0 - 1 : Int32).toInt = -1 := by decide
          rw [e] at this
          omega
        · rw [show (1 : Int32) = nI 1 from rfl, pk_sub (by omega)]
          exact nI_nlt (by omega) (by omega)
      refine wq (wre (q_net hI _) (e_net4.trans (yif_t ho))) fun m hI => ?_
      refine wno (nI_nlt hst (by omega)) (nx m hI)
    by_cases h0 : p = 0
    · rw [if_pos h0] at hlong
      refine wt (show nI p = 0 by rw [h0]; rfl) (wb (fun _ e => bL_orders_0_495_i _ _ _ _ _ _ _ _ e) (wt ?_ ?_))
      · show nI (ypp (ygs (ychn N.1) (2 ^ p))) = 0
        rw [hlong]; rfl
      refine wq (wre (q_ord hI _) (e_ord7 ho)) fun m hI => ?_
      refine wt (show nI p = 0 by rw [h0]; rfl) (fin (-1) m ?_ hI)
      unfold ygl
      rw [if_pos h0]
    · rw [if_neg h0] at hlong
      have hne : ¬ nI p = 0 := nI_ne0 (by omega) (by omega)
      refine wno hne (wb (fun _ e => bL_orders_0_495_i _ _ _ _ _ _ _ _ e) (wt ?_ ?_))
      · show nI (ypp (ygs (ychn N.1) (2 ^ p))) = nI (ymx (fun q => ylev p (yT N.1 N.2) q) p) + 1
        rw [hlong, nI_1]
        rfl
      refine wq (wre (q_ord hI _) (e_ord7 ho)) fun m hI => ?_
      refine wno hne (fin _ m ?_ hI)
      unfold ygl
      rw [if_neg h0]
  | succ d ih =>
    intro p m hp hI
    have hpn : p < n := by omega
    have b1 := yci_lt (yT N.1 N.2) p
    have b2 := yro_lt (yT N.1 N.2) p
    have b3 := ycv_lt hn (yT N.1 N.2) p
    have nx' : ∀ m, wI n N h H hd K len Z m → wR 1 J (bL_orders_0_198 (nI u) (nI n) (nI (ymx (fun p => ylev n (yT N.1 N.2) p) p)) (nI (ysm (fun p => ypp (yro (yT N.1 N.2) p)) p)) (nI (2 ^ n - 1)) (nI p) (nI (yro (yT N.1 N.2) p)) 1 m) := by
      intro m hI
      refine wb (fun _ e => bL_orders_0_198_i _ _ _ _ _ _ _ _ _ e) ?_
      refine wq (wre (q_post hI _ _) (e_post0 hn ho hpn)) fun m hI => ?_
      refine wq (q_bc hI b2) fun m hI => ?_
      dsimp only
      rw [wmxs (by have := hml p; omega) (by have := ylev_le hT p; omega), nI_add]
      exact s_o226 hG ho hpn (fun m hI => ih (p + 1) m (by omega) hI) n 0 m (Nat.zero_add n) hI
    have cov0 : yro (yT N.1 N.2) p = 0 ↔ ycv n (yT N.1 N.2) p = 0 := by
      constructor
      · intro e
        refine ytb_ext fun q => ⟨fun t => ?_, fun t => absurd t yb_0⟩
        have t : yb (ycv n (yT N.1 N.2) p) q := t
        have := (yro_b hT hn).mpr (yb_bs.mp t).2.1
        rw [e] at this
        exact absurd this yb_0
      · intro e
        refine Classical.byContradiction fun hne => ?_
        obtain ⟨q, hq⟩ := yex_ne hne
        obtain ⟨c, c1, c2⟩ := wcov_ex hT ⟨q, (yro_b hT hn).mp hq⟩
        have : yb (ycv n (yT N.1 N.2) p) c := yb_bs.mpr ⟨(hT.1 _ _ c1).2, c1, c2⟩
        rw [e] at this
        exact yb_0 this
    have mid : ∀ s t m, s = t → wI n N h H hd K len Z m → wR 1 J (bL_orders_0_148 (nI u) (nI n) (nI (ymx (fun p => ylev n (yT N.1 N.2) p) p)) (nI (ysm (fun p => ypp (yro (yT N.1 N.2) p)) p)) (nI (2 ^ n - 1)) (nI p) (nI (yci (yT N.1 N.2) p)) (nI (yro (yT N.1 N.2) p)) s t m) := by
      intro s t m hst hI
      refine wb (fun _ e => bL_orders_0_148_i _ _ _ _ _ _ _ _ _ _ _ e) (wt hst ?_)
      refine wq (wre (q_post hI _ _) (e_post4 hn ho hpn)) fun m hI => ?_
      refine wq (q_bc hI b1) fun m hI => ?_
      refine wno (nI_nlt (wpl_ge hT hn hpn) (by have := (ypl_s hT hpn).1; omega)) ?_
      refine wq (wre (q_post hI _ _) (e_post0 hn ho hpn)) fun m hI => ?_
      refine wq (q_bc hI b1) fun m hI => ?_
      refine wno (nI_nlt ?_ (by have := ypp_le (yci (yT N.1 N.2) p); omega)) ?_
      · have hdn := ylev_dn hT _ p (Nat.le_refl _)
        have : ydn n (yT N.1 N.2) p = ypp (yci (yT N.1 N.2) p) := by
          have e1 : ypp (yci (yT N.1 N.2) p) = yct (fun q => yT N.1 N.2 q p) 8 := yct_c fun q _ => yci_b hT hn
          rw [e1]
          exact (yct_ext hn fun k hk _ t => by have := (hT.1 _ _ t).1; omega).symm
        omega
      refine wq (wre (q_sign hI _ _) ((e_sign' hn ho hpn hpn).trans (wsg_1 hT p))) fun m hI => ?_
      exact wt rfl (nx' m hI)
    have mid0 : ∀ s m, s = yP (yro (yT N.1 N.2) p = 0) → wI n N h H hd K len Z m → wR 1 J (bL_orders_0_133 (nI u) (nI n) (nI (ymx (fun p => ylev n (yT N.1 N.2) p) p)) (nI (ysm (fun p => ypp (yro (yT N.1 N.2) p)) p)) (nI (2 ^ n - 1)) (nI p) (nI (yci (yT N.1 N.2) p)) (nI (yro (yT N.1 N.2) p)) s m) := by
      intro s m hs hI
      refine wb (fun _ e => bL_orders_0_133_i _ _ _ _ _ _ _ _ _ _ e) ?_
      refine wq (wre (q_post hI _ _) (e_post3 hn ho hpn)) fun m hI => ?_
      by_cases hz : yro (yT N.1 N.2) p = 0
      · refine wt (show nI (ycv n (yT N.1 N.2) p) = 0 by rw [cov0.mp hz]; rfl) (mid _ _ m (hs.trans (yP_t hz)) hI)
      · refine wno (nI_ne0 (Nat.pos_of_ne_zero fun e => hz (cov0.mpr e)) (by omega)) (mid _ _ m (hs.trans (yP_f hz)) hI)
    refine wb (fun _ e => bL_orders_0_58_i _ _ _ _ _ _ _ _ e) (wno (nI_ge hpn (by omega)) ?_)
    refine wq (wre (q_post hI _ _) (e_post1 hn ho hpn)) fun m hI => ?_
    refine wq (wre (q_post hI _ _) (e_post2 hn ho hpn)) fun m hI => ?_
    refine wno (by decide) (wt ?_ ?_)
    · show nI (yci (yT N.1 N.2) p) &&& nI (yro (yT N.1 N.2) p) = 0
      rw [yI_and, yand0.mpr fun q h1 h2 => hO.2.2.1 _ _ ((yci_b hT hn).mp h1) ((yro_b hT hn).mp h2)]
      rfl
    refine wq (wre (q_near hI _) (e_near' hn hpn)) fun m hI => ?_
    refine wt ?_ ?_
    · show nI (yci (yT N.1 N.2) p) ||| nI (yro (yT N.1 N.2) p) = nI (N.1 p)
      rw [yI_or]
      congr 1
      refine ytb_ext fun q => ?_
      show yb (yci (yT N.1 N.2) p ||| yro (yT N.1 N.2) p) q ↔ yad N.1 p q
      rw [yb_or, yci_b hT hn, yro_b hT hn]
      exact ⟨fun t => wcmp' hG hO t.symm, fun t => (hO.2.1 _ _ t).symm⟩
    refine wq (wre (q_post hI _ _) (e_post3 hn ho hpn)) fun m hI => ?_
    refine wt ?_ ?_
    · show nI (ycv n (yT N.1 N.2) p) &&& (nI (yro (yT N.1 N.2) p) ^^^ (-1)) = 0
      rw [yI_nd, ynd0.mpr fun q hq => (yro_b hT hn).mpr (yb_bs.mp hq).2.1]
      rfl
    by_cases hz : yro (yT N.1 N.2) p = 0
    · exact wt (show nI (yro (yT N.1 N.2) p) = 0 by rw [hz]; rfl) (mid0 1 m (yP_t hz).symm hI)
    · exact wno (nI_ne0 (Nat.pos_of_ne_zero hz) (by omega)) (mid0 0 m (yP_f hz).symm hI)
theorem s_orders {u : Nat} (hu : u < 2 ^ 31) {m : xmm} (h9 : xctm m < 900) (hI : wI n N h H hd K len Z m) : wR 1 (wOJ n N h H hd K len m) (fL_orders_0 (nI u) m) := by
  have hG := wI_G hI
  have hn := hG.1
  have h256 := y2p8 hn
  have h1' := y2p1 n
  have hI0 : wI n N h H hd K len (wE m 0) m := wI_Z hI (fun _ _ => wE_lo) (wE_r m)
  refine wb (fun _ e => fL_orders_0_i _ _ e) ?_
  refine wq (q_cnt hI0 _) fun m1 hI => ?_
  by_cases ho : yord (yad N.1)
  · refine wq (wre (q_net hI _) (e_net0.trans (yP_t ho))) fun m1 hI => ?_
    refine wno (show ¬ (1 : Int32) = 0 by decide) ?_
    have e1 : ((1 : Int32) <<< (nI n &&& 31)) - 1 = nI (2 ^ n - 1) := by
      rw [yI_1shl (by omega), show (1 : Int32) = nI 1 from rfl, pk_sub h1']
    show wR 1 _ (bL_orders_0_58 (nI u) (nI n) 1 0 0 (((1 : Int32) <<< (nI n &&& 31)) - 1) 0 m1)
    rw [e1]
    refine s_o58 hG ho hu (J := wOJ n N h H hd K len m) (fun m2 hI2 => ?_) n 0 m1 (Nat.zero_add n) hI
    have hE := wI_z hI2
    have e9 : xctm m2 < 900 := by have := hE.2.1; omega
    refine wJ (s_o635 hG ho hu e9 hI2) fun m3 hI3 => wI_Z hI3 (fun _ _ => wE_lo) ?_
    have := wE_t hE (wI_z hI3)
    rw [Nat.zero_add] at this
    exact this
  · refine wq (wre (q_net hI _) (e_net0.trans (yP_f ho))) fun m1 hI => ?_
    refine wt rfl ?_
    refine wq (wre (q_ord hI _) (e_ordn (i := 0) ho (by decide))) fun m1 hI => ?_
    refine wt rfl ?_
    refine wq (wre (q_net hI _) (e_net4.trans (yif_f ho))) fun m1 hI => ?_
    exact wt rfl (we (wI_Z hI (fun _ _ => wE_lo) (wE_le (wI_z hI) (by decide))))
end
