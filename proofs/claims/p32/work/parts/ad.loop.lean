/-! a step of the law, the loop, and the end -/
theorem wmul2 : ∀ n, n < 9 → (nI n * (nI n - 1)) / (2 : Int32) = nI (n * (n - 1) / 2) := by decide +kernel
section
variable {n : Nat} {N0 : yNW} {fr : Nat} {sc : Nat → Int32} {k hh tt : Nat} {N Nr : yNW} {h : Nat} {H : Nat → yNW} {hd : Nat → Prop} {K : Nat → yNW} {t r cc ss : Nat} {m : xmm}
theorem wothr (hG : yGr n N.1) : nI (yln (yop n N.1)) = ((nI n * (nI n - 1)) / (2 : Int32)) - nI (yln N.1) := by
  have hn := hG.1
  have e := wop_ln hG
  have e2 : n * (n - 1) + n = n * n := by
    cases n with
    | zero => rfl
    | succ n => rw [Nat.add_sub_cancel, ← Nat.mul_succ]
  rw [wmul2 n (by omega), pk_sub (by omega)]
  exact congrArg nI (by omega)
theorem s_l363 (nx : wNx n N0 fr sc k hh tt) (hq : hd 0 ∧ hd 1 ∧ K 0 = N0) (hK : K 1 = N) (hI : wI n N h H hd K 0 (wLX n N0 fr sc t r N) m) (hb : h + 2 ≤ hh ∧ t + 4 ≤ tt ∧ tt ≤ 300 ∧ hh < 39 ∧ cc ≤ t ∧ ss ≤ 70 * t) {w : Nat} (hw : w < 2 ^ 31) {a b : Nat} (ha : 0 < n → a < n) (hb' : 0 < n → b < n) : wR (1 : Int32) (fun _ => True) (bL_law_363 (nI n) fr (nI k) (nI w) (nI (yln N.1)) (nI h) (yP (yord (yad N.1))) r (nI a) (nI b) 1 cc ss m) := by
  have hG := wI_G hI
  have hn := hG.1
  have e6 : nI w - nI w / (6 : Int32) * (6 : Int32) = nI (w % 6) := pk_rem (d := 6) hw (by decide) (by decide)
  have h6 : w % 6 < 6 := Nat.mod_lt _ (by decide)
  have cs : ∀ {c : Nat} {x : Int32}, c < 6 → w % 6 = c → nI c = x → nI w - nI w / (6 : Int32) * (6 : Int32) = x := fun _ e1 e2 => e6.trans ((congrArg nI e1).trans e2)
  have cn : ∀ {c : Nat} {x : Nat}, x < 6 → w % 6 = c → c ≠ x → ¬ nI w - nI w / (6 : Int32) * (6 : Int32) = nI x := fun hx e1 e2 t => e2 (e1.symm.trans ((nI_eq (by omega) (by omega)).mp (e6.symm.trans t)))
  have n0' : ¬ n = 0 → ¬ nI n ≤ 0 := fun n0 t => absurd ((nI_leI (a := n) (b := 0) (by omega) (by decide)).mp t) (by omega)
  refine wb (fun _ e => bL_law_363_i _ _ _ _ _ _ _ _ _ _ _ _ _ _ e) ?_
  rcases (show w % 6 = 0 ∨ w % 6 = 1 ∨ w % 6 = 2 ∨ w % 6 = 3 ∨ w % 6 = 4 ∨ w % 6 = 5 by omega) with e | e | e | e | e | e
  · refine wt (cs (by decide) e rfl) ?_
    by_cases n0 : n = 0
    · exact wt (by rw [n0]; exact w00) ((s_k0 nx hq hI hb _ ha hb').1 (Or.inl n0))
    · refine wno (n0' n0) ?_
      by_cases hab : a = b
      · exact wt (congrArg nI hab) ((s_k0 nx hq hI hb _ ha hb').1 (Or.inr hab))
      · have a1 := ha (by omega)
        have a2 := hb' (by omega)
        exact wno (fun t => hab ((nI_eq (by omega) (by omega)).mp t)) ((s_k0 nx hq hI hb _ ha hb').2 (by omega) hab)
  · refine wno (cn (x := 0) (by decide) e (by decide)) (wt (cs (by decide) e rfl) (wg (wbb (by omega) (by omega)) ?_))
    refine wq (wre (q_cnt hI 5) e_cnt5) fun m1 hI => wq (wre (q_cnt hI 4) e_cnt4) fun m1 hI => wq (wre (q_cnt hI 2) e_cnt2) fun m1 hI => wq (wre (q_cnt hI 6) e_cnt6) fun m1 hI => wq (wre (q_net hI 5) e_net5) fun m1 hI => wno w10 ?_
    refine wq (q_other hI) fun m1 hI => wt (wothr hG) ?_
    refine wq (wre (q_cnt hI 4) (e_cnt4.trans (congrArg nI (wop_c4 hG)))) fun m1 hI => wt rfl ?_
    refine wq (wre (q_cnt hI 5) (e_cnt5.trans (congrArg nI (wop_c5 hG)))) fun m1 hI => wt rfl ?_
    refine wq (wre (q_cnt hI 2) (e_cnt2.trans (congrArg nI (yct_c fun S _ => and_congr Iff.rfl wop_mo)))) fun m1 hI => wt rfl ?_
    refine wq (wre (q_cnt hI 6) (e_cnt6.trans (congrArg nI (wop_lk hG)))) fun m1 hI => wt rfl ?_
    have o5 : (yord (yad (yop n N.1)) ∧ yord (yad (yop n (yop n N.1)))) ↔ (yord (yad N.1) ∧ yord (yad (yop n N.1))) := by
      rw [wop_op hG]
      exact And.comm
    have o6 : yord (yad (yop n (yop n N.1))) ↔ yord (yad N.1) := by rw [wop_op hG]
    refine wq (wre (q_net hI 5) (e_net5.trans (yP_c o5))) fun m1 hI => wt rfl ?_
    refine wq (wre (q_net hI 6) (e_net6.trans (yP_c o6))) fun m1 hI => wt rfl ?_
    rw [yhn_e (by omega)] at hI
    exact s_l784 nx hq hG hI hb _
  · refine wno (cn (x := 0) (by decide) e (by decide)) (wno (cn (x := 1) (by decide) e (by decide)) (wt (cs (by decide) e rfl) ?_))
    by_cases n0 : n = 0
    · exact wt (by rw [n0]; exact w00) ((s_k2 nx hq hK hI hb _ ha hb').1 (Or.inl n0))
    · refine wno (n0' n0) ?_
      by_cases hab : a = b
      · exact wt (congrArg nI hab) ((s_k2 nx hq hK hI hb _ ha hb').1 (Or.inr hab))
      · have a1 := ha (by omega)
        have a2 := hb' (by omega)
        exact wno (fun t => hab ((nI_eq (by omega) (by omega)).mp t)) ((s_k2 nx hq hK hI hb _ ha hb').2 (by omega) hab)
  · refine wno (cn (x := 0) (by decide) e (by decide)) (wno (cn (x := 1) (by decide) e (by decide)) (wno (cn (x := 2) (by decide) e (by decide)) (wt (cs (by decide) e rfl) ?_)))
    by_cases n0 : n = 0
    · exact wt (by rw [n0]; rfl) (s_l1060 nx hq hI hb _ (c := 0) ha (fun _ => rfl) (fun t => absurd n0 (by omega)))
    · have a1 := ha (by omega)
      have h256 := y2p8 hn
      have hlt := hG.2.1 a
      exact wno (nI_ne0 (by omega) (by omega)) (wg (wbb (by omega) (by omega)) (wq (wre (q_near hI _) (e_near' hn a1)) fun m1 hI => wq (q_bc hI (k := N.1 a) (by omega)) fun m1 hI => s_l1060 nx hq hI hb _ ha (fun t => absurd t n0) (fun _ => rfl)))
  · exact wno (cn (x := 0) (by decide) e (by decide)) (wno (cn (x := 1) (by decide) e (by decide)) (wno (cn (x := 2) (by decide) e (by decide)) (wno (cn (x := 3) (by decide) e (by decide)) (wt (cs (by decide) e rfl) (s_k4 nx hq hI hb _)))))
  · refine wno (cn (x := 0) (by decide) e (by decide)) (wno (cn (x := 1) (by decide) e (by decide)) (wno (cn (x := 2) (by decide) e (by decide)) (wno (cn (x := 3) (by decide) e (by decide)) (wno (cn (x := 4) (by decide) e (by decide)) ?_))))
    by_cases g : ((nI w >>> ((5 : Int32) &&& 31)) &&& (1 : Int32)) = 0
    · refine wt g (wno w10 (wg (wbb (by omega) (by omega)) (wq (q_rest hI (i := 0) (by decide) hq.1) fun m1 hI => wno w10 ?_)))
      rw [hq.2.2] at hI
      exact s_ks hI (by omega) (by omega) (by omega) (wI_z hI).1 fun m2 hI => wno w10 (wq (wre (q_cnt hI 9) e_cnt9) fun m3 hI => wt rfl (wnx nx hq hI (by omega)))
    · exact wno g (wnx nx hq hI (by omega))
theorem s_l337 (nx : wNx n N0 fr sc k hh tt) (hq : hd 0 ∧ hd 1 ∧ K 0 = N0) (hK : K 1 = N) (hI : wI n N h H hd K 0 (wLX n N0 fr sc t r N) m) (hb : h + 2 ≤ hh ∧ t + 4 ≤ tt ∧ tt ≤ 300 ∧ hh < 39 ∧ cc ≤ t ∧ ss ≤ 70 * t) {w : Nat} (hw : w < 2 ^ 31) {a b : Nat} (ha : 0 < n → a < n) (hb' : 0 < n → b < n) {x y : Int32} (hxy : x = y) : wR (1 : Int32) (fun _ => True) (bL_law_337 (nI n) fr (nI k) (nI w) (nI (yln N.1)) (nI h) (yP (yord (yad N.1))) r (nI a) (nI b) x y cc ss m) := by
  have hG := wI_G hI
  have h28 := wln_28 (yGr_gd hG)
  refine wb (fun _ e => bL_law_337_i _ _ _ _ _ _ _ _ _ _ _ _ _ _ _ e) (wt hxy (wg (wbb (by omega) (by omega)) (wq (wre (q_col hI 1) (e_col' (k := 1) (by decide))) fun m1 hI => ?_)))
  by_cases hl : yln N.1 = 0
  · have h0 := (wln_0 hG).mp hl
    exact wt (by rw [hl]; rfl) (wt (congrArg nI (wck_1 fun p q _ _ => h0 p q)) (s_l363 nx hq hK hI hb hw ha hb'))
  · have hex : ∃ p q, yad N.1 p q := Classical.byContradiction fun t => hl ((wln_0 hG).mpr fun p q s => t ⟨p, q, s⟩)
    obtain ⟨p, q, hpq⟩ := hex
    have e : yck N.1 1 (2 ^ n - 1) = 0 := wck_1n (yall_b.mpr (ytb_of (hG.2.1 q) (hG.2.2.2.1 _ _ hpq))) (yall_b.mpr (ytb_of (hG.2.1 p) hpq)) hpq
    exact wno (nI_ne0 (by omega) (by omega)) (wt (congrArg nI e) (s_l363 nx hq hK hI hb hw ha hb'))
theorem s_l294 (nx : wNx n N0 fr sc k hh tt) (h0 : hd 0) (hK0 : K 0 = N0) (hI : wI n N h H hd K 0 (wLX n N0 fr sc t r N) m) (hb : h + 2 ≤ hh ∧ t + 4 ≤ tt ∧ tt ≤ 300 ∧ hh < 39 ∧ cc ≤ t ∧ ss ≤ 70 * t) {w : Nat} (hw : w < 2 ^ 31) {a b : Nat} (ha : 0 < n → a < n) (hb' : 0 < n → b < n) : wR (1 : Int32) (fun _ => True) (bL_law_294 1 (nI n) fr (nI k) (nI w) (nI (yln N.1)) (nI h) (yP (yord (yad N.1))) r (nI a) (nI b) cc ss m) := by
  have hG := wI_G hI
  have hn := hG.1
  refine wb (fun _ e => bL_law_294_i _ _ _ _ _ _ _ _ _ _ _ _ _ _ e) (wno w10 (wg (wbb (by omega) (by omega)) (wq (q_hold hI (i := 1) (by decide)) fun m1 hI => wno w10 ?_)))
  have hq : (yhu hd 1) 0 ∧ (yhu hd 1) 1 ∧ yku K 1 N 0 = N0 := ⟨Or.inl h0, Or.inr rfl, hK0⟩
  have hK : yku K 1 N 1 = N := rfl
  refine wq (wre (q_like hI 1) ((e_like' (i := 1) (by decide) hq.2.1).trans (by rw [hK]))) fun m1 hI => wq (wre (q_cnt hI 6) e_cnt6) fun m1 hI => wt rfl ?_
  refine wq (wre (q_col hI 0) (e_col' (k := 0) (by decide))) fun m1 hI => ?_
  by_cases n0 : n = 0
  · have e : yck N.1 0 (2 ^ n - 1) = 1 := by
      rw [n0]
      exact if_pos rfl
    exact wt (by rw [n0]; rfl) (s_l337 nx hq hK hI hb hw ha hb' (congrArg nI e))
  · have e : yck N.1 0 (2 ^ n - 1) = 0 := wck_0 ⟨0, yall_b.mpr (by omega)⟩
    exact wno (nI_ne0 (by omega) (by omega)) (s_l337 nx hq hK hI hb hw ha hb' (congrArg nI e))
theorem s_l275 (nx : wNx n N0 fr sc k hh tt) (h0 : hd 0) (hK0 : K 0 = N0) (hI : wI n N h H hd K 0 (wLX n N0 fr sc t r N) m) (hb : h + 2 ≤ hh ∧ t + 4 ≤ tt ∧ tt ≤ 300 ∧ hh < 39 ∧ cc ≤ t ∧ ss ≤ 70 * t) {w : Nat} (hw : w < 2 ^ 31) {a : Nat} (ha : 0 < n → a < n) : wR (1 : Int32) (fun _ => True) (bL_law_275 1 (nI n) fr (nI k) (nI w) (nI (yln N.1)) (nI h) (yP (yord (yad N.1))) r (nI a) cc ss m) := by
  have hn := (wI_G hI).1
  refine wb (fun _ e => bL_law_275_i _ _ _ _ _ _ _ _ _ _ _ _ _ e) ?_
  by_cases n0 : n = 0
  · exact wt (by rw [n0]; rfl) (s_l294 nx h0 hK0 hI hb hw (b := 0) ha (fun t => t))
  · have nz : ¬ nI n = 0 := nI_ne0 (by omega) (by omega)
    refine wno nz (wg (by rw [decide_eq_false nz]; rfl) ?_)
    rw [wsh hw (k := 6) (by decide) 6 rfl, pk_rem (a := w / 2 ^ 6) (d := n) (by omega) (by omega) (by omega)]
    exact s_l294 nx h0 hK0 hI hb hw ha (fun _ => Nat.mod_lt _ (by omega))
theorem s_l230 (nx : wNx n N0 fr sc k hh tt) (h0 : hd 0) (hK0 : K 0 = N0) (hI : wI n N h H hd K 0 (wLX n N0 fr sc t r Nr) m) (hb : h + 2 ≤ hh ∧ t + 5 ≤ tt ∧ tt ≤ 300 ∧ hh < 39 ∧ cc ≤ t ∧ ss ≤ 70 * t) {w : Nat} (hw : w < 2 ^ 31) : wR (1 : Int32) (fun _ => True) (bL_law_230 (nI n) fr (nI k) (nI w) 1 cc ss m) := by
  have hn := (wI_G hI).1
  refine wb (fun _ e => bL_law_230_i _ _ _ _ _ _ _ _ e) (wg (wbb (by omega) (by omega)) ?_)
  refine wq (wre (q_cnt hI 1) e_cnt1) fun m1 hI => wq (wre (q_cnt hI 9) e_cnt9) fun m1 hI => wq (wre (q_net hI 0) e_net0) fun m1 hI => wg (wbb (by omega) (by omega)) ?_
  refine s_kp hI (by omega) fun r' m1 hI => wg (wRow_9 (wI_z hI).2.2.2) ?_
  by_cases n0 : n = 0
  · exact wt (by rw [n0]; rfl) (s_l275 nx h0 hK0 hI (by omega) hw (a := 0) (fun t => t))
  · have nz : ¬ nI n = 0 := nI_ne0 (by omega) (by omega)
    refine wno nz (wg (by rw [decide_eq_false nz]; rfl) ?_)
    rw [wsh hw (k := 3) (by decide) 3 rfl, pk_rem (a := w / 2 ^ 3) (d := n) (by omega) (by omega) (by omega)]
    exact s_l275 nx h0 hK0 hI (by omega) hw (fun _ => Nat.mod_lt _ (by omega))
/-! the end -/
theorem w7pp {hd : Nat → Prop} (h0 : hd 0) (h1 : hd 1) (h2 : hd 2) : ypp (ybs hd 3) = 3 := by
  have e : ybs hd 3 = 2 ^ 3 - 1 := ytb_ext fun q => yb_bs.trans (Iff.trans ⟨fun t => t.1, fun t => ⟨t, by rcases (show q = 0 ∨ q = 1 ∨ q = 2 by omega) with rfl | rfl | rfl <;> assumption⟩⟩ yall_b.symm)
  rw [e, wpp_n (n := 3) (by decide) (by decide)]
  exact ysz_all 3
theorem s_l1506 (h0 : hd 0) (h1 : hd 1) (h2 : hd 2) (hK0 : K 0 = N0) (hI : wI n N h H hd K 0 (wLX n N0 fr sc t r Nr) m) (hb : t ≤ 300 ∧ cc ≤ t ∧ ss ≤ 70 * t) : wR (1 : Int32) (fun _ => True) (bL_law_1506 fr 1 cc ss m) := by
  refine wb (fun _ e => bL_law_1506_i _ _ _ _ _ e) (wno w10 (wg (wbb (by omega) (by omega)) (wq (q_rest hI (i := 0) (by decide) h0) fun m1 hI => wno w10 ?_)))
  rw [hK0] at hI
  refine s_ks hI (by omega) (by omega) (by omega) (wI_z hI).1 fun m2 hI => wno w10 ?_
  refine wq (q_restn hI) fun m1 hI => wt rfl (wq (q_holdn hI) fun m1 hI => wt rfl (wq (wre (q_cnt hI 10) (e_cnt10.trans (congrArg nI (w7pp h0 h1 h2)))) fun m1 hI => wt rfl (we trivial)))
theorem s_l1449 (h0 : hd 0) (h1 : hd 1) (hK0 : K 0 = N0) (hI : wI n N h H hd K 0 (wLX n N0 fr sc t r Nr) m) (hb : t ≤ 290 ∧ cc ≤ t ∧ ss ≤ 70 * t) : wR (1 : Int32) (fun _ => True) (bL_law_1449 1 fr cc ss m) := by
  refine wb (fun _ e => bL_law_1449_i _ _ _ _ _ e) (wg (wbb (by omega) (by omega)) ?_)
  refine s_kp hI (by omega) fun r' m1 hI => wg (wRow_9 (wI_z hI).2.2.2) (wno w10 ?_)
  have h28 := wln_28 (yGr_gd (yop_gr (wI_G hI)))
  refine wq (q_hold hI (i := 2) (by decide)) fun m1 hI => wno w10 (wq (q_other hI) fun m1 hI => wno (yI_ltz (by omega)) ?_)
  refine wq (q_rest hI (i := 2) (by decide) (Or.inr rfl)) fun m1 hI => wno w10 ?_
  have hI : wI n N 0 (ypu N H) (yhu hd 2) (yku K 2 N) 0 (wLX n N0 fr sc (t + 1) r' N) m1 := hI
  refine s_ksn hI (by omega) (by omega) (by omega) (wI_z hI).2.2.2 fun m1 hI => wno w10 ?_
  exact wq (q_undo0 hI) fun m1 hI => wt rfl (s_l1506 (t := t + 1 + 1) (hd := yhu hd 2) (K := yku K 2 N) (Or.inl h0) (Or.inl h1) (Or.inr rfl) hK0 hI (by omega))
/-! the loop -/
theorem s_loop : ∀ (d k : Nat) (N : yNW) (h : Nat) (H : Nat → yNW) (hd : Nat → Prop) (K : Nat → yNW) (t r : Nat) (Nr : yNW) (cc ss : Nat) (m : xmm), k + d = 18 → 3 ≤ k → wI n N h H hd K 0 (wLX n N0 fr sc t r Nr) m → (h ≤ 2 * (k - 3) ∧ t ≤ 160 + 6 * (k - 3) ∧ cc ≤ t ∧ ss ≤ 70 * t) → hd 0 → K 0 = N0 → (3 < k → hd 1) → wR (1 : Int32) (fun _ => True) (bL_law_183 1 (nI n) fr (nI k) cc ss m) := by
  intro d
  induction d with
  | zero =>
    intro k N h H hd K t r Nr cc ss m hk h3 hI hb h0 hK0 h1
    have e : k = 18 := by omega
    subst e
    exact wb (fun _ e => bL_law_183_i _ _ _ _ _ _ _ e) (wt (by decide) (s_l1449 h0 (h1 (by decide)) hK0 hI (by omega)))
  | succ d ih =>
    intro k N h H hd K t r Nr cc ss m hk h3 hI hb h0 hK0 h1
    have hG := wI_G hI
    have hz := wI_z hI
    obtain ⟨w, hw, ew⟩ := pk_andE (m.1 999 (nI k).toNatClampNeg) (m := 2147483647) 31 (by decide)
    refine wb (fun _ e => bL_law_183_i _ _ _ _ _ _ _ e) (wno (nI_ge (b := 18) (by omega) (by decide)) (wno w10 (wg (wRow_ir hz.2.1 (by decide) (by omega)) (wg (wbb (by omega) (by omega)) ?_))))
    rw [ew, wsh hw (k := 3) (by decide) 3 rfl, wsh hw (k := 4) (by decide) 4 rfl]
    refine wq (s_arrows hG (by omega) hI) fun m1 hI => wno w10 (wg (wbb (by omega) (by omega)) ?_)
    have hz := wI_z hI
    have h9 : xctm m1 < 900 := by have := hz.2.2.1; omega
    refine wq (s_orders (by omega) h9 hI) fun m2 hI => wno w10 ?_
    have hI := wI_Z hI wLX_lo (wLX_E (wI_z hI) hz)
    refine s_l230 (hh := h + 2) (tt := t + 6) (fun N' h' H' hd' K' t' r' Nr' cc' ss' m' hI' hb' hq' => ?_) h0 hK0 hI (by omega) hw
    rw [nI_1]
    exact ih (k + 1) N' h' H' hd' K' t' r' Nr' cc' ss' m' (by omega) (by omega) hI' (by omega) hq'.1 hq'.2.2 (fun _ => hq'.2.1)
end
