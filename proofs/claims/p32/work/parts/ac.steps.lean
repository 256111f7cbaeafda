/-! the law's steps: kinds 3, 2, 1, 0 -/
section
variable {n : Nat} {N0 : yNW} {fr : Nat} {sc : Nat → Int32} {k hh tt : Nat} {N Nr : yNW} {h : Nat} {H : Nat → yNW} {hd : Nat → Prop} {K : Nat → yNW} {t r cc ss : Nat} {m : xmm}
/-! a post bare -/
theorem s_l1137a (nx : wNx n N0 fr sc k hh tt) (hq : hd 0 ∧ hd 1 ∧ K 0 = N0) (hI : wI n N h H hd K 0 (wLX n N0 fr sc t r Nr) m) (hb : h ≤ hh ∧ t ≤ tt ∧ cc ≤ t ∧ ss ≤ 70 * t) (v7 v9 : Int32) {x : Int32} (hx : x ≤ 0) : wR (1 : Int32) (fun _ => True) (bL_law_1137 (nI n) fr (nI k) v7 v9 r x 1 cc ss m) := by
  refine wb (fun _ e => bL_law_1137_i _ _ _ _ _ _ _ _ _ _ _ e) ?_
  by_cases c : ((v7 >>> ((9 : Int32) &&& 31)) &&& (1 : Int32)) = 0
  · exact wt c (wt hx (wnx nx hq hI hb))
  · exact wno c (wnx nx hq hI hb)
theorem s_l1137b (nx : wNx n N0 fr sc k hh tt) (hq : hd 0 ∧ hd 1 ∧ K 0 = N0) (hI : wI n N (h + 1) (ypu Nr H) hd K 0 (wLX n N0 fr sc t r Nr) m) (hb : h + 1 ≤ hh ∧ t + 1 ≤ tt ∧ tt ≤ 300 ∧ cc ≤ t ∧ ss ≤ 70 * t) (v7 : Int32) {c : Nat} (c0 : 0 < c) (c8 : c ≤ 8) : wR (1 : Int32) (fun _ => True) (bL_law_1137 (nI n) fr (nI k) v7 (nI h) r (nI c) 1 cc ss m) := by
  refine wb (fun _ e => bL_law_1137_i _ _ _ _ _ _ _ _ _ _ _ e) ?_
  by_cases g : ((v7 >>> ((9 : Int32) &&& 31)) &&& (1 : Int32)) = 0
  · refine wt g (wno (fun t => absurd ((nI_leI (a := c) (b := 0) (by omega) (by decide)).mp t) (by omega)) (wno w10 (wg (wbb (by omega) (by omega)) (wq (q_undo hI) fun m1 hI => wno w10 ?_))))
    have hI : wI n Nr h (fun i => ypu Nr H (i + 1)) hd K 0 (wLX n N0 fr sc t r Nr) m1 := hI
    exact s_ks hI (by omega) (by omega) (by omega) (wI_z hI).2.2.2 fun m2 hI => wno w10 (wq (wre (q_cnt hI 9) e_cnt9) fun m3 hI => wt rfl (wnx nx hq hI (by omega)))
  · exact wno g (wnx nx hq hI (by omega))
theorem s_l1091 (hI : wI n N h H hd K 0 (wLX n N0 fr sc t r Nr) m) (hb : t ≤ 300 ∧ cc ≤ t ∧ ss ≤ 70 * t) (v7 v9 : Int32) {a c : Nat} (hl : yln N.1 + c = yln Nr.1) (hp : ypt (yad Nr.1) (2 ^ n - 1) ≤ ypt (yad N.1) (2 ^ n - 1)) (ha : 0 < n → a < n ∧ N.1 a = 0) (nx : ∀ m, wI n N h H hd K 0 (wLX n N0 fr sc t r Nr) m → wR (1 : Int32) (fun _ => True) (bL_law_1137 (nI n) fr (nI k) v7 v9 r (nI c) 1 cc ss m)) (x : Int32) : wR (1 : Int32) (fun _ => True) (bL_law_1091 (nI n) fr (nI k) v7 (nI (yln Nr.1)) v9 r (nI a) (nI c) (nI (ypt (yad Nr.1) (2 ^ n - 1))) x x cc ss m) := by
  have hn := (wI_G hI).1
  have p8 : ∀ g, ypt g (2 ^ n - 1) ≤ 8 := fun g => yct_le _ 8
  have q1 := p8 (yad N.1)
  have q2 := p8 (yad Nr.1)
  refine wb (fun _ e => bL_law_1091_i _ _ _ _ _ _ _ _ _ _ _ _ _ _ _ e) (wt rfl (wg (wbb (by omega) (by omega)) ?_))
  refine wq (wre (q_cnt hI 1) e_cnt1) fun m1 hI => wt ?_ ?_
  · show nI (yln N.1) = nI (yln Nr.1) - nI c
    rw [pk_sub (a := yln Nr.1) (by omega), ← hl, Nat.add_sub_cancel]
  refine wq (wre (q_net hI 7) e_net7) fun m1 hI => wno (fun t => absurd ((nI_ltI (by omega) (by omega)).mp t) (by omega)) ?_
  by_cases n0 : n = 0
  · exact wt (by rw [n0]; rfl) (nx _ hI)
  · obtain ⟨a1, a2⟩ := ha (by omega)
    exact wno (nI_ne0 (by omega) (by omega)) (wq (wre (q_near hI _) ((e_near' hn a1).trans (congrArg nI a2))) fun m1 hI => wt rfl (nx _ hI))
theorem s_l1060 (nx : wNx n N0 fr sc k hh tt) (hq : hd 0 ∧ hd 1 ∧ K 0 = N0) (hI : wI n N h H hd K 0 (wLX n N0 fr sc t r N) m) (hb : h + 2 ≤ hh ∧ t + 4 ≤ tt ∧ tt ≤ 300 ∧ hh < 39 ∧ cc ≤ t ∧ ss ≤ 70 * t) (v7 : Int32) {a c : Nat} (ha : 0 < n → a < n) (c0 : n = 0 → c = 0) (c1 : 0 < n → c = ypp (N.1 a)) : wR (1 : Int32) (fun _ => True) (bL_law_1060 1 (nI n) fr (nI k) v7 (nI (yln N.1)) (nI h) r (nI a) (nI c) cc ss m) := by
  refine wb (fun _ e => bL_law_1060_i _ _ _ _ _ _ _ _ _ _ _ _ _ e) (wg (wbb (by omega) (by omega)) (wq (wre (q_net hI 7) e_net7) fun m1 hI => wno w10 ?_))
  have hG := wI_G hI
  by_cases n0 : n = 0
  · have e := c0 n0
    subst n0
    subst e
    exact wq (q_baren hI _) fun m1 hI => wt rfl (s_l1091 hI (by omega) v7 (nI h) (Nat.add_zero _) (Nat.le_refl _) (fun t => absurd t (Nat.lt_irrefl 0)) (fun m2 hI => s_l1137a nx hq hI (by omega) v7 (nI h) w00) _)
  · have an := ha (by omega)
    have ec := c1 (by omega)
    have c8 : c ≤ 8 := by rw [ec]; exact yct_le _ 8
    by_cases z : N.1 a = 0
    · have e : c = 0 := by rw [ec, z]; exact ypp_0 (fun _ => yb_0)
      subst e
      exact wq (q_bare0 hI an z) fun m1 hI => wno (nI_ne0 (by omega) (by have := hG.1; omega)) (s_l1091 hI (by omega) v7 (nI h) (Nat.add_zero _) (Nat.le_refl _) (fun _ => ⟨an, z⟩) (fun m2 hI => s_l1137a nx hq hI (by omega) v7 (nI h) w00) _)
    · have e : 0 < c := by
        obtain ⟨q, hq⟩ := yex_ne z
        have := hG.2.1 a
        have h8 := hG.1
        have q8 := ytb_of this hq
        have := yct_1 (P := fun k => yb (N.1 a) k) (i := q) (n := 8) (by omega) hq
        have e2 : ypp (N.1 a) = yct (fun k => yb (N.1 a) k) 8 := rfl
        omega
      have hc := wln_bare hG an
      subst ec
      refine wq (q_bare hI an z) fun m1 hI => wno (nI_ne0 (by omega) (by have := hG.1; omega)) ?_
      rw [yhn_e (by omega)] at hI
      exact s_l1091 (N := (ysp1 N.1 a, N.2)) hI (by omega) v7 (nI h) hc (wpt_le (fun p q t => (ysp1_b.mp t).1) _) (fun _ => ⟨an, if_pos rfl⟩) (fun m2 hI => s_l1137b nx hq hI (by omega) v7 e c8) _
/-! posts exchanged -/
theorem s_l990a (nx : wNx n N0 fr sc k hh tt) (hq : hd 0 ∧ hd 1 ∧ K 0 = N0) (hI : wI n N h H hd K 0 (wLX n N0 fr sc t r Nr) m) (hb : h ≤ hh ∧ t ≤ tt ∧ cc ≤ t ∧ ss ≤ 70 * t) (v7 x y : Int32) : wR (1 : Int32) (fun _ => True) (bL_law_990 (nI n) fr (nI k) v7 r x y 0 1 cc ss m) :=
  wb (fun _ e => bL_law_990_i _ _ _ _ _ _ _ _ _ _ _ _ e) (wt rfl (wnx nx hq hI hb))
theorem s_l990b (nx : wNx n N0 fr sc k hh tt) (hq : hd 0 ∧ hd 1 ∧ K 0 = N0) {a b : Nat} (ha : a < n) (hb' : b < n) (hab : a ≠ b) (hG : yGr n N.1) (hI : wI n (yex N.1 n a b, N.2) h H hd K 0 (wLX n N0 fr sc t r N) m) (hb : h + 1 ≤ hh ∧ t + 1 ≤ tt ∧ tt ≤ 300 ∧ cc ≤ t ∧ ss ≤ 70 * t) (v7 : Int32) : wR (1 : Int32) (fun _ => True) (bL_law_990 (nI n) fr (nI k) v7 r (nI a) (nI b) 1 1 cc ss m) := by
  refine wb (fun _ e => bL_law_990_i _ _ _ _ _ _ _ _ _ _ _ _ e) (wno w10 ?_)
  by_cases g : ((v7 >>> ((9 : Int32) &&& 31)) &&& (1 : Int32)) = 0
  · refine wt g (wno w10 (wg (wbb (by omega) (by omega)) (wq (q_exch hI hb' ha hab.symm) fun m1 hI => wno w10 ?_)))
    have eN : (yex ((yex N.1 n a b, N.2) : yNW).1 n b a, ((yex N.1 n a b, N.2) : yNW).2) = N := by
      show (yex (yex N.1 n a b) n b a, N.2) = N
      rw [wex_ex hG ha hb' hab]
    rw [eN] at hI
    have hy := yhn_le h
    exact s_ks hI (by omega) (by omega) (by omega) (wI_z hI).2.2.2 fun m2 hI => wno w10 (wnx nx hq hI (by omega))
  · exact wno g (wnx nx hq hI (by omega))
theorem s_l883 (hI : wI n N h H hd K 0 (wLX n N0 fr sc t r N) m) (h1 : hd 1) (hK : K 1 = N) (hb : t ≤ 300 ∧ cc ≤ t ∧ ss ≤ 70 * t) (v7 : Int32) {x y v14 : Int32} (ex : ∃ (N' : yNW) (h' : Nat) (H' : Nat → yNW), (yln N'.1 = yln N.1 ∧ (yord (yad N'.1) ↔ yord (yad N.1)) ∧ yLk N'.1 N'.1 n = yLk N.1 N.1 n ∧ yaNet n N' 3 = yaNet n N 3 ∧ ycnt (yrd N'.1) n = ycnt (yrd N.1) n ∧ yLk N'.1 N.1 n = yLk N.1 N.1 n) ∧ (∀ m, wI n N h H hd K 0 (wLX n N0 fr sc t r N) m → wR v14 (wI n N' h' H' hd K 0 (wLX n N0 fr sc t r N)) (fX11_exchange_0 x y m)) ∧ ∀ m, wI n N' h' H' hd K 0 (wLX n N0 fr sc t r N) m → wR (1 : Int32) (fun _ => True) (bL_law_990 (nI n) fr (nI k) v7 r x y v14 1 cc ss m)) : wR (1 : Int32) (fun _ => True) (bL_law_883 1 (nI n) fr (nI k) v7 (nI (yln N.1)) (yP (yord (yad N.1))) r x y v14 cc ss m) := by
  obtain ⟨N', h', H', ⟨e1, e2, e3, e4, e5, e6⟩, x1, x2⟩ := ex
  refine wb (fun _ e => bL_law_883_i _ _ _ _ _ _ _ _ _ _ _ _ _ _ e) (wg (wbb (by omega) (by omega)) ?_)
  refine wq (wre (q_cnt hI 6) e_cnt6) fun m1 hI => wq (q_net hI 3) fun m1 hI => wq (wre (q_cnt hI 3) e_cnt3) fun m1 hI => wno w10 ?_
  refine wq (x1 _ hI) fun m1 hI => wt rfl ?_
  refine wq (wre (q_cnt hI 1) (e_cnt1.trans (congrArg nI e1))) fun m1 hI => wt rfl ?_
  refine wq (wre (q_net hI 0) (e_net0.trans (yP_c e2))) fun m1 hI => wt rfl ?_
  refine wq (wre (q_cnt hI 6) (e_cnt6.trans (congrArg nI e3))) fun m1 hI => wt rfl ?_
  refine wq (wre (q_net hI 3) e4) fun m1 hI => wt rfl ?_
  refine wq (wre (q_cnt hI 3) (e_cnt3.trans (congrArg nI e5))) fun m1 hI => wt rfl ?_
  refine wq (wre (q_like hI 1) ((e_like' (i := 1) (by decide) h1).trans (by rw [hK, e6]))) fun m1 hI => wt rfl ?_
  exact x2 _ hI
theorem wnpr {a b : Nat} (hn : n ≤ 8) (ha : 0 < n → a < n) (h : n = 0 ∨ a = b) : ¬ yPr2 n (nI a) (nI b) := by
  rintro ⟨p, q, hp, hq, hpq, e1, e2⟩
  rcases h with h | h
  · omega
  · have := ha (by omega)
    subst h
    have a1 := (nI_eq (a := a) (b := p) (by omega) (by omega)).mp e1
    have a2 := (nI_eq (a := a) (b := q) (by omega) (by omega)).mp e2
    omega
theorem s_k2 (nx : wNx n N0 fr sc k hh tt) (hq : hd 0 ∧ hd 1 ∧ K 0 = N0) (hK : K 1 = N) (hI : wI n N h H hd K 0 (wLX n N0 fr sc t r N) m) (hb : h + 2 ≤ hh ∧ t + 4 ≤ tt ∧ tt ≤ 300 ∧ hh < 39 ∧ cc ≤ t ∧ ss ≤ 70 * t) (v7 : Int32) {a b : Nat} (ha : 0 < n → a < n) (hb' : 0 < n → b < n) : (n = 0 ∨ a = b → wR (1 : Int32) (fun _ => True) (bL_law_883 1 (nI n) fr (nI k) v7 (nI (yln N.1)) (yP (yord (yad N.1))) r (nI a) (nI b) 0 cc ss m)) ∧ (0 < n → a ≠ b → wR (1 : Int32) (fun _ => True) (bL_law_883 1 (nI n) fr (nI k) v7 (nI (yln N.1)) (yP (yord (yad N.1))) r (nI a) (nI b) 1 cc ss m)) := by
  have hG := wI_G hI
  refine ⟨fun c => s_l883 hI hq.2.1 hK (by omega) v7 ⟨N, h, H, ⟨rfl, Iff.rfl, rfl, rfl, rfl, rfl⟩, fun m1 hI => q_exchn hI (wnpr hG.1 ha c), fun m1 hI => s_l990a nx hq hI (by omega) v7 _ _⟩, fun n0 hab => ?_⟩
  have an := ha n0
  have bn := hb' n0
  have hy := yhn_le h
  refine s_l883 hI hq.2.1 hK (by omega) v7 ⟨(yex N.1 n a b, N.2), yhn h, ypu N H, ⟨wex_ln hG an bn hab, wex_ord hG an bn hab, wex_lk hG an bn hab, ?_, wex_rds hG an bn hab, wlk_src hG hG.2.2.2 an bn hab⟩, fun m1 hI => q_exch hI an bn hab, fun m1 hI => s_l990b nx hq an bn hab hG hI (by omega) v7⟩
  rw [e_net3, e_net3]
  by_cases ho : yord (yad N.1)
  · rw [yif_t ho, yif_t (show yord (yad (yex N.1 n a b)) from (wex_ord hG an bn hab).mpr ho)]
    exact congrArg nI (wex_pr hG an bn hab ho)
  · rw [yif_f ho, yif_f (show ¬ yord (yad (yex N.1 n a b)) from fun t => ho ((wex_ord hG an bn hab).mp t))]
/-! the other network -/
theorem s_l784 (nx : wNx n N0 fr sc k hh tt) (hq : hd 0 ∧ hd 1 ∧ K 0 = N0) (hG : yGr n N.1) (hI : wI n (yop n N.1, N.2) (h + 1) (ypu N H) hd K 0 (wLX n N0 fr sc t r N) m) (hb : h + 2 ≤ hh ∧ t + 4 ≤ tt ∧ tt ≤ 300 ∧ hh < 39 ∧ cc ≤ t ∧ ss ≤ 70 * t) (v7 : Int32) : wR (1 : Int32) (fun _ => True) (bL_law_784 (nI n) fr (nI k) v7 (nI (yln N.1)) (nI h) r 1 cc ss m) := by
  refine wb (fun _ e => bL_law_784_i _ _ _ _ _ _ _ _ _ _ _ e) ?_
  by_cases g : ((v7 >>> ((9 : Int32) &&& 31)) &&& (1 : Int32)) = 0
  · refine wt g (wno w10 (wg (wbb (by omega) (by omega)) ?_))
    have eo := wop_op hG
    have eN : (yop n ((yop n N.1, N.2) : yNW).1, ((yop n N.1, N.2) : yNW).2) = N := by
      show (yop n (yop n N.1), N.2) = N
      rw [eo]
    refine wq (wre (q_other hI) (congrArg (fun R => nI (yln R)) eo)) fun m1 hI => wt rfl ?_
    rw [eN, yhn_e (by omega)] at hI
    refine s_ks hI (by omega) (by omega) (by omega) (wI_z hI).2.2.2 fun m1 hI => wno w10 ?_
    refine wq (q_undo hI) fun m1 hI => wno w10 ?_
    refine wq (q_undo hI) fun m1 hI => wno w10 ?_
    have hI : wI n N h (fun i => ypu (yop n N.1, N.2) (ypu N H) (i + 1 + 1)) hd K 0 (wLX n N0 fr sc (t + 1) r N) m1 := hI
    refine s_ksn hI (by omega) (by omega) (by omega) (wI_z hI).2.2.2 fun m1 hI => wno w10 ?_
    exact wq (wre (q_cnt hI 9) e_cnt9) fun m3 hI => wt rfl (wnx nx hq hI (by omega))
  · exact wno g (wnx nx hq hI (by omega))
/-! a line -/
theorem s_l581a (nx : wNx n N0 fr sc k hh tt) (hq : hd 0 ∧ hd 1 ∧ K 0 = N0) (hI : wI n N h H hd K 0 (wLX n N0 fr sc t r Nr) m) (hb : h ≤ hh ∧ t ≤ tt ∧ cc ≤ t ∧ ss ≤ 70 * t) (v7 x y : Int32) : wR (1 : Int32) (fun _ => True) (bL_law_581 1 (nI n) fr (nI k) v7 r x y 0 cc ss m) :=
  wb (fun _ e => bL_law_581_i _ _ _ _ _ _ _ _ _ _ _ _ e) (wt rfl (wnx nx hq hI hb))
theorem s_l581b (nx : wNx n N0 fr sc k hh tt) (hq : hd 0 ∧ hd 1 ∧ K 0 = N0) {a b : Nat} (ha : a < n) (hb' : b < n) (hab : a ≠ b) (hI : wI n (yfp N.1 a b, N.2) (h + 1) (ypu N H) hd K 0 (wLX n N0 fr sc t r N) m) (hb : h + 2 ≤ hh ∧ t + 4 ≤ tt ∧ tt ≤ 300 ∧ hh < 39 ∧ cc ≤ t ∧ ss ≤ 70 * t) (v7 : Int32) : wR (1 : Int32) (fun _ => True) (bL_law_581 1 (nI n) fr (nI k) v7 r (nI a) (nI b) 1 cc ss m) := by
  refine wb (fun _ e => bL_law_581_i _ _ _ _ _ _ _ _ _ _ _ _ e) (wno w10 ?_)
  by_cases g : ((v7 >>> ((9 : Int32) &&& 31)) &&& (3 : Int32)) = 0
  · refine wt g (wno w10 (wg (wbb (by omega) (by omega)) (wq (q_line hI hb' ha hab.symm) fun m1 hI => wno w10 ?_)))
    have eN : (yfp ((yfp N.1 a b, N.2) : yNW).1 b a, ((yfp N.1 a b, N.2) : yNW).2) = N := by
      show (yfp (yfp N.1 a b) b a, N.2) = N
      rw [wfp_fp hab]
    rw [eN, yhn_e (by omega)] at hI
    refine s_ks hI (by omega) (by omega) (by omega) (wI_z hI).2.2.2 fun m1 hI => wno w10 ?_
    refine wq (q_undo hI) fun m1 hI => wno w10 ?_
    refine wq (q_undo hI) fun m1 hI => wno w10 ?_
    have hI : wI n N h (fun i => ypu (yfp N.1 a b, N.2) (ypu N H) (i + 1 + 1)) hd K 0 (wLX n N0 fr sc (t + 1) r N) m1 := hI
    exact s_ksn hI (by omega) (by omega) (by omega) (wI_z hI).2.2.2 fun m1 hI => wno w10 (wnx nx hq hI (by omega))
  · exact wno g (wnx nx hq hI (by omega))
theorem s_l547 (nx : wNx n N0 fr sc k hh tt) (hq : hd 0 ∧ hd 1 ∧ K 0 = N0) {a b : Nat} (ha : a < n) (hb' : b < n) (hab : a ≠ b) (hI : wI n (yfp N.1 a b, N.2) (h + 1) (ypu N H) hd K 0 (wLX n N0 fr sc t r N) m) (hb : h + 2 ≤ hh ∧ t + 4 ≤ tt ∧ tt ≤ 300 ∧ hh < 39 ∧ cc ≤ t ∧ ss ≤ 70 * t) (v7 : Int32) {x : Int32} (hx : x = 0 → yad (yfp N.1 a b) a b) : wR (1 : Int32) (fun _ => True) (bL_law_547 (nI n) fr (nI k) v7 r (nI a) (nI b) 1 x cc ss m) := by
  have hG := wI_G hI
  refine wb (fun _ e => bL_law_547_i _ _ _ _ _ _ _ _ _ _ _ _ e) (wg (wbb (by omega) (by omega)) ?_)
  refine wq (q_far hI _ _) fun m1 hI => ?_
  by_cases x0 : x = 0
  · exact wt x0 (wt ((e_far' hG.1 ha hb').trans (wfar hG ha hb' hab (hx x0))) (s_l581b nx hq ha hb' hab hI hb v7))
  · exact wno x0 (wq (q_far hI _ _) fun m1 hI => wt rfl (s_l581b nx hq ha hb' hab hI hb v7))
theorem s_l509 (nx : wNx n N0 fr sc k hh tt) (hq : hd 0 ∧ hd 1 ∧ K 0 = N0) {a b : Nat} (ha : a < n) (hb' : b < n) (hab : a ≠ b) (hI : wI n (yfp N.1 a b, N.2) (h + 1) (ypu N H) hd K 0 (wLX n N0 fr sc t r N) m) (hb : h + 2 ≤ hh ∧ t + 4 ≤ tt ∧ tt ≤ 300 ∧ hh < 39 ∧ cc ≤ t ∧ ss ≤ 70 * t) (hG : yGr n N.1) (v7 : Int32) : (¬ yad N.1 a b → wR (1 : Int32) (fun _ => True) (bL_law_509 (nI n) fr (nI k) v7 r (nI a) (nI b) 1 (nI (yck N.1 3 (2 ^ n - 1))) 0 1 cc ss m)) ∧ (yad N.1 a b → wR (1 : Int32) (fun _ => True) (bL_law_509 (nI n) fr (nI k) v7 r (nI a) (nI b) 1 (nI (yck N.1 3 (2 ^ n - 1))) 1 1 cc ss m)) := by
  have l1 := wck_lt hG.1 N.1
  have l2 := wck_lt hG.1 (yfp N.1 a b)
  constructor
  · intro h0
    have hon : ∀ p q, yad N.1 p q → yad (yfp N.1 a b) p q := fun p q t => (wfp_on hab h0 hG.2.2.2).mpr (Or.inl t)
    have hle := wck_le hon 3 (2 ^ n - 1)
    refine wb (fun _ e => bL_law_509_i _ _ _ _ _ _ _ _ _ _ _ _ _ _ e) (wno w10 (wno w10 (wt rfl (wg (wbb (by omega) (by omega)) ?_))))
    exact wq (wre (q_col hI 3) (e_col' (k := 3) (by decide))) fun m1 hI => wno (fun t => absurd ((nI_ltI l1 l2).mp t) (by omega)) (s_l547 nx hq ha hb' hab hI hb v7 fun _ => (wfp_on hab h0 hG.2.2.2).mpr (Or.inr (Or.inl ⟨rfl, rfl⟩)))
  · intro h0
    have hle := wck_le (wfp_off hab h0 hG.2.2.2).2 3 (2 ^ n - 1)
    refine wb (fun _ e => bL_law_509_i _ _ _ _ _ _ _ _ _ _ _ _ _ _ e) (wno w10 (wno w10 (wno w10 (wg (wbb (by omega) (by omega)) ?_))))
    exact wq (wre (q_col hI 3) (e_col' (k := 3) (by decide))) fun m1 hI => wno (fun t => absurd ((nI_ltI l2 l1).mp t) (by omega)) (s_l547 nx hq ha hb' hab hI hb v7 fun t => absurd t w10)
theorem s_l455a (nx : wNx n N0 fr sc k hh tt) (hq : hd 0 ∧ hd 1 ∧ K 0 = N0) (hI : wI n N h H hd K 0 (wLX n N0 fr sc t r N) m) (hb : h ≤ hh ∧ t ≤ tt ∧ tt ≤ 300 ∧ cc ≤ t ∧ ss ≤ 70 * t) (v7 v15 v16 : Int32) {x y : Int32} (hp : ¬ yPr2 n x y) : wR (1 : Int32) (fun _ => True) (bL_law_455 1 (nI n) fr (nI k) v7 (nI (yln N.1)) r x y 0 v15 v16 cc ss m) := by
  refine wb (fun _ e => bL_law_455_i _ _ _ _ _ _ _ _ _ _ _ _ _ _ _ e) (wno w10 (wg (wbb (by omega) (by omega)) ?_))
  refine wq (q_linen hI hp) fun m1 hI => wt rfl (wq (wre (q_cnt hI 1) e_cnt1) fun m1 hI => wt rfl (wt ?_ ?_))
  · show nI (yln N.1) = nI (yln N.1) + nI 0
    rw [nI_add, Nat.add_zero]
  · exact wb (fun _ e => bL_law_509_i _ _ _ _ _ _ _ _ _ _ _ _ _ _ e) (wt rfl (s_l581a nx hq hI (by omega) v7 _ _))
theorem s_l455b (nx : wNx n N0 fr sc k hh tt) (hq : hd 0 ∧ hd 1 ∧ K 0 = N0) {a b : Nat} (ha : a < n) (hb' : b < n) (hab : a ≠ b) (hI : wI n N h H hd K 0 (wLX n N0 fr sc t r N) m) (hb : h + 2 ≤ hh ∧ t + 4 ≤ tt ∧ tt ≤ 300 ∧ hh < 39 ∧ cc ≤ t ∧ ss ≤ 70 * t) (v7 : Int32) : (¬ yad N.1 a b → wR (1 : Int32) (fun _ => True) (bL_law_455 1 (nI n) fr (nI k) v7 (nI (yln N.1)) r (nI a) (nI b) 1 (nI (yck N.1 3 (2 ^ n - 1))) 0 cc ss m)) ∧ (yad N.1 a b → wR (1 : Int32) (fun _ => True) (bL_law_455 1 (nI n) fr (nI k) v7 (nI (yln N.1)) r (nI a) (nI b) 1 (nI (yck N.1 3 (2 ^ n - 1))) 1 cc ss m)) := by
  have hG := wI_G hI
  constructor
  · intro h0
    refine wb (fun _ e => bL_law_455_i _ _ _ _ _ _ _ _ _ _ _ _ _ _ _ e) (wno w10 (wg (wbb (by omega) (by omega)) ?_))
    refine wq (q_line hI ha hb' hab) fun m1 hI => wt rfl (wq (wre (q_cnt hI 1) e_cnt1) fun m1 hI => wno w10 (wt rfl (wt ?_ ?_)))
    · show nI (yln (yfp N.1 a b)) = nI (yln N.1) + 1
      rw [wln_on hG ha hb' hab h0, nI_1]
    · rw [yhn_e (by omega)] at hI
      exact (s_l509 nx hq ha hb' hab hI hb hG v7).1 h0
  · intro h0
    refine wb (fun _ e => bL_law_455_i _ _ _ _ _ _ _ _ _ _ _ _ _ _ _ e) (wno w10 (wg (wbb (by omega) (by omega)) ?_))
    refine wq (q_line hI ha hb' hab) fun m1 hI => wt rfl (wq (wre (q_cnt hI 1) e_cnt1) fun m1 hI => wno w10 (wno w10 (wt ?_ ?_)))
    · show nI (yln (yfp N.1 a b)) = nI (yln N.1) + (-1)
      rw [← wln_off hG ha hb' hab h0]
      have e : nI (yln (yfp N.1 a b) + 1) - 1 = nI (yln (yfp N.1 a b)) := yI_sub1 _
      rw [← e, Int32.sub_eq_add_neg]
    · rw [yhn_e (by omega)] at hI
      exact (s_l509 nx hq ha hb' hab hI hb hG v7).2 h0
theorem s_k0 (nx : wNx n N0 fr sc k hh tt) (hq : hd 0 ∧ hd 1 ∧ K 0 = N0) (hI : wI n N h H hd K 0 (wLX n N0 fr sc t r N) m) (hb : h + 2 ≤ hh ∧ t + 4 ≤ tt ∧ tt ≤ 300 ∧ hh < 39 ∧ cc ≤ t ∧ ss ≤ 70 * t) (v7 : Int32) {a b : Nat} (ha : 0 < n → a < n) (hb' : 0 < n → b < n) : (n = 0 ∨ a = b → wR (1 : Int32) (fun _ => True) (bL_law_421 1 (nI n) fr (nI k) v7 (nI (yln N.1)) r (nI a) (nI b) 0 cc ss m)) ∧ (0 < n → a ≠ b → wR (1 : Int32) (fun _ => True) (bL_law_421 1 (nI n) fr (nI k) v7 (nI (yln N.1)) r (nI a) (nI b) 1 cc ss m)) := by
  have hG := wI_G hI
  have hn := hG.1
  constructor
  · intro c
    refine wb (fun _ e => bL_law_421_i _ _ _ _ _ _ _ _ _ _ _ _ _ e) (wg (wbb (by omega) (by omega)) (wq (q_col hI 3) fun m1 hI => ?_))
    by_cases n0 : n = 0
    · exact wt (by rw [n0]; exact w00) (s_l455a nx hq hI (by omega) v7 _ _ (wnpr hn ha c))
    · refine wno (fun t => absurd ((nI_leI (a := n) (b := 0) (by omega) (by decide)).mp t) (by omega)) (wq (q_near hI _) fun m1 hI => ?_)
      by_cases g : ((yaNear n N (nI a) >>> (nI b &&& 31)) &&& (1 : Int32)) = 1
      · exact wt g (s_l455a nx hq hI (by omega) v7 _ _ (wnpr hn ha c))
      · exact wno g (s_l455a nx hq hI (by omega) v7 _ _ (wnpr hn ha c))
  · intro n0 hab
    have an := ha n0
    have bn := hb' n0
    refine wb (fun _ e => bL_law_421_i _ _ _ _ _ _ _ _ _ _ _ _ _ e) (wg (wbb (by omega) (by omega)) (wq (wre (q_col hI 3) (e_col' (k := 3) (by decide))) fun m1 hI => ?_))
    refine wno (fun t => absurd ((nI_leI (a := n) (b := 0) (by omega) (by decide)).mp t) (by omega)) (wq (wre (q_near hI _) (e_near' hn an)) fun m1 hI => ?_)
    have h256 := y2p8 hn
    have hlt := hG.2.1 a
    have eb : ((nI (N.1 a) >>> (nI b &&& 31)) &&& (1 : Int32)) = yP (yad N.1 a b) := yI_bit (by omega) (by omega)
    by_cases g : yad N.1 a b
    · exact wt (eb.trans (yP_t g)) ((s_l455b nx hq an bn hab hI hb v7).2 g)
    · exact wno (fun t => w01 (((eb.trans (yP_f g)).symm).trans t)) ((s_l455b nx hq an bn hab hI hb v7).1 g)
end
