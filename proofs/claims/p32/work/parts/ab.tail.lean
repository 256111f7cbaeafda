/-! the law's steps: what is kept through them, and the end of each step -/
def wLX (n : Nat) (N0 : yNW) (fr : Nat) (sc : Nat → Int32) (t r : Nat) (Nr : yNW) (m : xmm) : Prop := wRow m fr 70 (wkv n N0) ∧ wRow m 999 20 sc ∧ xctm m ≤ 145 + t ∧ wRow m r 70 (wkv n Nr)
theorem yhn_le (h : Nat) : yhn h ≤ h + 1 := by
  unfold yhn
  by_cases c : h < 40
  · rw [if_pos c]; exact Nat.le_refl _
  · rw [if_neg c]; omega
theorem yhn_e {h : Nat} (c : h < 40) : yhn h = h + 1 := if_pos c
theorem wbb {cc ss : Nat} (h1 : cc ≤ 1000) (h2 : ss ≤ 100000) : (Nat.ble cc (xmc 171) && Nat.ble ss (xms 171)) = true := by
  have e1 : xmc 171 = 1000 := rfl
  have e2 : xms 171 = 100000 := rfl
  rw [e1, e2, show Nat.ble cc 1000 = true from Nat.ble_eq_true_of_le h1, show Nat.ble ss 100000 = true from Nat.ble_eq_true_of_le h2]
  rfl
section
variable {n : Nat} {N0 : yNW} {fr : Nat} {sc : Nat → Int32} {k hh tt : Nat} {N Nr : yNW} {h : Nat} {H : Nat → yNW} {hd : Nat → Prop} {K : Nat → yNW} {t r cc ss : Nat} {m : xmm}
theorem wLX_lo (m m' : xmm) (hl : yLo m m') (h : wLX n N0 fr sc t r Nr m) : wLX n N0 fr sc t r Nr m' := ⟨wRow_lo hl h.1, wRow_lo hl h.2.1, by rw [xctm_of ((hl 1995 (by decide)).1 0)]; exact h.2.2.1, wRow_lo hl h.2.2.2⟩
theorem wLX_E {m m' : xmm} (hE : wE m 1 m') (h : wLX n N0 fr sc t r Nr m) : wLX n N0 fr sc (t + 1) r Nr m' := ⟨wRow_E hE h.1, wRow_E hE h.2.1, by have := hE.2.1; have := h.2.2.1; omega, wRow_E hE h.2.2.2⟩
/-- kept: a new row -/
theorem s_kp {J : xmm → Prop} {F : Nat × xmm → Nat → Option (Int32 × xmm)} (hI : wI n N h H hd K 0 (wLX n N0 fr sc t r Nr) m) (ht : t ≤ 300) (h2 : ∀ k m', wI n N h H hd K 0 (wLX n N0 fr sc (t + 1) k N) m' → wR 1 J (F (k + 1, m') k)) : wR 1 J ((fL_kept_0 m).bind fun w => xgr w.1 fun k => F w k) := by
  have hz := wI_z hI
  have hb := xctm_lt m
  have h9 : xctm m < 900 := by have := hz.2.2.1; omega
  refine wq (s_kept hI h9) fun m' hI' => ?_
  obtain ⟨hE, hr⟩ := wI_z hI'
  obtain ⟨j, ej⟩ : ∃ j, xctm m = j + 1 := ⟨xctm m - 1, by omega⟩
  have hX := wLX_E hE hz
  rw [ej, Nat.add_sub_cancel] at hr
  rw [ej]
  exact h2 j m' (wI_Z hI' wLX_lo ⟨hX.1, hX.2.1, hX.2.2.1, hr⟩)
theorem s_ks0 {J : xmm → Prop} {G : Int32 × xmm → Option (Int32 × xmm)} {x : Nat} {b : Nat → Bool} (hI : wI n N h H hd K 0 (wLX n N0 fr sc t r Nr) m) (ht : t ≤ 300) (hx : wRow m x 70 (wkv n N)) (hb : ∀ m', wRow m' x 70 (wkv n N) → b x = true) (h2 : ∀ m', wI n N h H hd K 0 (wLX n N0 fr sc (t + 1) r Nr) m' → wR 1 J (G (1, m'))) : wR 1 J ((fL_kept_0 m).bind fun w => xgr w.1 fun k => xgd (b x) ((fL_same k x w.2).bind G)) := by
  have hz := wI_z hI
  have hbm := xctm_lt m
  have h9 : xctm m < 900 := by have := hz.2.2.1; omega
  refine wq (s_kept hI h9) fun m' hI' => ?_
  obtain ⟨hE, hr⟩ := wI_z hI'
  obtain ⟨j, ej⟩ : ∃ j, xctm m = j + 1 := ⟨xctm m - 1, by omega⟩
  have hX := wLX_E hE hz
  have hx' := wRow_E hE hx
  rw [ej, Nat.add_sub_cancel] at hr
  rw [ej]
  exact wg (hb m' hx') (wq (s_same (wI_Z hI' wLX_lo hX) hr hx') h2)
theorem s_ks {J : xmm → Prop} {G : Int32 × xmm → Option (Int32 × xmm)} {x : Nat} (hI : wI n N h H hd K 0 (wLX n N0 fr sc t r Nr) m) (ht : t ≤ 300) (hc : cc ≤ t) (hs : ss ≤ 70 * t) (hx : wRow m x 70 (wkv n N)) (h2 : ∀ m', wI n N h H hd K 0 (wLX n N0 fr sc (t + 1) r Nr) m' → wR 1 J (G (1, m'))) : wR 1 J (xgd (Nat.ble (cc + 1) (xmc 171) && Nat.ble (ss + 70) (xms 171)) ((fL_kept_0 m).bind fun w => xgr w.1 fun k => xgd (!(Nat.beq x 1999)) ((fL_same k x w.2).bind G))) :=
  wg (wbb (by omega) (by omega)) (s_ks0 (b := fun x => !(Nat.beq x 1999)) hI ht hx (fun _ h => wRow_9 h) h2)
theorem s_ksn {J : xmm → Prop} {G : Int32 × xmm → Option (Int32 × xmm)} {x : Nat} (hI : wI n N h H hd K 0 (wLX n N0 fr sc t r Nr) m) (ht : t ≤ 300) (hc : cc ≤ t) (hs : ss ≤ 70 * t) (hx : wRow m x 70 (wkv n N)) (h2 : ∀ m', wI n N h H hd K 0 (wLX n N0 fr sc (t + 1) r Nr) m' → wR 1 J (G (1, m'))) : wR 1 J (xgd (Nat.ble (cc + 1) (xmc 171) && Nat.ble (ss + 70) (xms 171)) ((fL_kept_0 m).bind fun w => xgr w.1 fun k => (fL_same k x w.2).bind G)) :=
  wg (wbb (by omega) (by omega)) (s_ks0 (b := fun _ => true) hI ht hx (fun _ _ => rfl) h2)
abbrev wNx (n : Nat) (N0 : yNW) (fr : Nat) (sc : Nat → Int32) (k hh tt : Nat) : Prop := ∀ (N : yNW) (h : Nat) (H : Nat → yNW) (hd : Nat → Prop) (K : Nat → yNW) (t r : Nat) (Nr : yNW) (cc ss : Nat) (m : xmm), wI n N h H hd K 0 (wLX n N0 fr sc t r Nr) m → (h ≤ hh ∧ t ≤ tt ∧ cc ≤ t ∧ ss ≤ 70 * t) → (hd 0 ∧ hd 1 ∧ K 0 = N0) → wR (1 : Int32) (fun _ => True) (bL_law_183 1 (nI n) fr (nI k + 1) cc ss m)
theorem wnx (nx : wNx n N0 fr sc k hh tt) (hq : hd 0 ∧ hd 1 ∧ K 0 = N0) (hI : wI n N h H hd K 0 (wLX n N0 fr sc t r Nr) m) (hb : h ≤ hh ∧ t ≤ tt ∧ cc ≤ t ∧ ss ≤ 70 * t) : wR (1 : Int32) (fun _ => True) (bL_law_183 1 (nI n) fr (nI k + 1) cc ss m) := nx N h H hd K t r Nr cc ss m hI hb hq
theorem wkv_n {i : Nat} (hi : i < 8) : wkv n N (8 + i) = yaNet n N (nI i) := by
  unfold wkv
  rw [if_neg (by omega), if_pos (by omega), show 8 + i - 8 = i by omega]
theorem wkv_o {i : Nat} (hi : i < 10) : wkv n N (16 + i) = yaOrd n N (nI i) := by
  unfold wkv
  rw [if_neg (by omega), if_neg (by omega), if_pos (by omega), show 16 + i - 16 = i by omega]
/-! begun the other way -/
theorem s_l1371 (nx : wNx n N0 fr sc k hh tt) (hq : hd 0 ∧ hd 1 ∧ K 0 = N0) (hI : wI n N h H hd K 0 (wLX n N0 fr sc t r N) m) (hb : h ≤ hh ∧ t + 1 ≤ tt ∧ tt ≤ 300 ∧ cc ≤ t ∧ ss ≤ 70 * t) (x : Int32) : wR (1 : Int32) (fun _ => True) (bL_law_1371 (nI n) fr (nI k) r x x cc ss m) := by
  refine wb (fun _ e => bL_law_1371_i _ _ _ _ _ _ _ _ _ e) (wt rfl ?_)
  exact s_ks hI (by omega) (by omega) (by omega) (wI_z hI).2.2.2 fun m' hI' => wno w10 (wnx nx hq hI' (by omega))
theorem s_l1335 (nx : wNx n N0 fr sc k hh tt) (hq : hd 0 ∧ hd 1 ∧ K 0 = N0) (h2 : Nr.2 < 2) (hI : wI n (Nr.1, 1 - Nr.2) h H hd K 0 (wLX n N0 fr sc t r Nr) m) (hb : h + 1 ≤ hh ∧ t + 1 ≤ tt ∧ tt ≤ 300 ∧ cc ≤ t ∧ ss ≤ 70 * t) (v7 : Int32) : wR (1 : Int32) (fun _ => True) (bL_law_1335 1 (nI n) fr (nI k) v7 r (nI Nr.2) cc ss m) := by
  refine wb (fun _ e => bL_law_1335_i _ _ _ _ _ _ _ _ _ _ e) ?_
  by_cases c : ((v7 >>> ((9 : Int32) &&& 31)) &&& (1 : Int32)) = 0
  · refine wt c (wno w10 (wg (wbb (by omega) (by omega)) (wq (q_begin hI) fun m1 hI => ?_)))
    have e2 : 1 - (1 - Nr.2) = Nr.2 := by omega
    have eN : (((Nr.1, 1 - Nr.2) : yNW).1, 1 - ((Nr.1, 1 - Nr.2) : yNW).2) = Nr := by
      show (Nr.1, 1 - (1 - Nr.2)) = Nr
      rw [e2]
    have e1 : nI (1 - ((Nr.1, 1 - Nr.2) : yNW).2) = nI Nr.2 := congrArg nI e2
    have hy := yhn_le h
    rw [eN] at hI
    by_cases z : nI Nr.2 = 0
    · exact wt (e1.trans z) (wt z (s_l1371 nx hq hI (by omega) 1))
    · exact wno (fun t => z (e1.symm.trans t)) (wno z (s_l1371 nx hq hI (by omega) 0))
  · exact wno c (wnx nx hq hI (by omega))
theorem s_l1253 (nx : wNx n N0 fr sc k hh tt) (hq : hd 0 ∧ hd 1 ∧ K 0 = N0) (h2 : Nr.2 < 2) (hI : wI n (Nr.1, 1 - Nr.2) h H hd K 0 (wLX n N0 fr sc t r Nr) m) (hb : h + 1 ≤ hh ∧ t + 1 ≤ tt ∧ tt ≤ 300 ∧ cc ≤ t ∧ ss ≤ 70 * t) (v7 : Int32) : wR (1 : Int32) (fun _ => True) (bL_law_1253 (nI n) fr (nI k) v7 (nI (yln Nr.1)) (yP (yord (yad Nr.1))) r (nI Nr.2) 1 cc ss m) := by
  have hG : yGr n Nr.1 := wI_G (N := (Nr.1, 1 - Nr.2)) hI
  have hgd := yGr_gd hG
  have h28 := wln_28 hgd
  refine wb (fun _ e => bL_law_1253_i _ _ _ _ _ _ _ _ _ _ _ _ e) ?_
  by_cases ho : yord (yad Nr.1)
  · refine wt (yP_t ho) ?_
    by_cases hl : yln Nr.1 = 0
    · exact wt (show nI (yln Nr.1) ≤ 0 by rw [hl]; exact w00) (s_l1335 nx hq h2 hI hb v7)
    · refine wno (show ¬ nI (yln Nr.1) ≤ 0 from fun t => hl (Nat.le_zero.mp ((nI_leI (a := yln Nr.1) (b := 0) (by omega) (by decide)).mp t))) (wno w10 (wg (wbb (by omega) (by omega)) ?_))
      obtain ⟨k0, hk0, -, -, -⟩ := wfirst hgd (Nat.pos_of_ne_zero hl)
      obtain ⟨b1, b2⟩ := wbeg hgd ho (b := 1 - Nr.2) (by omega) hk0
      obtain ⟨-, -, o3⟩ := e_of' (n := n) (N := (Nr.1, 1 - Nr.2)) hgd (i := 0) (Nat.pos_of_ne_zero hl) hk0
      obtain ⟨o2, o3⟩ := o3 ho
      have e3 : yP (yT Nr.1 (1 - Nr.2) (k0 / 8) (k0 % 8)) = nI Nr.2 := by
        rcases (show Nr.2 = 0 ∨ Nr.2 = 1 by omega) with z | z
        · exact (yP_f (fun t => absurd (b2.mp t) (by omega))).trans (by rw [z]; rfl)
        · exact (yP_t (b2.mpr (by omega))).trans (by rw [z]; rfl)
      have e2 : nI (yse Nr.1 (1 - Nr.2) k0) = 0 := by rw [b1]; rfl
      refine wq (wre (q_of hI 0 3) (o3.trans e3)) fun m1 hI => wt rfl ?_
      refine wq (wre (q_of hI 0 2) (o2.trans e2)) fun m1 hI => wt rfl ?_
      refine wq (q_ord hI 2) fun m1 hI => ?_
      have hr := (wI_z hI).2.2.2
      refine wg (wRow_9 hr) (wg (wRow_ir hr (by decide) (i := 18) (by decide)) (wt ?_ ?_))
      · exact ((e_ord2 (N := (Nr.1, 1 - Nr.2)) ho).trans (e_ord2 (N := Nr) ho).symm).trans ((hr.2.2.2 18 (by decide)).trans (wkv_o (i := 2) (by decide))).symm
      refine wq (q_ord hI 4) fun m1 hI => ?_
      have hr := (wI_z hI).2.2.2
      refine wg (wRow_ir hr (by decide) (i := 20) (by decide)) (wt ?_ ?_)
      · exact ((e_ord4 (N := (Nr.1, 1 - Nr.2)) ho).trans (e_ord4 (N := Nr) ho).symm).trans ((hr.2.2.2 20 (by decide)).trans (wkv_o (i := 4) (by decide))).symm
      refine wq (q_ord hI 6) fun m1 hI => ?_
      have hr := (wI_z hI).2.2.2
      refine wg (wRow_ir hr (by decide) (i := 22) (by decide)) (wt ?_ ?_)
      · exact ((e_ord6 (N := (Nr.1, 1 - Nr.2)) ho).trans (e_ord6 (N := Nr) ho).symm).trans ((hr.2.2.2 22 (by decide)).trans (wkv_o (i := 6) (by decide))).symm
      exact s_l1335 nx hq h2 hI hb v7
  · exact wno (by rw [yP_f ho]; exact w01) (s_l1335 nx hq h2 hI hb v7)
theorem s_l1222 (nx : wNx n N0 fr sc k hh tt) (hq : hd 0 ∧ hd 1 ∧ K 0 = N0) (h2 : Nr.2 < 2) (hI : wI n (Nr.1, 1 - Nr.2) h H hd K 0 (wLX n N0 fr sc t r Nr) m) (hb : h + 1 ≤ hh ∧ t + 1 ≤ tt ∧ tt ≤ 300 ∧ cc ≤ t ∧ ss ≤ 70 * t) (v7 : Int32) {x y : Int32} (hxy : x = y) : wR (1 : Int32) (fun _ => True) (bL_law_1222 (nI n) fr (nI k) v7 (nI (yln Nr.1)) (yP (yord (yad Nr.1))) r (nI Nr.2) x y cc ss m) := by
  refine wb (fun _ e => bL_law_1222_i _ _ _ _ _ _ _ _ _ _ _ _ _ e) (wt hxy (wg (wbb (by omega) (by omega)) ?_))
  refine wq (q_net hI 0) fun m1 hI => wt rfl ?_
  refine wq (q_net hI 3) fun m1 hI => ?_
  have hr := (wI_z hI).2.2.2
  refine wg (wRow_9 hr) (wg (wRow_ir hr (by decide) (i := 11) (by decide)) (wt ?_ (s_l1253 nx hq h2 hI hb v7)))
  exact ((e_net3 (N := (Nr.1, 1 - Nr.2))).trans (e_net3 (N := Nr)).symm).trans ((hr.2.2.2 11 (by decide)).trans (wkv_n (i := 3) (by decide))).symm
/-- a step of kind 4 -/
theorem s_k4 (nx : wNx n N0 fr sc k hh tt) (hq : hd 0 ∧ hd 1 ∧ K 0 = N0) (hI : wI n N h H hd K 0 (wLX n N0 fr sc t r N) m) (hb : h + 2 ≤ hh ∧ t + 4 ≤ tt ∧ tt ≤ 300 ∧ hh < 39 ∧ cc ≤ t ∧ ss ≤ 70 * t) (v7 : Int32) : wR (1 : Int32) (fun _ => True) (xgd (Nat.ble cc (xmc 171) && Nat.ble ss (xms 171)) ((fX11_count_0 (7 : Int32) m).bind fun (w36 : Int32 × xmm) => if (1 : Int32) = 0 then bL_law_1253 (nI n) fr (nI k) v7 (nI (yln N.1)) (yP (yord (yad N.1))) r w36.1 (0 : Int32) cc ss w36.2 else (fX11_begin_0 w36.2).bind fun (w39 : Int32 × xmm) => if w36.1 = 0 then bL_law_1222 (nI n) fr (nI k) v7 (nI (yln N.1)) (yP (yord (yad N.1))) r w36.1 w39.1 (1 : Int32) cc ss w39.2 else bL_law_1222 (nI n) fr (nI k) v7 (nI (yln N.1)) (yP (yord (yad N.1))) r w36.1 w39.1 (0 : Int32) cc ss w39.2)) := by
  have h2 : N.2 < 2 := hI.1.1.2
  have hy := yhn_le h
  refine wg (wbb (by omega) (by omega)) (wq (wre (q_cnt hI 7) e_cnt7) fun m1 hI => wno w10 (wq (q_begin hI) fun m1 hI => ?_))
  rcases (show N.2 = 0 ∨ N.2 = 1 by omega) with z | z
  · exact wt (show nI N.2 = 0 by rw [z]; rfl) (s_l1222 nx hq h2 hI (by omega) v7 (show nI (1 - N.2) = 1 by rw [z]; rfl))
  · exact wno (show ¬ nI N.2 = 0 by rw [z]; exact w10) (s_l1222 nx hq h2 hI (by omega) v7 (show nI (1 - N.2) = 0 by rw [z]; rfl))
end
