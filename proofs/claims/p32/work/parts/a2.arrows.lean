/-! the law's check of the arrows -/
section
variable {n : Nat} {N : yNW} {h : Nat} {H : Nat → yNW} {hd : Nat → Prop} {K : Nat → yNW} {len : Nat} {Z : xmm → Prop}
theorem e_wk (hG : yGr n N.1) {a b k : Nat} (ha : a < n) (hb : b < n) (hl : yad N.1 a b) (hk : k < ywl N.1 (8 * a + b)) : yaWalk n N (nI a) (nI b) (nI k) = nI (ywk N.1 (ytn (8 * a + b)) (8 * a + b) k) := by
  have hn := hG.1
  have hx : yar N.1 (8 * a + b) := (yar_ab (by omega)).mpr hl
  have := wwl_le (yGr_gd hG) (x := 8 * a + b) (by omega) hx
  rw [e_walk' hn ha hb hl]
  unfold ywa
  rw [yif_t ⟨yI_ltz (by omega), by rw [yI_cl (by omega)]; exact hk⟩, yI_cl (by omega)]
  rfl
theorem e_wkn (hG : yGr n N.1) {a b : Nat} (ha : a < n) (hb : b < n) (hl : yad N.1 a b) : yaWalk n N (nI a) (nI b) (nI (ywl N.1 (8 * a + b))) = -1 := by
  have hn := hG.1
  have hx : yar N.1 (8 * a + b) := (yar_ab (by omega)).mpr hl
  have := wwl_le (yGr_gd hG) (x := 8 * a + b) (by omega) hx
  rw [e_walk' hn ha hb hl]
  unfold ywa
  rw [yif_f (fun t => by have := t.2; rw [yI_cl (by omega)] at this; omega)]
theorem s_arr486 (hG : yGr n N.1) {a b : Nat} (ha : a < n) (hb : b < n) (hl : yad N.1 a b) : ∀ (d j : Nat) (m : xmm), j < 100 → ywl N.1 (8 * a + b) ≤ j + 1 + d → wI n N h H hd K len Z m → wR 1 (wI n N h H hd K len Z) (bL_arrows_0_486 1 (nI a) (nI b) (nI (ywl N.1 (8 * a + b))) (nI (j + 1)) m) := by
  have hn := hG.1
  have hgd := yGr_gd hG
  have hx : yar N.1 (8 * a + b) := (yar_ab (by omega)).mpr hl
  have h64 : 8 * a + b < 64 := by omega
  have hw := wwl_le hgd h64 hx
  have stop : ∀ (j : Nat) (m : xmm), j < 100 → ywl N.1 (8 * a + b) ≤ j + 1 → wI n N h H hd K len Z m → wR 1 (wI n N h H hd K len Z) (bL_arrows_0_486 1 (nI a) (nI b) (nI (ywl N.1 (8 * a + b))) (nI (j + 1)) m) := fun j m hj hle hI =>
    wb (fun _ e => bL_arrows_0_486_i _ _ _ _ _ _ e) (wt (nI_le hle (by omega)) (wg rfl (we hI)))
  intro d
  induction d with
  | zero => intro j m hj hle hI; exact stop j m hj (by omega) hI
  | succ d ih =>
    intro j m hj hle hI
    by_cases hs : ywl N.1 (8 * a + b) ≤ j + 1
    · exact stop j m hj hs hI
    · have ho : yodd (yad N.1) (yan (8 * a + b)) := Classical.byContradiction fun t => by
        have e : ywl N.1 (8 * a + b) = 0 := by unfold ywl; exact yif_f t
        omega
      obtain ⟨-, -, -, w4, w5⟩ := wwalk hgd h64 hx ho
      obtain ⟨u1, u2⟩ := w4 j (by omega)
      obtain ⟨v1, v2⟩ := w4 (j + 1) (by omega)
      have hf := w5 j (by omega)
      have e1 := e_wk (N := N) hG ha hb hl (k := j) (by omega)
      have e2 := e_wk (N := N) hG ha hb hl (k := j + 1) (by omega)
      generalize ywk N.1 (ytn (8 * a + b)) (8 * a + b) j = u at *
      generalize ywk N.1 (ytn (8 * a + b)) (8 * a + b) (j + 1) = v at *
      have bu := yGr_n hG u2
      have bv := yGr_n hG v2
      have bu : u / 8 < n ∧ u % 8 < n := bu
      have bv : v / 8 < n ∧ v % 8 < n := bv
      refine wb (fun _ e => bL_arrows_0_486_i _ _ _ _ _ _ e) (wno (nI_ge (by omega) (by omega)) ?_)
      rw [yI_sub1 j]
      refine wq (wre (q_walk hI _ _ _) e1) fun m hI => ?_
      refine wq (wre (q_walk hI _ _ _) e2) fun m hI => ?_
      refine wno (by decide) ?_
      dsimp only
      rw [ymd8 u1, ymd8 v1, ydv8 u1, ydv8 v1]
      refine wq (wre (q_force hI _ _ _ _) ((e_force' hn bu.1 bu.2 bv.1 bv.2 u2 v2).trans (yP_t hf))) fun m hI => ?_
      refine wt rfl ?_
      refine wq (wre (q_force hI _ _ _ _) ((e_force' hn bv.1 bv.2 bu.1 bu.2 v2 u2).trans (yP_t (yfc_sy hgd.2.1 hf)))) fun m hI => ?_
      refine wt rfl ?_
      rw [nI_1]
      exact ih (j + 1) m (by omega) (by omega) hI
theorem s_arr365 (hG : yGr n N.1) {a b : Nat} (ha : a < n) (hb : b < n) (hl : yad N.1 a b) {m : xmm} (hI : wI n N h H hd K len Z m) : wR 1 (wI n N h H hd K len Z) (bL_arrows_0_365 (nI a) (nI b) 1 m) := by
  have hn := hG.1
  have hgd := yGr_gd hG
  have hx : yar N.1 (8 * a + b) := (yar_ab (by omega)).mpr hl
  have h64 : 8 * a + b < 64 := by omega
  have hw := wwl_le hgd h64 hx
  have k3 : yaKl n N (nI a) (nI b) 3 = nI (ywl N.1 (8 * a + b)) := e_kl' hn ha hb hl 3
  have k1 : yaKl n N (nI a) (nI b) 1 = yP (yodd (yad N.1) (yan (8 * a + b))) := e_kl' hn ha hb hl 1
  refine wb (fun _ e => bL_arrows_0_365_i _ _ _ _ e) ?_
  refine wq (wre (q_kl hI _ _ _) k3) fun m hI => ?_
  refine wno (by decide) ?_
  by_cases ho : yodd (yad N.1) (yan (8 * a + b))
  · obtain ⟨w1, w2, w3, w4, w5⟩ := wwalk hgd h64 hx ho
    refine wno (nI_nle w2 (by omega)) ?_
    refine wb (fun _ e => bL_arrows_0_393_i _ _ _ _ _ e) ?_
    refine wq (wre (q_kl hI _ _ _) (k1.trans (yP_t ho))) fun m hI => ?_
    refine wt rfl ?_
    refine wb (fun _ e => bL_arrows_0_411_i _ _ _ _ _ _ e) ?_
    refine wt rfl ?_
    refine wq (wre (q_walk hI _ _ _) (e_wkn hG ha hb hl)) fun m hI => ?_
    refine wt rfl ?_
    refine wno (nI_ne0 w2 (by omega)) ?_
    have e0 := e_wk (N := N) hG ha hb hl w2
    rw [w1] at e0
    refine wq (wre (q_walk hI _ _ _) e0) fun m hI => ?_
    refine wt ?_ ?_
    · show nI (8 * a + b) = (8 : Int32) * nI a + nI b
      rw [← nI_add, ← pk_mul]
      rfl
    obtain ⟨L, eL⟩ : ∃ L, ywl N.1 (8 * a + b) = L + 1 := ⟨ywl N.1 (8 * a + b) - 1, by omega⟩
    have e9 := e_wk (N := N) hG ha hb hl (k := L) (by omega)
    rw [eL, Nat.add_sub_cancel] at w3
    rw [w3] at e9
    have hL1 : nI (ywl N.1 (8 * a + b)) - 1 = nI L := by rw [eL]; exact yI_sub1 L
    dsimp only
    rw [hL1]
    refine wq (wre (q_walk hI _ _ _) e9) fun m hI => ?_
    refine wt ?_ ?_
    · show nI (ytn (8 * a + b)) = (8 : Int32) * nI b + nI a
      have : ytn (8 * a + b) = 8 * b + a := by unfold ytn; omega
      rw [this, ← nI_add, ← pk_mul]
      rfl
    exact s_arr486 hG ha hb hl (ywl N.1 (8 * a + b)) 0 m (by omega) (by omega) hI
  · have eL : ywl N.1 (8 * a + b) = 0 := by unfold ywl; exact yif_f ho
    refine wt (nI_le (b := 0) (by omega) (by decide)) ?_
    refine wb (fun _ e => bL_arrows_0_393_i _ _ _ _ _ e) ?_
    refine wq (wre (q_kl hI _ _ _) (k1.trans (yP_f ho))) fun m hI => ?_
    refine wno w01 ?_
    refine wb (fun _ e => bL_arrows_0_411_i _ _ _ _ _ _ e) ?_
    refine wt rfl ?_
    refine wq (wre (q_walk hI _ _ _) (e_wkn hG ha hb hl)) fun m hI => ?_
    refine wt rfl ?_
    refine wt ?_ ?_
    · show nI (ywl N.1 (8 * a + b)) = 0
      rw [eL]; rfl
    exact s_arr486 hG ha hb hl (ywl N.1 (8 * a + b)) 0 m (by omega) (by omega) hI
theorem s_arr187 (hG : yGr n N.1) {u : Nat} (hu : u < 2 ^ 31) {m : xmm} (hI : wI n N h H hd K len Z m) : wR 1 (wI n N h H hd K len Z) (bL_arrows_0_187 (nI u) (nI (yln N.1)) 1 m) := by
  have hn := hG.1
  have hgd := yGr_gd hG
  have h28 := wln_28 hgd
  refine wb (fun _ e => bL_arrows_0_187_i _ _ _ _ e) ?_
  by_cases h0 : yln N.1 = 0
  · rw [h0]
    exact wt (by decide) (wg rfl (we hI))
  · refine wno (nI_nle (by omega) (by omega)) (wg ?_ ?_)
    · rw [decide_eq_false (nI_ne0 (by omega) (by omega))]; rfl
    rw [pk_rem hu (by omega) (by omega)]
    have hlt : u % yln N.1 < yln N.1 := Nat.mod_lt _ (by omega)
    generalize u % yln N.1 = i at hlt
    obtain ⟨k, hk64, hk⟩ := yLI_ex (R := N.1) (M := 64) (Nat.le_refl 64) (by rw [← yli_tot hgd]; exact hlt)
    obtain ⟨o0, o1, -⟩ := e_of' (N := N) (n := n) hgd hlt hk
    have hl : yad N.1 (k / 8) (k % 8) := hk.2.1.1
    have hl' : yad N.1 (k % 8) (k / 8) := hG.2.2.2.1 _ _ hl
    obtain ⟨ha, hb⟩ := yGr_n hG hl
    have hab := hk.2.1.2
    have ek : 8 * (k / 8) + k % 8 = k := by omega
    have et : 8 * (k % 8) + k / 8 = ytn k := rfl
    refine wq (wre (q_of hI _ _) o0) fun m hI => ?_
    refine wq (wre (q_of hI _ _) o1) fun m hI => ?_
    refine wno (by decide) (wno ?_ ?_)
    · exact nI_ge hab (by omega)
    refine wq (wre (q_near hI _) (e_near' hn ha)) fun m hI => ?_
    refine wt ?_ ?_
    · show (nI (N.1 (k / 8)) >>> (nI (k % 8) &&& 31)) &&& 1 = 1
      rw [yI_bit (by have := yGr_8 hG (k / 8); omega) (by omega)]
      exact yP_t hl
    have q0 : ∀ w, yaKl n N (nI (k / 8)) (nI (k % 8)) w = _ := fun w => e_kl' hn ha hb hl w
    have r0 : ∀ w, yaKl n N (nI (k % 8)) (nI (k / 8)) w = _ := fun w => e_kl' hn hb ha hl' w
    rw [ek] at q0
    rw [et] at r0
    refine wq (wre (q_kl hI _ _ _) (q0 0)) fun m hI => ?_
    refine wq (wre (q_kl hI _ _ _) (r0 0)) fun m hI => ?_
    refine wt ?_ ?_
    · show nI (ycz N.1 k) = nI (ycz N.1 (ytn k))
      rw [wcz_r hgd hk64]
    refine wq (wre (q_kl hI _ _ _) (q0 1)) fun m hI => ?_
    refine wq (wre (q_kl hI _ _ _) (r0 1)) fun m hI => ?_
    refine wt ?_ ?_
    · show yP (yodd (yad N.1) (yan k)) = yP (yodd (yad N.1) (yan (ytn k)))
      rw [ytn_an hk64]
      exact yP_c (wodd_r hgd).symm
    refine wq (wre (q_kl hI _ _ _) (q0 2)) fun m hI => ?_
    refine wq (wre (q_kl hI _ _ _) (r0 2)) fun m hI => ?_
    refine wt ?_ ?_
    · show nI (ylm N.1 k 64) = nI (ylm N.1 (ytn k) 64)
      rw [wlm_r hgd hk64 (Nat.le_refl 64)]
    refine wq (wre (q_kl hI _ _ _) (q0 2)) fun m hI => ?_
    refine wt ?_ ?_
    · show (nI (ylm N.1 k 64) >>> (nI i &&& 31)) &&& 1 = 1
      have : ylm N.1 k 64 < 2 ^ 31 := ybs_lt _ 31
      rw [yI_bit this (by omega)]
      exact yP_t (wlm_own hk)
    refine wq (wre (q_kl hI _ _ _) (q0 3)) fun m hI => ?_
    refine wq (wre (q_kl hI _ _ _) (r0 3)) fun m hI => ?_
    refine wt ?_ ?_
    · show nI (ywl N.1 k) = nI (ywl N.1 (ytn k))
      rw [wwl_r hgd hk64]
    refine wq (wre (q_force hI _ _ _ _) ((e_force' hn ha hb ha hb hl hl).trans (yP_f ?_))) fun m hI => ?_
    · intro t
      rcases t.2.2 with t | t
      · exact t.2.1 rfl
      · exact t.2.1 rfl
    exact wt rfl (s_arr365 hG ha hb hl hI)
theorem s_arr143 (hG : yGr n N.1) {u : Nat} (hu : u < 2 ^ 31) : ∀ (d p : Nat) (m : xmm), p + d = n → wI n N h H hd K len Z m → wR 1 (wI n N h H hd K len Z) (bL_arrows_0_143 (nI u) (nI n) (nI (yln N.1)) 1 (nI (ysm (fun p => ypp (N.1 p)) p)) (nI p) m) := by
  have hn := hG.1
  intro d
  induction d with
  | zero =>
    intro p m hp hI
    have e : p = n := by omega
    subst e
    refine wb (fun _ e => bL_arrows_0_143_i _ _ _ _ _ _ _ e) ?_
    refine wt (nI_le (Nat.le_refl _) (by omega)) (wno (by decide) (wt ?_ (s_arr187 hG hu hI)))
    rw [wnear hG, ← pk_mul]
    rfl
  | succ d ih =>
    intro p m hp hI
    refine wb (fun _ e => bL_arrows_0_143_i _ _ _ _ _ _ _ e) ?_
    refine wno (nI_ge (by omega) (by omega)) ?_
    refine wq (wre (q_near hI _) (e_near' hn (by omega))) fun m hI => ?_
    refine wq (q_bc hI (yGr_8 hG p)) fun m hI => ?_
    dsimp only
    rw [nI_add, nI_1]
    exact ih (p + 1) m (by omega) hI
theorem s_arrows (hG : yGr n N.1) {u : Nat} (hu : u < 2 ^ 31) {m : xmm} (hI : wI n N h H hd K len Z m) : wR 1 (wI n N h H hd K len Z) (fL_arrows_0 (nI u) m) := by
  have hgd := yGr_gd hG
  have hK := wK_64 N.1
  refine wb (fun _ e => fL_arrows_0_i _ _ e) ?_
  refine wq (q_cnt hI _) fun m hI => ?_
  refine wq (q_cnt hI _) fun m hI => ?_
  refine wq (q_net hI _) fun m hI => ?_
  refine wq (q_net hI _) fun m hI => ?_
  refine wt ?_ ?_
  · show nI (yK N.1) - nI (yK N.1) / 2 * 2 = nI (yKo N.1) - nI (yKo N.1) / 2 * 2
    rw [wmd2 (by omega), wmd2 (by omega), wK_par hgd]
  have fin : ∀ m, wI n N h H hd K len Z m → wR 1 (wI n N h H hd K len Z) (bL_arrows_0_143 (nI u) (nI n) (nI (yln N.1)) 1 0 0 m) := fun m hI => s_arr143 hG hu n 0 m (Nat.zero_add n) hI
  by_cases ho : yord (yad N.1)
  · have hp := wpr_lt hG ho
    refine wq (wre (q_net hI _) (e_net0.trans (yP_t ho))) fun m hI => ?_
    refine wt rfl (wb (fun _ e => bL_arrows_0_43_i _ _ _ _ _ e) ?_)
    refine wq (wre (q_net hI _) (e_net2.trans (by rw [(yKo_0 hgd).mpr ho]; rfl : nI (yKo N.1) = 0))) fun m hI => ?_
    refine wt rfl (wb (fun _ e => bL_arrows_0_56_i _ _ _ _ _ _ e) (wt rfl ?_))
    refine wq (wre (q_net hI _) (e_net3.trans (yif_t ho))) fun m hI => ?_
    refine wno (nI_nle hp.1 hp.2) (wb (fun _ e => bL_arrows_0_72_i _ _ _ _ _ e) ?_)
    refine wq (wre (q_net hI _) (e_net0.trans (yP_t ho))) fun m hI => ?_
    refine wt rfl (wb (fun _ e => bL_arrows_0_86_i _ _ _ _ _ _ e) (wt rfl ?_))
    by_cases h2 : yord (yad (yop n N.1))
    · refine wq (wre (q_net hI _) (e_net5.trans (yP_t ⟨ho, h2⟩))) fun m hI => ?_
      refine wt rfl (wb (fun _ e => bL_arrows_0_103_i _ _ _ _ _ e) ?_)
      refine wq (wre (q_net hI _) (e_net0.trans (yP_t ho))) fun m hI => ?_
      refine wt rfl ?_
      refine wq (wre (q_net hI _) (e_net6.trans (yP_t h2))) fun m hI => ?_
      exact wt rfl (wb (fun _ e => bL_arrows_0_127_i _ _ _ _ _ _ e) (wt rfl (fin m hI)))
    · refine wq (wre (q_net hI _) (e_net5.trans (yP_f fun t => h2 t.2))) fun m hI => ?_
      refine wno w01 (wb (fun _ e => bL_arrows_0_103_i _ _ _ _ _ e) ?_)
      refine wq (wre (q_net hI _) (e_net0.trans (yP_t ho))) fun m hI => ?_
      refine wt rfl ?_
      refine wq (wre (q_net hI _) (e_net6.trans (yP_f h2))) fun m hI => ?_
      exact wno w01 (wb (fun _ e => bL_arrows_0_127_i _ _ _ _ _ _ e) (wt rfl (fin m hI)))
  · refine wq (wre (q_net hI _) (e_net0.trans (yP_f ho))) fun m hI => ?_
    refine wno w01 (wb (fun _ e => bL_arrows_0_43_i _ _ _ _ _ e) ?_)
    refine wq (q_net hI _) fun m hI => ?_
    have hko : yKo N.1 ≠ 0 := fun t => ho ((yKo_0 hgd).mp t)
    refine wno (nI_ne0 (by omega) (by omega)) (wb (fun _ e => bL_arrows_0_56_i _ _ _ _ _ _ e) (wt rfl ?_))
    refine wq (wre (q_net hI _) (e_net3.trans (yif_f ho))) fun m hI => ?_
    refine wt w00 (wb (fun _ e => bL_arrows_0_72_i _ _ _ _ _ e) ?_)
    refine wq (wre (q_net hI _) (e_net0.trans (yP_f ho))) fun m hI => ?_
    refine wno w01 (wb (fun _ e => bL_arrows_0_86_i _ _ _ _ _ _ e) (wt rfl ?_))
    refine wq (wre (q_net hI _) (e_net5.trans (yP_f fun t => ho t.1))) fun m hI => ?_
    refine wno w01 (wb (fun _ e => bL_arrows_0_103_i _ _ _ _ _ e) ?_)
    refine wq (wre (q_net hI _) (e_net0.trans (yP_f ho))) fun m hI => ?_
    exact wno w01 (wb (fun _ e => bL_arrows_0_127_i _ _ _ _ _ _ e) (wt rfl (fin m hI)))
end
