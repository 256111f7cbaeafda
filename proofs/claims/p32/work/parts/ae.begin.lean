/-! from a new object to the loop -/
section
variable {n : Nat} {N0 : yNW} {sc : Nat → Int32} {N : yNW} {H : Nat → yNW} {hd : Nat → Prop} {K : Nat → yNW} {t cc ss : Nat} {m : xmm}
def wZs (sc : Nat → Int32) (t : Nat) (m : xmm) : Prop := wRow m 999 20 sc ∧ xctm m ≤ 145 + t
theorem wZs_lo (m m' : xmm) (hl : yLo m m') (h : wZs sc t m) : wZs sc t m' := ⟨wRow_lo hl h.1, by rw [xctm_of ((hl 1995 (by decide)).1 0)]; exact h.2⟩
theorem s_l173 (h0 : hd 0) (hK0 : K 0 = N0) (hI : wI n N0 0 H hd K 0 (wZs sc t) m) (hb : t ≤ 150 ∧ cc ≤ t ∧ ss ≤ 70 * t) : wR (1 : Int32) (fun _ => True) (bL_law_173 (nI n) 1 cc ss m) := by
  have hz := wI_z hI
  have hbm := xctm_lt m
  have h9 : xctm m < 900 := by have := hz.2; omega
  refine wb (fun _ e => bL_law_173_i _ _ _ _ _ e) (wg (wbb (by omega) (by omega)) (wq (s_kept hI h9) fun m' hI' => ?_))
  obtain ⟨hE, hr⟩ := wI_z hI'
  obtain ⟨j, ej⟩ : ∃ j, xctm m = j + 1 := ⟨xctm m - 1, by omega⟩
  have hx : xctm m' ≤ 145 + (t + 1) := by have := hE.2.1; have := hz.2; omega
  rw [ej, Nat.add_sub_cancel] at hr
  rw [ej]
  exact wg (wRow_9 hr) (s_loop 15 3 N0 0 H hd K (t + 1) j N0 (cc + 1) (ss + 70) m' rfl (Nat.le_refl 3) (wI_Z hI' wLX_lo ⟨hr, wRow_E hE hz.1, hx, hr⟩) (by omega) h0 hK0 (fun t => absurd t (Nat.lt_irrefl 3)))
theorem s_l114 (hI : wI 0 N 0 H (fun _ => False) K 0 (wZs sc t) m) (hb : t ≤ 150 ∧ cc ≤ t ∧ ss ≤ 70 * t) : wR (1 : Int32) (fun _ => True) (bL_law_114 1 cc ss m) := by
  have hz := wI_z hI
  obtain ⟨c, hc, ec⟩ := pk_andE (m.1 999 0) (m := 255) 8 (by decide)
  have hn : c % 9 ≤ 8 := by have := Nat.mod_lt c (show 0 < 9 by decide); omega
  have e9 : nI c - nI c / (9 : Int32) * (9 : Int32) = nI (c % 9) := pk_rem (d := 9) (by omega) (by decide) (by decide)
  refine wb (fun _ e => bL_law_114_i _ _ _ _ e) (wg (wRow_ir hz.1 (by decide) (i := 0) (by decide)) ?_)
  rw [ec, e9]
  refine wl (wg (wRow_ir hz.1 (by decide) (i := 1) (by decide)) (wg (wRow_ir hz.1 (by decide) (i := 2) (by decide)) (wg (wbb (by omega) (by omega)) ?_)))
  have hT : wTp 0 N 0 H (fun _ => False) K (wZs sc t) [] m := ⟨hI.1, ⟨hI.2.1, by decide, fun i hi => absurd hi (Nat.not_lt_zero i)⟩, hI.2.2.1, hI.2.2.2⟩
  obtain ⟨m1, e1, hT⟩ := s_told hn (m.1 999 1) (m.1 999 2) hT
  rw [e1, Option.bind_some]
  refine wno w10 ?_
  obtain ⟨R, hR⟩ := s_read hn hT
  refine wq hR fun m2 hI => wt rfl (wq (wre (q_cnt hI 0) e_cnt0) fun m3 hI => wt rfl (wq (q_hold hI (i := 0) (by decide)) fun m4 hI => wno w10 ?_))
  exact s_l173 (hd := yhu (fun _ => False) 0) (K := yku K 0 (R, 0)) (N0 := (R, 0)) (Or.inr rfl) rfl hI hb
theorem s_l39 (hI : wI 0 N 0 H (fun _ => False) K 0 (wZs sc t) m) (hb : t ≤ 150 ∧ cc ≤ t ∧ ss ≤ 70 * t) : wR (1 : Int32) (fun _ => True) (bL_law_39 cc ss m) := by
  have hG := wI_G hI
  have h0 : ∀ p q, ¬ yad N.1 p q := fun p q e => by
    have e : yb (N.1 p) q := e
    rw [hG.2.2.1 p (Nat.zero_le p)] at e
    exact yb_0 e
  have ho : yord (yad N.1) := fun x hx => absurd hx (h0 _ _)
  have e3 : yPr (yad N.1) (2 ^ 0 - 1) = 1 := yhc_u (wways_h hG ho) (yhc_1 (fun _ _ => False) ⟨fun _ _ e => absurd e id, fun p q e => absurd e (h0 p q), fun _ _ e => absurd e id, fun _ _ _ e => absurd e id⟩ fun T hT => funext fun p => funext fun q => propext ⟨fun e => h0 p q (hT.1 p q e), fun e => absurd e id⟩)
  have hnh : ¬ yIsH (fun _ => False) 0 := fun ⟨_, _, _, e⟩ => e
  refine wb (fun _ e => bL_law_39_i _ _ _ e) (wg (wbb (by omega) (by omega)) ?_)
  refine wq (wre (q_cnt hI 0) e_cnt0) fun m1 hI => wt rfl ?_
  refine wq (wre (q_net hI 0) (e_net0.trans (yP_t ho))) fun m1 hI => wt rfl ?_
  refine wq (wre (q_net hI 3) (e_net3.trans ((yif_t ho).trans (congrArg nI e3)))) fun m1 hI => wt rfl ?_
  refine wq (wre (q_ord hI 0) (e_ord0 ho)) fun m1 hI => wt rfl ?_
  refine wq (wre (q_col hI 0) (e_col' (k := 0) (by decide))) fun m1 hI => wt (congrArg nI (if_pos rfl)) ?_
  refine wq (q_undo0 hI) fun m1 hI => wt rfl ?_
  refine wq (wre (q_set hI 0 0) ((e_set' (S := 0) (by decide) (by decide) 0).trans ((if_pos rfl).trans (yP_t fun p q _ e => absurd e yb_0)))) fun m1 hI => wt rfl ?_
  refine wq (wre (q_like hI 0) (yif_f hnh)) fun m1 hI => wt rfl (s_l114 hI hb)
end
