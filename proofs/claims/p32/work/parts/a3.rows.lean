/-! rows that the law makes: what lies in them, and that they stay -/
theorem wCI_hi {n : Nat} {N : yNW} {h : Nat} {H : Nat → yNW} {hd : Nat → Prop} {K : Nat → yNW} {L : List Nat} {m m' : xmm} (hc : yCI n N h H hd K m) (hf : yfr L m m') (hL : ∀ k, k ∈ L → 144 ≤ k) : yCI n N h H hd K m' := by
  obtain ⟨c1, c2, ⟨nx, p1, p2, p3, p4, p5⟩, ⟨d1, d2⟩, c5⟩ := hc
  have o : ∀ k, k < 144 → k ∉ L := fun k h1 t => by have := hL k t; omega
  refine ⟨c1, yNt_r c2 hf (o _ (by decide)) (o _ (by decide)), ⟨nx, by rw [yfr_1 hf 14 1 (o _ (by decide))]; exact p1, by rw [yfr_1 hf 14 2 (o _ (by decide))]; exact p2, p3, p4, fun i hi => ⟨yNt_r (p5 i hi).1 hf (o _ (by omega)) (o _ (by omega)), (p5 i hi).2⟩⟩, ⟨by rw [yfr_1 hf 0 5 (o _ (by decide))]; exact d1, fun i hi h2 => ⟨yNt_r (d2 i hi h2).1 hf (o _ (by omega)) (o _ (by omega)), (d2 i hi h2).2⟩⟩, ?_⟩
  rw [yfr_1 hf 0 6 (o _ (by decide))]
  refine c5.imp id fun t => ⟨t.1, yKc_r t.2 hf fun k hk => o k ?_⟩
  have : ∀ k, k ∈ yKL → k < 138 := by decide
  have := this k hk
  omega
theorem nbqf {a b : Nat} (h : a ≠ b) : Nat.beq a b = false := by
  cases hq : Nat.beq a b with
  | false => rfl
  | true => exact absurd (Nat.eq_of_beq_eq_true hq) h
theorem xctm_of {m m' : xmm} (h : m'.1 1995 0 = m.1 1995 0) : xctm m' = xctm m := by unfold xctm; rw [h]
theorem xctm_wn {m : xmm} {w : Nat} (h9 : xctm m < 900) : xctm (xwn m w) = xctm m + 1 := by
  have hb := xctm_lt m
  have e1 : (xwn m w).1 1995 0 = Int32.ofNat (xctm m - 144) := (if_neg (by omega)).trans ((if_neg (by omega)).trans (if_pos rfl))
  have e2 : xctm (xwn m w) = 145 + (xctm m - 144) % 800 := by
    unfold xctm at e1 ⊢
    rw [e1]
    rw [show Int32.ofNat (145 + (m.1 1995 0).toNatClampNeg % 800 - 144) = nI (145 + (m.1 1995 0).toNatClampNeg % 800 - 144) from rfl, nI_clamp (by have := Nat.mod_lt (m.1 1995 0).toNatClampNeg (show 0 < 800 by decide); omega)]
  rw [e2, Nat.mod_eq_of_lt (by omega)]
  omega
theorem xsg_m {m : xmm} {k : Nat} (h : xsg k < xctm m) : k < 1000 := by
  have := (xctm_lt m).2
  unfold xsg at h
  split at h <;> omega
theorem xsg_new (m : xmm) : xsg (xctm m - 1) = xctm m := by
  have := xctm_lt m
  unfold xsg
  rw [if_neg (by omega)]
  omega
def wRow (m : xmm) (k L : Nat) (f : Nat → Int32) : Prop := 144 ≤ k ∧ xsg k < xctm m ∧ m.1 1996 k = nI L ∧ ∀ i, i < L → m.1 k i = f i
def wE (m0 : xmm) (e : Nat) (m : xmm) : Prop := xctm m0 ≤ xctm m ∧ xctm m ≤ xctm m0 + e ∧ ∀ k, 144 ≤ k → xsg k < xctm m0 → m.1 1996 k = m0.1 1996 k ∧ ∀ i, m.1 k i = m0.1 k i
theorem wE_r (m : xmm) : wE m 0 m := ⟨Nat.le_refl _, Nat.le_refl _, fun _ _ _ => ⟨rfl, fun _ => rfl⟩⟩
theorem wE_le {m0 m : xmm} {a b : Nat} (h : wE m0 a m) (hab : a ≤ b) : wE m0 b m := ⟨h.1, by have := h.2.1; omega, h.2.2⟩
theorem wE_t {m0 m1 m2 : xmm} {a b : Nat} (h : wE m0 a m1) (h2 : wE m1 b m2) : wE m0 (a + b) m2 := ⟨Nat.le_trans h.1 h2.1, by have := h.2.1; have := h2.2.1; omega, fun k h3 h4 => by
  obtain ⟨a1, a2⟩ := h.2.2 k h3 h4
  obtain ⟨b1, b2⟩ := h2.2.2 k h3 (Nat.lt_of_lt_of_le h4 h.1)
  exact ⟨b1.trans a1, fun i => (b2 i).trans (a2 i)⟩⟩
theorem wE_lo {m0 m m' : xmm} {e : Nat} (hl : yLo m m') (h : wE m0 e m) : wE m0 e m' := by
  have ec := xctm_of ((hl 1995 (by decide)).1 0)
  refine ⟨by rw [ec]; exact h.1, by rw [ec]; exact h.2.1, fun k h3 h4 => ?_⟩
  obtain ⟨a1, a2⟩ := h.2.2 k h3 h4
  exact ⟨((hl 1996 (by decide)).1 k).trans a1, fun i => ((hl k h3).1 i).trans (a2 i)⟩
theorem wRow_lo {m m' : xmm} {k L : Nat} {f : Nat → Int32} (hl : yLo m m') (h : wRow m k L f) : wRow m' k L f := by
  have ec := xctm_of ((hl 1995 (by decide)).1 0)
  exact ⟨h.1, by rw [ec]; exact h.2.1, ((hl 1996 (by decide)).1 k).trans h.2.2.1, fun i hi => ((hl k h.1).1 i).trans (h.2.2.2 i hi)⟩
theorem wRow_E {m m' : xmm} {k L e : Nat} {f : Nat → Int32} (hE : wE m e m') (h : wRow m k L f) : wRow m' k L f := by
  obtain ⟨a1, a2⟩ := hE.2.2 k h.1 h.2.1
  exact ⟨h.1, Nat.lt_of_lt_of_le h.2.1 hE.1, a1.trans h.2.2.1, fun i hi => (a2 i).trans (h.2.2.2 i hi)⟩
theorem wRow_f {m : xmm} {k L : Nat} {f g : Nat → Int32} (h : wRow m k L f) (e : ∀ i, i < L → f i = g i) : wRow m k L g := ⟨h.1, h.2.1, h.2.2.1, fun i hi => (h.2.2.2 i hi).trans (e i hi)⟩
theorem wRow_ir {m : xmm} {k L i : Nat} {f : Nat → Int32} (h : wRow m k L f) (hL : L < 2 ^ 31) (hi : i < L) : xir m k (nI i) = true := by
  unfold xir
  rw [h.2.2.1, yI_cl hL, yI_cl (by omega), decide_eq_true (yI_zle (by omega : i < 2 ^ 31)), show Nat.ble 144 k = true from Nat.ble_eq_true_of_le h.1, show Nat.blt (xsg k) (xctm m) = true from Nat.ble_eq_true_of_le h.2.1, show Nat.blt i L = true from Nat.ble_eq_true_of_le hi]
  rfl
theorem wRow_9 {m : xmm} {k L : Nat} {f : Nat → Int32} (h : wRow m k L f) : (!(Nat.beq k 1999)) = true := by
  have := xsg_m h.2.1
  rw [show Nat.beq k 1999 = false from nbqf (by omega)]
  rfl
theorem wRow_n {m : xmm} (h9 : xctm m < 900) (w : Nat) : wRow (xwn m w) (xctm m - 1) w (fun _ => 0) ∧ wE m 1 (xwn m w) := by
  have hb := xctm_lt m
  have ec := xctm_wn (w := w) h9
  refine ⟨⟨by omega, by rw [xsg_new, ec]; omega, (if_neg (by omega)).trans (if_pos ⟨rfl, rfl⟩), fun i _ => if_pos rfl⟩, ⟨by rw [ec]; omega, by rw [ec]; exact Nat.le_refl _, fun k h3 h4 => ?_⟩⟩
  have hk := xsg_m h4
  have hne : k ≠ xctm m - 1 := fun e => by rw [e, xsg_new] at h4; omega
  exact ⟨(if_neg (by omega)).trans ((if_neg (fun t => hne t.2)).trans (if_neg (by omega))), fun i => (if_neg hne).trans ((if_neg (by omega)).trans (if_neg (by omega)))⟩
theorem wRow_p {m : xmm} {k L j : Nat} {f : Nat → Int32} {v : Int32} (h : wRow m k L f) : wRow (xwi m k j v) k L (fun i => if i = j then v else f i) := by
  have hk := xsg_m h.2.1
  have ec : xctm (xwi m k j v) = xctm m := xctm_of (if_neg (by omega))
  refine ⟨h.1, by rw [ec]; exact h.2.1, (if_neg (by omega)).trans h.2.2.1, fun i hi => ?_⟩
  show (if k = k ∧ i = j then v else m.1 k i) = if i = j then v else f i
  by_cases e : i = j
  · rw [if_pos ⟨rfl, e⟩, if_pos e]
  · rw [if_neg (fun t => e t.2), if_neg e]; exact h.2.2.2 i hi
theorem wE_p {m0 m : xmm} {e k j : Nat} {v : Int32} (h : wE m0 e m) (hk : k < 1000) (h2 : ¬ xsg k < xctm m0) : wE m0 e (xwi m k j v) := by
  have ec : xctm (xwi m k j v) = xctm m := xctm_of (if_neg (by omega))
  refine ⟨by rw [ec]; exact h.1, by rw [ec]; exact h.2.1, fun k' h3 h4 => ?_⟩
  obtain ⟨a1, a2⟩ := h.2.2 k' h3 h4
  have hne : k' ≠ k := fun t => h2 (by rw [← t]; exact h4)
  exact ⟨(if_neg (by omega)).trans a1, fun i => (if_neg (fun t => hne t.1)).trans (a2 i)⟩
section
variable {n : Nat} {N : yNW} {h : Nat} {H : Nat → yNW} {hd : Nat → Prop} {K : Nat → yNW} {len : Nat} {Z Z' : xmm → Prop} {m : xmm}
theorem wI_new (hI : wI n N h H hd K len Z m) {w : Nat} (hZ : ∀ m m', yLo m m' → Z' m → Z' m') (hz : Z' (xwn m w)) : wI n N h H hd K len Z' (xwn m w) := by
  have hb := xctm_lt m
  refine ⟨wCI_hi (L := [xctm m - 1, 1996, 1995]) hI.1 (fun k hk => ?_) (fun k hk => ?_), ?_, hz, hZ⟩
  · have h1 : k ≠ xctm m - 1 := fun e => hk (by rw [e]; exact List.mem_cons_self)
    have h2 : k ≠ 1996 := fun e => hk (by rw [e]; exact List.mem_cons_of_mem _ List.mem_cons_self)
    have h3 : k ≠ 1995 := fun e => hk (by rw [e]; exact List.mem_cons_of_mem _ (List.mem_cons_of_mem _ List.mem_cons_self))
    exact ⟨fun i => (if_neg h1).trans ((if_neg (fun t => h2 t.1)).trans (if_neg h3)), fun i => if_neg h1⟩
  · rcases List.mem_cons.mp hk with e | hk
    · omega
    · rcases List.mem_cons.mp hk with e | hk
      · omega
      · have := List.mem_singleton.mp hk; omega
  · exact ((if_neg (by omega)).trans ((if_neg (by omega)).trans (if_neg (by omega)))).trans hI.2.1
theorem wI_put (hI : wI n N h H hd K len Z m) {k j : Nat} {v : Int32} (hk : 144 ≤ k) (hZ : ∀ m m', yLo m m' → Z' m → Z' m') (hz : Z' (xwi m k j v)) : wI n N h H hd K len Z' (xwi m k j v) := by
  refine ⟨wCI_hi (L := [k]) hI.1 (fun k' hk' => ?_) (fun k' hk' => by have := List.mem_singleton.mp hk'; omega), ?_, hz, hZ⟩
  · have h1 : k' ≠ k := fun e => hk' (by rw [e]; exact List.mem_cons_self)
    exact ⟨fun i => if_neg (fun t => h1 t.1), fun i => rfl⟩
  · exact (if_neg (by omega)).trans hI.2.1
theorem wI_Z (hI : wI n N h H hd K len Z m) (hZ : ∀ m m', yLo m m' → Z' m → Z' m') (hz : Z' m) : wI n N h H hd K len Z' m := ⟨hI.1, hI.2.1, hz, hZ⟩
theorem wI_z (hI : wI n N h H hd K len Z m) : Z m := hI.2.2.1
end
/-! what is kept of a network -/
noncomputable def wkv (n : Nat) (N : yNW) (i : Nat) : Int32 := if i < 8 then yaCnt n N 0 (fun _ => False) 0 (nI i) else if i < 16 then yaNet n N (nI (i - 8)) else if i < 26 then yaOrd n N (nI (i - 16)) else if i < 58 then (if (i - 26) % 4 = 0 then yaNear n N (nI ((i - 26) / 4)) else if (i - 26) % 4 = 1 then yaPost n N (nI ((i - 26) / 4)) 2 else if (i - 26) % 4 = 2 then yaPost n N (nI ((i - 26) / 4)) 4 else yaChain n N (nI ((i - 26) / 4))) else 0
/-- the row, filled up to j -/
noncomputable def wKZ (n : Nat) (N : yNW) (m0 : xmm) (j : Nat) (m : xmm) : Prop := wE m0 1 m ∧ wRow m (xctm m0 - 1) 70 (fun i => if i < j then wkv n N i else 0)
theorem wKZ_lo {n : Nat} {N : yNW} {m0 : xmm} {j : Nat} (m m' : xmm) (hl : yLo m m') (h : wKZ n N m0 j m) : wKZ n N m0 j m' := ⟨wE_lo hl h.1, wRow_lo hl h.2⟩
section
variable {n : Nat} {N : yNW} {h : Nat} {H : Nat → yNW} {hd : Nat → Prop} {K : Nat → yNW} {len : Nat} {m0 : xmm}
theorem wKZ_put {j : Nat} {v : Int32} {m : xmm} (hI : wI n N h H hd K len (wKZ n N m0 j) m) (hj : j < 70) (hv : v = wkv n N j) : wI n N h H hd K len (wKZ n N m0 (j + 1)) (xwi m (xctm m0 - 1) j v) := by
  have hb := xctm_lt m0
  obtain ⟨hE, hr⟩ := wI_z hI
  refine wI_put hI (by omega) wKZ_lo ⟨wE_p hE (by omega) (by rw [xsg_new]; omega), wRow_f (wRow_p hr) fun i hi => ?_⟩
  by_cases e : i = j
  · subst e
    rw [if_pos rfl, if_pos (Nat.lt_succ_self _), hv]
  · rw [if_neg e]
    by_cases c : i < j
    · rw [if_pos c, if_pos (by omega)]
    · rw [if_neg c, if_neg (by omega)]
theorem e_cntk {i : Nat} (hi : i < 8) : yaCnt n N h hd len (nI i) = yaCnt n N 0 (fun _ => False) 0 (nI i) := by
  rcases (show i = 0 ∨ i = 1 ∨ i = 2 ∨ i = 3 ∨ i = 4 ∨ i = 5 ∨ i = 6 ∨ i = 7 by omega) with rfl | rfl | rfl | rfl | rfl | rfl | rfl | rfl <;> rfl
theorem wK_ir {j : Nat} {m : xmm} (hI : wI n N h H hd K len (wKZ n N m0 j) m) {i : Nat} (hi : i < 70) : xir m (xctm m0 - 1) (nI i) = true := wRow_ir (wI_z hI).2 (by decide) hi
theorem wK_9 : (!(Nat.beq (xctm m0 - 1) 1999)) = true := by
  have hb := xctm_lt m0
  rw [show Nat.beq (xctm m0 - 1) 1999 = false from nbqf (by omega)]
  rfl
abbrev wKJ (n : Nat) (N : yNW) (h : Nat) (H : Nat → yNW) (hd : Nat → Prop) (K : Nat → yNW) (len : Nat) (m0 : xmm) : xmm → Prop := wI n N h H hd K len (fun m => wE m0 1 m ∧ wRow m (xctm m0 - 1) 70 (wkv n N))
theorem s_kept84 : ∀ (d p : Nat) (m : xmm), p + d = 8 → wI n N h H hd K len (wKZ n N m0 (26 + 4 * p)) m → wR (xctm m0) (wKJ n N h H hd K len m0) (bL_kept_0_84 (xctm m0 - 1) (nI (26 + 4 * p)) (nI p) m) := by
  have hb := xctm_lt m0
  intro d
  induction d with
  | zero =>
    intro p m hp hI
    have e : p = 8 := by omega
    subst e
    refine wb (fun _ e => bL_kept_0_84_i _ _ _ _ e) (wt (by decide) (wg wK_9 ?_))
    have e : xctm m0 - 1 + 1 = xctm m0 := by omega
    rw [e]
    refine we ?_
    obtain ⟨hE, hr⟩ := wI_z hI
    refine wI_Z hI (fun m m' hl h => ⟨wE_lo hl h.1, wRow_lo hl h.2⟩) ⟨hE, wRow_f hr fun i hi => ?_⟩
    by_cases c : i < 58
    · exact if_pos c
    · have : wkv n N i = 0 := by
        unfold wkv
        rw [if_neg (by omega), if_neg (by omega), if_neg (by omega), if_neg c]
      rw [this]
      exact if_neg c
  | succ d ih =>
    intro p m hp hI
    have kv : ∀ r, r < 4 → wkv n N (26 + 4 * p + r) = (if r = 0 then yaNear n N (nI p) else if r = 1 then yaPost n N (nI p) 2 else if r = 2 then yaPost n N (nI p) 4 else yaChain n N (nI p)) := fun r hr => by
      unfold wkv
      rw [if_neg (by omega), if_neg (by omega), if_neg (by omega), if_pos (by omega), show (26 + 4 * p + r - 26) % 4 = r by omega, show (26 + 4 * p + r - 26) / 4 = p by omega]
    refine wb (fun _ e => bL_kept_0_84_i _ _ _ _ e) (wno (nI_ge (b := 8) (by omega) (by decide)) (wg wK_9 ?_))
    have l1 : nI (26 + 4 * p) + 1 = nI (26 + 4 * p + 1) := nI_1 _
    have l2 : nI (26 + 4 * p + 1) + 1 = nI (26 + 4 * p + 2) := nI_1 _
    have l3 : nI (26 + 4 * p + 2) + 1 = nI (26 + 4 * p + 3) := nI_1 _
    have l4 : nI (26 + 4 * p + 3) + 1 = nI (26 + 4 * (p + 1)) := nI_1 _
    rw [l1, l2, l3, l4, yI_cl (by omega), yI_cl (by omega), yI_cl (by omega), yI_cl (by omega)]
    refine wq (q_near hI _) fun m hI => ?_
    refine wg (wK_ir hI (by omega)) (wl ?_)
    have hI := wKZ_put hI (v := yaNear n N (nI p)) (by omega) (kv 0 (by decide)).symm
    refine wq (q_post hI _ _) fun m hI => ?_
    refine wg (wK_ir hI (by omega)) (wl ?_)
    have hI := wKZ_put hI (v := yaPost n N (nI p) 2) (by omega) (kv 1 (by decide)).symm
    refine wq (q_post hI _ _) fun m hI => ?_
    refine wg (wK_ir hI (by omega)) (wl ?_)
    have hI := wKZ_put hI (v := yaPost n N (nI p) 4) (by omega) (kv 2 (by decide)).symm
    refine wq (q_chain hI _) fun m hI => ?_
    refine wg (wK_ir hI (by omega)) (wl ?_)
    have hI := wKZ_put hI (v := yaChain n N (nI p)) (by omega) (kv 3 (by decide)).symm
    rw [nI_1]
    exact ih (p + 1) _ (by omega) hI
theorem s_kept59 : ∀ (d p : Nat) (m : xmm), p + d = 10 → wI n N h H hd K len (wKZ n N m0 (16 + p)) m → wR (xctm m0) (wKJ n N h H hd K len m0) (bL_kept_0_59 (xctm m0 - 1) (nI (16 + p)) (nI p) m) := by
  intro d
  induction d with
  | zero =>
    intro p m hp hI
    have e : p = 10 := by omega
    subst e
    exact wb (fun _ e => bL_kept_0_59_i _ _ _ _ e) (wt (by decide) (s_kept84 8 0 m (by decide) hI))
  | succ d ih =>
    intro p m hp hI
    refine wb (fun _ e => bL_kept_0_59_i _ _ _ _ e) (wno (nI_ge (b := 10) (by omega) (by decide)) (wg wK_9 ?_))
    refine wq (q_ord hI _) fun m hI => ?_
    refine wg (wK_ir hI (by omega)) (wl ?_)
    rw [yI_cl (by omega), nI_1, nI_1]
    refine ih (p + 1) _ (by omega) (wKZ_put (j := 16 + p) hI (by omega) ?_)
    unfold wkv
    rw [if_neg (by omega), if_neg (by omega), if_pos (by omega), show 16 + p - 16 = p by omega]
theorem s_kept34 : ∀ (d p : Nat) (m : xmm), p + d = 8 → wI n N h H hd K len (wKZ n N m0 (8 + p)) m → wR (xctm m0) (wKJ n N h H hd K len m0) (bL_kept_0_34 (xctm m0 - 1) (nI (8 + p)) (nI p) m) := by
  intro d
  induction d with
  | zero =>
    intro p m hp hI
    have e : p = 8 := by omega
    subst e
    exact wb (fun _ e => bL_kept_0_34_i _ _ _ _ e) (wt (by decide) (s_kept59 10 0 m (by decide) hI))
  | succ d ih =>
    intro p m hp hI
    refine wb (fun _ e => bL_kept_0_34_i _ _ _ _ e) (wno (nI_ge (b := 8) (by omega) (by decide)) (wg wK_9 ?_))
    refine wq (q_net hI _) fun m hI => ?_
    refine wg (wK_ir hI (by omega)) (wl ?_)
    rw [yI_cl (by omega), nI_1, nI_1]
    refine ih (p + 1) _ (by omega) (wKZ_put (j := 8 + p) hI (by omega) ?_)
    unfold wkv
    rw [if_neg (by omega), if_pos (by omega), show 8 + p - 8 = p by omega]
theorem s_kept9 : ∀ (d p : Nat) (m : xmm), p + d = 8 → wI n N h H hd K len (wKZ n N m0 p) m → wR (xctm m0) (wKJ n N h H hd K len m0) (bL_kept_0_9 (xctm m0 - 1) (nI p) (nI p) m) := by
  intro d
  induction d with
  | zero =>
    intro p m hp hI
    have e : p = 8 := by omega
    subst e
    exact wb (fun _ e => bL_kept_0_9_i _ _ _ _ e) (wt (by decide) (s_kept34 8 0 m (by decide) hI))
  | succ d ih =>
    intro p m hp hI
    refine wb (fun _ e => bL_kept_0_9_i _ _ _ _ e) (wno (nI_ge (b := 8) (by omega) (by decide)) (wg wK_9 ?_))
    refine wq (q_cnt hI _) fun m hI => ?_
    refine wg (wK_ir hI (by omega)) (wl ?_)
    rw [yI_cl (by omega), nI_1]
    refine ih (p + 1) _ (by omega) (wKZ_put (j := p) hI (by omega) ?_)
    unfold wkv
    rw [if_pos (by omega)]
    exact e_cntk (by omega)
theorem s_kept {Z : xmm → Prop} {m : xmm} (hI : wI n N h H hd K len Z m) (h9 : xctm m < 900) : wR (xctm m) (wKJ n N h H hd K len m) (fL_kept_0 m) := by
  obtain ⟨h1, h2⟩ := wRow_n h9 70
  refine wb (fun _ e => fL_kept_0_i _ e) (wg (Nat.ble_eq_true_of_le h9) (wl (wl (wg wK_9 ?_))))
  exact s_kept9 8 0 _ (by decide) (wI_new hI wKZ_lo ⟨h2, wRow_f h1 fun i _ => (if_neg (Nat.not_lt_zero i)).symm⟩)
theorem s_same4 {f : Nat → Int32} {a b : Nat} {m : xmm} (h1 : wRow m a 70 f) (h2 : wRow m b 70 f) : ∀ (d j : Nat), j + d = 70 → bL_same_4 a b 1 (nI j) m = some (1, m) := by
  have g1 : (Nat.ble 144 a && Nat.blt (xsg a) (xctm m)) = true := by
    rw [show Nat.ble 144 a = true from Nat.ble_eq_true_of_le h1.1, show Nat.blt (xsg a) (xctm m) = true from Nat.ble_eq_true_of_le h1.2.1]
    rfl
  intro d
  induction d with
  | zero =>
    intro j hj
    have e : j = 70 := by omega
    subst e
    apply bL_same_4_i
    rw [wRow_9 h1, g1, h1.2.2.1]
    rfl
  | succ d ih =>
    intro j hj
    apply bL_same_4_i
    rw [wRow_9 h1, wRow_9 h2, g1, h1.2.2.1, wRow_ir h1 (by decide) (by omega : j < 70), wRow_ir h2 (by decide) (by omega : j < 70), yI_cl (by decide), xgd_t, xgd_t, if_neg (show ¬ Int32.ofNat 70 ≤ nI j from nI_ge (b := 70) (by omega) (by decide)), if_neg (by decide), xgd_t, xgd_t, xgd_t, yI_cl (by omega), if_pos (by rw [h1.2.2.2 j (by omega), h2.2.2.2 j (by omega)]), nI_1]
    exact ih (j + 1) (by omega)
theorem s_same {Z : xmm → Prop} {f : Nat → Int32} {a b : Nat} {m : xmm} (hI : wI n N h H hd K len Z m) (h1 : wRow m a 70 f) (h2 : wRow m b 70 f) : wR 1 (wI n N h H hd K len Z) (fL_same a b m) := ⟨m, fL_same_i _ _ _ (s_same4 h1 h2 70 0 (by decide)), hI⟩
end
