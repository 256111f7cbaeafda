/-! the law's check of the orders -/
section
variable {n : Nat} {N : yNW} {h : Nat} {H : Nat → yNW} {hd : Nat → Prop} {K : Nat → yNW} {len : Nat} {Z : xmm → Prop}
theorem s_o1005 {A : Nat} {m : xmm} (hI : wI n N h H hd K len Z m) : wR 1 (wI n N h H hd K len Z) (bL_orders_0_1005 1 (nI A) (nI A) m) :=
  wb (fun _ e => bL_orders_0_1005_i _ _ _ _ e) (wno (by decide) (wt rfl (we hI)))
theorem ycp_le (a w : Nat) : ycp n N a w ≤ n := yct_le _ n
theorem s_o878 (hG : yGr n N.1) (ho : yord (yad N.1)) (h2 : yord (yad (yop n N.1))) {A p : Nat} (hp : p < n) (nx : ∀ m, wI n N h H hd K len Z m → wR 1 (wI n N h H hd K len Z) (bL_orders_0_869 (nI n) 1 (nI A) (nI A) (nI (p + 1)) m)) : ∀ (d q : Nat) (m : xmm), q + d = p → wI n N h H hd K len Z m → wR 1 (wI n N h H hd K len Z) (bL_orders_0_878 (nI n) 1 (nI A) (nI A) (nI p) (nI q) m) := by
  have hn := hG.1
  have b := fun a w => ycp_le (n := n) (N := N) a w
  intro d
  induction d with
  | zero =>
    intro q m hq hI
    have e : q = p := by omega
    subst e
    refine wb (fun _ e => bL_orders_0_878_i _ _ _ _ _ _ _ e) (wt (nI_le (Nat.le_refl _) (by omega)) ?_)
    rw [nI_1]
    exact nx m hI
  | succ d ih =>
    intro q m hq hI
    have hqn : q < n := by omega
    obtain ⟨c1, c2⟩ := wcross hG (b := N.2) ho h2 hp hqn (by omega)
    have c1 : (¬ (ycp n N p 0 < ycp n N q 0 ↔ ycp n N p 1 < ycp n N q 1)) ↔ yad N.1 p q := c1
    have c2 : ycp n N p 0 ≠ ycp n N q 0 := c2
    have b1 := b p 0
    have b2 := b q 0
    have b3 := b p 1
    have b4 := b q 1
    have last : ∀ (t : Int32) m, t = yP (yad N.1 p q) → wI n N h H hd K len Z m → wR 1 (wI n N h H hd K len Z) (bL_orders_0_939 (nI n) 1 (nI A) (nI A) (nI p) (nI q) t m) := by
      intro t m ht hI
      subst ht
      refine wb (fun _ e => bL_orders_0_939_i _ _ _ _ _ _ _ _ e) (wno (by decide) ?_)
      refine wq (wre (q_near hI _) (e_near' hn hp)) fun m hI => ?_
      have hbit : (nI (N.1 p) >>> (nI q &&& 31)) &&& (1 : Int32) = yP (yad N.1 p q) := yI_bit (by have := yGr_8 hG p; omega) (by omega)
      have fin : ∀ m, wI n N h H hd K len Z m → ∀ s, s = yP (yad N.1 p q) → wR 1 (wI n N h H hd K len Z) (bL_orders_0_967 (nI n) (nI A) (nI A) (nI p) (nI q) (yP (yad N.1 p q)) s m) := by
        intro m hI s hs
        refine wb (fun _ e => bL_orders_0_967_i _ _ _ _ _ _ _ _ e) (wt hs.symm ?_)
        refine wq (wre (q_post hI _ _) (e_post5 hn ho h2 hp)) fun m hI => ?_
        refine wq (wre (q_post hI _ _) (e_post5 hn ho h2 hqn)) fun m hI => ?_
        refine wno ?_ ?_
        · exact fun e => c2 ((nI_eq (by omega) (by omega)).mp e)
        rw [nI_1]
        exact ih (q + 1) m (by omega) hI
      by_cases ha : yad N.1 p q
      · exact wt (hbit.trans (yP_t ha)) (fin m hI 1 (yP_t ha).symm)
      · refine wno (fun e => ?_) (fin m hI 0 (yP_f ha).symm)
        have e : (nI (N.1 p) >>> (nI q &&& 31)) &&& (1 : Int32) = 1 := e
        rw [hbit, yP_f ha] at e
        exact absurd e (by decide)
    have mid : ∀ (t : Int32) m, t = yP (ycp n N p 0 < ycp n N q 0) → wI n N h H hd K len Z m → wR 1 (wI n N h H hd K len Z) (bL_orders_0_907 (nI n) 1 (nI A) (nI A) (nI p) (nI q) t m) := by
      intro t m ht hI
      refine wb (fun _ e => bL_orders_0_907_i _ _ _ _ _ _ _ _ e) ?_
      refine wq (wre (q_post hI _ _) (e_post6 hn ho h2 hp)) fun m hI => ?_
      refine wq (wre (q_post hI _ _) (e_post6 hn ho h2 hqn)) fun m hI => ?_
      by_cases h6 : ycp n N p 1 < ycp n N q 1
      · refine wno (nI_ge h6 (by omega)) ?_
        by_cases h5 : ycp n N p 0 < ycp n N q 0
        · rw [ht, yP_t h5]
          exact wt rfl (last 0 m (yP_f (fun a => c1.mpr a ⟨fun _ => h6, fun _ => h5⟩)).symm hI)
        · rw [ht, yP_f h5]
          exact wno (by decide) (last 1 m (yP_t (c1.mp fun e => h5 (e.mpr h6))).symm hI)
      · refine wt (nI_le (by omega) (by omega)) ?_
        by_cases h5 : ycp n N p 0 < ycp n N q 0
        · rw [ht, yP_t h5]
          exact wno (by decide) (last 1 m (yP_t (c1.mp fun e => h6 (e.mp h5))).symm hI)
        · rw [ht, yP_f h5]
          exact wt rfl (last 0 m (yP_f (fun a => c1.mpr a ⟨fun x => absurd x h5, fun x => absurd x h6⟩)).symm hI)
    refine wb (fun _ e => bL_orders_0_878_i _ _ _ _ _ _ _ e) (wno (nI_ge (by omega) (by omega)) ?_)
    refine wq (wre (q_post hI _ _) (e_post5 hn ho h2 hp)) fun m hI => ?_
    refine wq (wre (q_post hI _ _) (e_post5 hn ho h2 hqn)) fun m hI => ?_
    by_cases h5 : ycp n N p 0 < ycp n N q 0
    · exact wno (nI_ge h5 (by omega)) (mid 1 m (yP_t h5).symm hI)
    · exact wt (nI_le (by omega) (by omega)) (mid 0 m (yP_f h5).symm hI)
theorem s_o869 (hG : yGr n N.1) (ho : yord (yad N.1)) (h2 : yord (yad (yop n N.1))) {A : Nat} : ∀ (d p : Nat) (m : xmm), p + d = n → wI n N h H hd K len Z m → wR 1 (wI n N h H hd K len Z) (bL_orders_0_869 (nI n) 1 (nI A) (nI A) (nI p) m) := by
  have hn := hG.1
  intro d
  induction d with
  | zero =>
    intro p m hp hI
    exact wb (fun _ e => bL_orders_0_869_i _ _ _ _ _ _ e) (wt (nI_le (by omega) (by omega)) (s_o1005 hI))
  | succ d ih =>
    intro p m hp hI
    exact wb (fun _ e => bL_orders_0_869_i _ _ _ _ _ _ e) (wno (nI_ge (by omega) (by omega)) (s_o878 hG ho h2 (by omega) (fun m hI => ih (p + 1) m (by omega) hI) p 0 m (by omega) hI))
/-! a straight order -/
theorem s_o774 (hG : yGr n N.1) (ho : yord (yad N.1)) {i : Nat} (hi : i < yW n (yT N.1 N.2) 0) : ∀ (d k : Nat) (m : xmm), k + d = n → wI n N h H hd K len Z m → wR 1 (wI n N h H hd K len Z) (bL_orders_0_774 (nI n) 1 (nI (2 ^ n - 1)) (nI i) (nI (yq n (yT N.1 N.2) i k).1) (nI k) m) := by
  have hn := hG.1
  have hT := yT_po hG ho N.2
  have h256 := y2p8 hn
  intro d
  induction d with
  | zero =>
    intro k m hk hI
    have e : k = n := by omega
    subst e
    obtain ⟨a1, a2, -⟩ := yq_ok hi k (Nat.le_refl k)
    have ea : (yq k (yT N.1 N.2) i k).1 = 2 ^ k - 1 := ysb_eq (fun q hq => yall_b.mpr (ytb_of a1 hq)) (fun q hq => ysz_n a2 q (yall_b.mp hq))
    rw [ea]
    refine wb (fun _ e => bL_orders_0_774_i _ _ _ _ _ _ _ e) (wt (nI_le (Nat.le_refl _) (by omega)) ?_)
    by_cases h2 : yord (yad (yop k N.1))
    · refine wq (wre (q_net hI _) (e_net5.trans (yP_t ⟨ho, h2⟩))) fun m hI => ?_
      exact wt rfl (s_o869 hG ho h2 k 0 m (Nat.zero_add k) hI)
    · refine wq (wre (q_net hI _) (e_net5.trans (yP_f fun t => h2 t.2))) fun m hI => ?_
      exact wno w01 (s_o1005 hI)
  | succ d ih =>
    intro k m hk hI
    have hkn : k < n := by omega
    obtain ⟨a1, a2, -⟩ := yq_ok hi k (by omega)
    obtain ⟨p1, p2, -, -⟩ := ypk_ok hi hkn
    have hi0 : 0 < yW n (yT N.1 N.2) 0 := yW_pos hT (ydw_0 _)
    have r1 := (ypk_ok hi0 hkn).1
    have es := yq_s n (yT N.1 N.2) i k
    generalize ep : ypk n (yT N.1 N.2) i k = p at p1 p2 es
    have e0 := e_str' (N := N) hn ho hi hkn
    rw [ep] at e0
    generalize eg : (yq n (yT N.1 N.2) i k).1 = g at a1 a2 p2 es
    refine wb (fun _ e => bL_orders_0_774_i _ _ _ _ _ _ _ e) (wno (nI_ge hkn (by omega)) ?_)
    refine wq (wre (q_str hI _ _) e0) fun m hI => ?_
    refine wno (by decide) ?_
    refine wq (wre (q_post hI _ _) (e_post1 hn ho p1)) fun m hI => ?_
    refine wt ?_ (wt ?_ ?_)
    · show nI (yci (yT N.1 N.2) p) &&& (nI g ^^^ (-1)) = 0
      rw [yI_nd, ynd0.mpr fun q hq => p2.2 q ((yci_b hT hn).mp hq)]
      rfl
    · show (nI g >>> (nI p &&& 31)) &&& (1 : Int32) = 0
      rw [yI_bit (by omega) (by omega)]
      exact yP_f p2.1
    refine wq (wre (q_str hI _ _) (e_str' (N := N) (i := 0) hn ho hi0 hkn)) fun m hI => ?_
    refine wq (wre (q_post hI _ _) ((e_post4 hn ho r1).trans (by rw [wpl_k hT hkn] : nI (ypl n (yT N.1 N.2) (ypk n (yT N.1 N.2) 0 k)) = nI k))) fun m hI => ?_
    refine wt rfl (wb (fun _ e => bL_orders_0_841_i _ _ _ _ _ _ _ _ e) ?_)
    dsimp only
    rw [yI_1shl (by omega), yI_or, nI_1]
    have := ih (k + 1) m (by omega) hI
    rw [es] at this
    exact this
theorem wmodp {a b : Nat} (hb : 0 < b) : a % b < b := Nat.mod_lt _ hb
theorem s_o754 (hG : yGr n N.1) (ho : yord (yad N.1)) {u : Nat} (hu : u < 2 ^ 31) {m : xmm} (hI : wI n N h H hd K len Z m) : wR 1 (wI n N h H hd K len Z) (bL_orders_0_754 (nI u) (nI n) (nI (2 ^ n - 1)) 1 m) := by
  have hT := yT_po hG ho N.2
  have hi0 : 0 < yW n (yT N.1 N.2) 0 := yW_pos hT (ydw_0 _)
  have hle := yW_le hG.1 (yT N.1 N.2) 0
  refine wb (fun _ e => bL_orders_0_754_i _ _ _ _ _ e) ?_
  refine wq (wre (q_ord hI _) (e_ord0 ho)) fun m hI => ?_
  refine wg ?_ ?_
  · show (!(decide (nI (yW n (yT N.1 N.2) 0) = 0))) = true
    rw [decide_eq_false (nI_ne0 hi0 (by omega))]; rfl
  dsimp only
  rw [pk_rem hu hi0 (by omega)]
  exact s_o774 hG ho (wmodp hi0) n 0 m (Nat.zero_add n) hI
/-! the chains -/
noncomputable def wgr (n : Nat) (R : Nat → Nat) (p c : Nat) : Nat := ybs (fun q => q < p ∧ ycq R n q = c) n
theorem wgr_b {R : Nat → Nat} {p c q : Nat} : yb (wgr n R p c) q ↔ q < n ∧ q < p ∧ ycq R n q = c := yb_bs
noncomputable def wmt (n : Nat) (R : Nat → Nat) (c : Nat) : Nat := ybs (fun q => ycq R n q < c) n
theorem wmt_s {R : Nat → Nat} {c : Nat} : wmt n R c ||| wgr n R n c = wmt n R (c + 1) := ytb_ext fun q => by
  show yb (wmt n R c ||| wgr n R n c) q ↔ yb (wmt n R (c + 1)) q
  rw [yb_or, wgr_b]
  unfold wmt
  rw [yb_bs, yb_bs]
  constructor
  · rintro (⟨a, b⟩ | ⟨a, b, c⟩)
    · exact ⟨a, by omega⟩
    · exact ⟨a, by omega⟩
  · rintro ⟨a, b⟩
    by_cases e : ycq R n q = c
    · exact Or.inr ⟨a, a, e⟩
    · exact Or.inl ⟨a, by omega⟩
def wCZ (n : Nat) (N : yNW) (m0 : xmm) (p : Nat) (m : xmm) : Prop := wE m0 1 m ∧ wRow m (xctm m0 - 1) 9 (fun c => nI (wgr n N.1 p c))
theorem wCZ_lo {m0 : xmm} {p : Nat} (m m' : xmm) (hl : yLo m m') (h : wCZ n N m0 p m) : wCZ n N m0 p m' := ⟨wE_lo hl h.1, wRow_lo hl h.2⟩
theorem s_o679 (hG : yGr n N.1) (ho : yord (yad N.1)) {m0 : xmm} {u : Nat} (hu : u < 2 ^ 31) : ∀ (d c : Nat) (m : xmm), c + d = ync N.1 n → wI n N h H hd K len (wCZ n N m0 n) m → wR 1 (wI n N h H hd K len (wCZ n N m0 n)) (bL_orders_0_679 (nI u) (nI n) 1 (nI (2 ^ n - 1)) (xctm m0 - 1) (nI (wmt n N.1 c)) (nI c) m) := by
  have hn := hG.1
  have h256 := y2p8 hn
  have hle := ync_le N.1 n
  obtain ⟨q1, q2, q3⟩ := wchains hG
  intro d
  induction d with
  | zero =>
    intro c m hc hI
    refine wb (fun _ e => bL_orders_0_679_i _ _ _ _ _ _ _ _ e) ?_
    refine wq (wre (q_ord hI _) (e_ord6 ho)) fun m hI => ?_
    refine wt (nI_le (by omega) (by omega)) (wno (by decide) (wt ?_ (s_o754 hG ho hu hI)))
    show nI (wmt n N.1 c) = nI (2 ^ n - 1)
    congr 1
    refine ytb_ext fun q => ?_
    show yb (wmt n N.1 c) q ↔ yb (2 ^ n - 1) q
    unfold wmt
    rw [yb_bs, yall_b]
    exact ⟨fun t => t.1, fun t => ⟨t, by have := q1 q t; omega⟩⟩
  | succ d ih =>
    intro c m hc hI
    have hcl : c < ync N.1 n := by omega
    have row := fun (m : xmm) (hI : wI n N h H hd K len (wCZ n N m0 n) m) => (wI_z hI).2
    have g0 : ∃ q, yb (wgr n N.1 n c) q := by
      obtain ⟨q, a, b⟩ := q3 c hcl
      exact ⟨q, wgr_b.mpr ⟨a, a, b⟩⟩
    have glt : wgr n N.1 n c < 2 ^ n := ybs_lt _ n
    refine wb (fun _ e => bL_orders_0_679_i _ _ _ _ _ _ _ _ e) ?_
    refine wq (wre (q_ord hI _) (e_ord6 ho)) fun m hI => ?_
    refine wno (nI_ge hcl (by omega)) (wno (by decide) (wg wK_9 (wg (wRow_ir (row m hI) (by decide) (by omega)) ?_)))
    have e1 : m.1 (xctm m0 - 1) (nI c).toNatClampNeg = nI (wgr n N.1 n c) := by rw [yI_cl (by omega)]; exact (row m hI).2.2.2 c (by omega)
    dsimp only
    rw [e1]
    refine wno ?_ ?_
    · refine nI_ne0 (Nat.pos_of_ne_zero fun z => ?_) (by omega)
      obtain ⟨q, hq⟩ := g0
      rw [z] at hq
      exact yb_0 hq
    refine wq (wre (q_set hI _ _) ((e_set' hn glt 0).trans (yP_t ?_))) fun m hI => ?_
    · intro a b hne ha hb
      obtain ⟨a1, -, a3⟩ := wgr_b.mp ha
      obtain ⟨b1, -, b3⟩ := wgr_b.mp hb
      exact q2 a b hne a1 b1 (a3.trans b3.symm)
    refine wt rfl (wb (fun _ e => bL_orders_0_721_i _ _ _ _ _ _ _ _ e) (wg wK_9 (wg (wRow_ir (row m hI) (by decide) (by omega)) ?_)))
    have e2 : m.1 (xctm m0 - 1) (nI c).toNatClampNeg = nI (wgr n N.1 n c) := by rw [yI_cl (by omega)]; exact (row m hI).2.2.2 c (by omega)
    dsimp only
    rw [e2, yI_or, wmt_s, nI_1]
    exact ih (c + 1) m (by omega) hI
theorem wmt_0 {R : Nat → Nat} : wmt n R 0 = 0 := ytb_ext fun q => by
  show yb (wmt n R 0) q ↔ yb 0 q
  unfold wmt
  rw [yb_bs]
  exact ⟨fun t => by omega, fun t => absurd t yb_0⟩
theorem wgr_s {R : Nat → Nat} {p c : Nat} (hp : p < n) : wgr n R (p + 1) c = if c = ycq R n p then wgr n R p c ||| 2 ^ p else wgr n R p c := ytb_ext fun q => by
  show yb (wgr n R (p + 1) c) q ↔ yb (if c = ycq R n p then wgr n R p c ||| 2 ^ p else wgr n R p c) q
  by_cases e : c = ycq R n p
  · rw [if_pos e, yb_or, yb_pw, wgr_b, wgr_b]
    constructor
    · rintro ⟨a, b, d⟩
      by_cases eq : q = p
      · exact Or.inr eq
      · exact Or.inl ⟨a, by omega, d⟩
    · rintro (⟨a, b, d⟩ | rfl)
      · exact ⟨a, by omega, d⟩
      · exact ⟨hp, by omega, e.symm⟩
  · rw [if_neg e, wgr_b, wgr_b]
    constructor
    · rintro ⟨a, b, d⟩
      refine ⟨a, ?_, d⟩
      have : q ≠ p := fun t => e (by rw [← d, t])
      omega
    · rintro ⟨a, b, d⟩
      exact ⟨a, by omega, d⟩
theorem s_o645 (hG : yGr n N.1) (ho : yord (yad N.1)) {m0 : xmm} {u : Nat} (hu : u < 2 ^ 31) : ∀ (d p : Nat) (m : xmm), p + d = n → wI n N h H hd K len (wCZ n N m0 p) m → wR 1 (wI n N h H hd K len (wCZ n N m0 n)) (bL_orders_0_645 (nI u) (nI n) 1 (nI (2 ^ n - 1)) (xctm m0 - 1) (nI p) m) := by
  have hn := hG.1
  have hle := ync_le N.1 n
  have hb := xctm_lt m0
  intro d
  induction d with
  | zero =>
    intro p m hp hI
    have e : p = n := by omega
    subst e
    refine wb (fun _ e => bL_orders_0_645_i _ _ _ _ _ _ _ e) (wt (nI_le (Nat.le_refl _) (by omega)) ?_)
    have := s_o679 hG ho hu (ync N.1 p) 0 m (Nat.zero_add _) hI
    rw [wmt_0] at this
    exact this
  | succ d ih =>
    intro p m hp hI
    have hpn : p < n := by omega
    have hc := (wchains hG).1 p hpn
    refine wb (fun _ e => bL_orders_0_645_i _ _ _ _ _ _ _ e) (wno (nI_ge hpn (by omega)) (wg wK_9 ?_))
    refine wq (wre (q_chain hI _) (e_chain' hn ho hpn)) fun m hI => ?_
    have row := (wI_z hI).2
    refine wg (wRow_ir row (by decide) (by omega)) (wl ?_)
    dsimp only
    rw [yI_cl (by omega), row.2.2.2 _ (by omega), yI_1shl (by omega), yI_or, nI_1]
    refine ih (p + 1) _ (by omega) (wI_put hI (by omega) wCZ_lo ⟨wE_p (wI_z hI).1 (by omega) (by rw [xsg_new]; omega), wRow_f (wRow_p row) fun c hc9 => ?_⟩)
    rw [wgr_s hpn]
    by_cases e : c = ycq N.1 n p
    · rw [if_pos e, if_pos e, e]
    · rw [if_neg e, if_neg e]
/-- what the check leaves behind -/
abbrev wOJ (n : Nat) (N : yNW) (h : Nat) (H : Nat → yNW) (hd : Nat → Prop) (K : Nat → yNW) (len : Nat) (m0 : xmm) : xmm → Prop := wI n N h H hd K len (wE m0 1)
theorem s_o635 (hG : yGr n N.1) (ho : yord (yad N.1)) {u : Nat} (hu : u < 2 ^ 31) {m : xmm} (h9 : xctm m < 900) (hI : wI n N h H hd K len Z m) : wR 1 (wOJ n N h H hd K len m) (bL_orders_0_635 (nI u) (nI n) (nI (2 ^ n - 1)) 1 m) := by
  obtain ⟨h1, h2⟩ := wRow_n h9 9
  refine wJ (wb (fun _ e => bL_orders_0_635_i _ _ _ _ _ e) (wg (Nat.ble_eq_true_of_le h9) (wl (wl (wg wK_9 (s_o645 (m0 := m) hG ho hu n 0 _ (Nat.zero_add n) (wI_new hI wCZ_lo ⟨h2, wRow_f h1 fun c _ => ?_⟩))))))) fun m' hm => wI_Z hm (fun _ _ => wE_lo) (wI_z hm).1
  have : wgr n N.1 0 c = 0 := ytb_ext fun q => ⟨fun t => by have := wgr_b.mp t; omega, fun t => absurd t yb_0⟩
  rw [this]
  rfl
end
