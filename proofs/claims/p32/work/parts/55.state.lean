/-! the STATE: the network, the past, what is held -/
abbrev yNW := (Nat → Nat) × Nat
def yNv (n : Nat) (N : yNW) : Prop := yGr n N.1 ∧ N.2 < 2
def yNt (v r n : Nat) (N : yNW) (m : xmm) : Prop := m.1 v 0 = nI n ∧ m.1 v 1 = nI N.2 ∧ yrw r N.1 m
/-- a network's object and its rows -/
def ynet (v r : Nat) : Prop := Nat.beq v 1999 = false ∧ xob v 3 = true ∧ xR0 v 2 = r + 1 ∧ xkd r = (1, 8) ∧ Nat.beq r 1999 = false
theorem ynet10 : ynet 10 11 := ⟨rfl, rfl, rfl, rfl, rfl⟩
theorem ynet12 : ynet 12 13 := ⟨rfl, rfl, rfl, rfl, rfl⟩
theorem ynet3 : ynet 3 4 := ⟨rfl, rfl, rfl, rfl, rfl⟩
theorem ynet_d (v r : Nat) : ynet v r ↔ (Nat.beq v 1999 || !(xob v 3) || !(Nat.beq (xR0 v 2) (r + 1)) || !(Nat.beq (xkd r).1 1) || !(Nat.beq (xkd r).2 8) || Nat.beq r 1999) = false := by
  unfold ynet
  simp only [Bool.or_eq_false_iff, Bool.not_eq_false', Nat.beq_eq]
  constructor
  · rintro ⟨h1, h2, h3, h4, h5⟩
    exact ⟨⟨⟨⟨⟨h1, h2⟩, h3⟩, by rw [h4]⟩, by rw [h4]⟩, h5⟩
  · rintro ⟨⟨⟨⟨⟨h1, h2⟩, h3⟩, h4⟩, h4'⟩, h5⟩
    exact ⟨h1, h2, h3, by rw [← h4, ← h4'], h5⟩
theorem yring : ∀ j, j < 40 → (Nat.beq (16 + 2 * j) 1999 || !(xob (16 + 2 * j) 3) || !(Nat.beq (xR0 (16 + 2 * j) 2) (17 + 2 * j + 1)) || !(Nat.beq (xkd (17 + 2 * j)).1 1) || !(Nat.beq (xkd (17 + 2 * j)).2 8) || Nat.beq (17 + 2 * j) 1999) = false := by decide +kernel
theorem ynet_r {j : Nat} (h : j < 40) : ynet (16 + 2 * j) (17 + 2 * j) := (ynet_d _ _).mpr (yring j h)
theorem yringR : ∀ j, j < 40 → xR0 15 j = (16 + 2 * j) + 1 := by decide +kernel
theorem yslot : ∀ j, j < 3 → (Nat.beq (138 + 2 * j) 1999 || !(xob (138 + 2 * j) 3) || !(Nat.beq (xR0 (138 + 2 * j) 2) (139 + 2 * j + 1)) || !(Nat.beq (xkd (139 + 2 * j)).1 1) || !(Nat.beq (xkd (139 + 2 * j)).2 8) || Nat.beq (139 + 2 * j) 1999) = false := by decide +kernel
theorem ynet_s {j : Nat} (h : j < 3) : ynet (138 + 2 * j) (139 + 2 * j) := (ynet_d _ _).mpr (yslot j h)
theorem yslotR : ∀ j, j < 3 → xR0 96 j = (138 + 2 * j) + 1 := by decide +kernel
theorem yNt_r {v r n : Nat} {N : yNW} {L : List Nat} {m m' : xmm} (h : yNt v r n N m) (hf : yfr L m m') (h1 : v ∉ L) (h2 : r ∉ L) : yNt v r n N m' := ⟨by rw [yfr_1 hf v 0 h1]; exact h.1, by rw [yfr_1 hf v 1 h1]; exact h.2.1, fun p hp => by rw [yfr_1 hf r p h2]; exact h.2.2 p hp⟩
theorem yz01 {b : Nat} (h : b < 2) : xz01 (nI b) = true := by
  have : b = 0 ∨ b = 1 := by omega
  rcases this with e | e <;> subst e <;> rfl
theorem s_copy_18 {v r v' r' : Nat} (h : ynet v r) (h' : ynet v' r') (hd : r ≠ r') {R : Nat → Nat} : ∀ (d k : Nat) (m : xmm), k + d = 8 → yrw r' R m → (∀ p, p < k → m.1 r p = nI (R p)) → ∃ m', bX3_copyFrom_18 v v' (nI k) m = some m' ∧ yrw r R m' ∧ yfr [r] m m' := by
  obtain ⟨a1, a2, a3, a4, a5⟩ := h
  obtain ⟨b1, b2, b3, b4, b5⟩ := h'
  intro d
  induction d with
  | zero =>
    intro k m hk hR hp
    have e : k = 8 := by omega
    subst e
    refine ⟨m, ?_, hp, yfr_r⟩
    apply bX3_copyFrom_18_i
    simp (disch := omega) only [yl3, yl4, yl5, yl6, yl7, yl8, yl9, yl10, yl13, yl16, yl20, yl21, yl22, yl23, yl24, yl32, yl40, yl48, yl57, yl59, yl63, yl64, yl97, yl99, yl122, yl255, yl256, yl400, yl1000, yl2000, yl2048, yc0_eq, yc0_eq2, yc0_le, yc0_ge, yc0_lt, yc0_gt, yc0_ad, yc0_da, yc0_sb, yc0_ml, yc0_lm, yc1_eq, yc1_eq2, yc1_le, yc1_ge, yc1_lt, yc1_gt, yc1_ad, yc1_da, yc1_sb, yc1_ml, yc1_lm, yc2_eq, yc2_eq2, yc2_le, yc2_ge, yc2_lt, yc2_gt, yc2_ad, yc2_da, yc2_sb, yc2_ml, yc2_lm, yc31_ge, ymodn, yI_1sl, yc2_dv, yn1_eq, yn1_lt, xgd_t, xlt_e, Option.bind_some, nI_add, pk_mul, pk_sub, pk_div, pk_rem, yI_and, yI_or, yI_xor, yI_nd, yI_nd2, yI_31, yI_shl, nI_leI, nI_ltI, nI_eq, nI_clamp, xinb_t, yP_z, yP_if, if_pos]
  | succ d ih =>
    intro k m hk hR hp
    have fr : yfr [r] m (xwi m r k (nI (R k))) := yfr_w yfr_r (List.mem_singleton.mpr rfl)
    obtain ⟨m', e1, e2, e3⟩ := ih (k + 1) (xwi m r k (nI (R k))) (by omega) (fun p hq => by rw [xwi_k (fun e => hd e.symm)]; exact hR p hq) (fun p hq => by
      by_cases e : p = k
      · subst e; rw [xwi_e]
      · rw [xwi_i e]; exact hp p (by omega))
    refine ⟨m', ?_, e2, yfr_t fr e3⟩
    apply bX3_copyFrom_18_i
    have i1 : xia 1 r (nI k) = true := xia_t (n := 8) a4 (by omega) (by decide)
    have i2 : xia 1 r' (nI k) = true := xia_t (n := 8) b4 (by omega) (by decide)
    simp (disch := omega) only [yl3, yl4, yl5, yl6, yl7, yl8, yl9, yl10, yl13, yl16, yl20, yl21, yl22, yl23, yl24, yl32, yl40, yl48, yl57, yl59, yl63, yl64, yl97, yl99, yl122, yl255, yl256, yl400, yl1000, yl2000, yl2048, yc0_eq, yc0_eq2, yc0_le, yc0_ge, yc0_lt, yc0_gt, yc0_ad, yc0_da, yc0_sb, yc0_ml, yc0_lm, yc1_eq, yc1_eq2, yc1_le, yc1_ge, yc1_lt, yc1_gt, yc1_ad, yc1_da, yc1_sb, yc1_ml, yc1_lm, yc2_eq, yc2_eq2, yc2_le, yc2_ge, yc2_lt, yc2_gt, yc2_ad, yc2_da, yc2_sb, yc2_ml, yc2_lm, yc31_ge, ymodn, yI_1sl, yc2_dv, yn1_eq, yn1_lt, xgd_t, xlt_e, Option.bind_some, nI_add, pk_mul, pk_sub, pk_div, pk_rem, yI_and, yI_or, yI_xor, yI_nd, yI_nd2, yI_31, yI_shl, nI_leI, nI_ltI, nI_eq, nI_clamp, xinb_t, yP_z, yP_if, if_neg, a1, a2, a3, b1, b2, b3, xgr, Bool.not_false, i1, i2, hR k (by omega)]
    exact e1
theorem s_copyFrom {v r v' r' n : Nat} {N : yNW} (h : ynet v r) (h' : ynet v' r') (hv : v ≠ v') (hr : r ≠ r') (hx : v ≠ r') (hy : v ≠ r) (hb : N.2 < 2) {m : xmm} (hN : yNt v' r' n N m) : ∃ m', fX3_copyFrom v v' m = some m' ∧ yNt v r n N m' ∧ yfr [v, r] m m' := by
  obtain ⟨n1, n2, n3⟩ := hN
  have fr : yfr [v, r] m (xwi (xwi m v 0 (nI n)) v 1 (nI N.2)) := yfr_w (yfr_w yfr_r List.mem_cons_self) List.mem_cons_self
  obtain ⟨m', e1, e2, e3⟩ := s_copy_18 h h' hr 8 0 (xwi (xwi m v 0 (nI n)) v 1 (nI N.2)) rfl (R := N.1) (fun p hp => by rw [xwi_k (fun e => hx e.symm), xwi_k (fun e => hx e.symm)]; exact n3 p hp) (fun p hp => absurd hp (Nat.not_lt_zero p))
  refine ⟨m', ?_, ⟨?_, ?_, e2⟩, yfr_t fr (yfr_m e3 (fun k hk => by rw [List.mem_singleton.mp hk]; exact List.mem_cons_of_mem _ List.mem_cons_self))⟩
  · obtain ⟨a1, a2, a3, a4, a5⟩ := h
    obtain ⟨b1, b2, b3, b4, b5⟩ := h'
    apply fX3_copyFrom_i
    have x1 : (xwi m v 0 (nI n)).1 v' 1 = nI N.2 := by rw [xwi_k (fun e => hv e.symm)]; exact n2
    simp only [a1, b1, b2, a2, Bool.not_false, xgd_t, xlt_e, n1, x1, yz01 hb]
    exact e1
  · rw [yfr_1 e3 v 0 (fun t => hy (List.mem_singleton.mp t)), xwi_i (by decide), xwi_e]
  · rw [yfr_1 e3 v 1 (fun t => hy (List.mem_singleton.mp t)), xwi_e]
/-! posts -/
def yIsP (n : Nat) (x : Int32) : Prop := ∃ p, p < n ∧ x = nI p
theorem yIsP_n {n p : Nat} (hn : n ≤ 8) (hp : p < 2 ^ 31) : yIsP n (nI p) ↔ p < n := ⟨fun ⟨q, q1, q2⟩ => by have := (nI_eq hp (by omega)).mp q2; omega, fun h => ⟨p, h, rfl⟩⟩
theorem yIsP_c {n : Nat} (hn : n ≤ 8) (x : Int32) : x < 0 ∨ ∃ p, p < 2 ^ 31 ∧ x = nI p := by
  by_cases h : x < 0
  · exact Or.inl h
  · exact Or.inr (nI_of h)
theorem yIsP_neg {n : Nat} (hn : n ≤ 8) {x : Int32} (h : x < 0) : ¬ yIsP n x := by
  rintro ⟨p, p1, p2⟩
  rw [p2] at h
  exact nI_pos (by omega) h
theorem s_hasPost {v r n : Nat} (h : ynet v r) (hn : n ≤ 8) (x : Int32) {m : xmm} (hN : m.1 v 0 = nI n) : fX3_hasPost v x m = some (yP (yIsP n x), m) := by
  obtain ⟨a1, a2, a3, a4, a5⟩ := h
  apply fX3_hasPost_i
  rcases yIsP_c hn x with hx | ⟨p, p1, p2⟩
  · rw [yP_f (yIsP_neg hn hx)]
    simp only [if_pos hx]
  · subst p2
    by_cases hp : p < n
    · rw [yP_t ((yIsP_n hn p1).mpr hp)]
      simp (disch := omega) only [yl3, yl4, yl5, yl6, yl7, yl8, yl9, yl10, yl13, yl16, yl20, yl21, yl22, yl23, yl24, yl32, yl40, yl48, yl57, yl59, yl63, yl64, yl97, yl99, yl122, yl255, yl256, yl400, yl1000, yl2000, yl2048, yc0_eq, yc0_eq2, yc0_le, yc0_ge, yc0_lt, yc0_gt, yc0_ad, yc0_da, yc0_sb, yc0_ml, yc0_lm, yc1_eq, yc1_eq2, yc1_le, yc1_ge, yc1_lt, yc1_gt, yc1_ad, yc1_da, yc1_sb, yc1_ml, yc1_lm, yc2_eq, yc2_eq2, yc2_le, yc2_ge, yc2_lt, yc2_gt, yc2_ad, yc2_da, yc2_sb, yc2_ml, yc2_lm, yc31_ge, ymodn, yI_1sl, yc2_dv, yn1_eq, yn1_lt, xgd_t, xlt_e, Option.bind_some, nI_add, pk_mul, pk_sub, pk_div, pk_rem, yI_and, yI_or, yI_xor, yI_nd, yI_nd2, yI_31, yI_shl, nI_leI, nI_ltI, nI_eq, nI_clamp, xinb_t, yP_z, yP_if, if_neg, a1, a2, Bool.not_false, hN]
    · rw [yP_f (fun t => hp ((yIsP_n hn p1).mp t))]
      simp (disch := omega) only [yl3, yl4, yl5, yl6, yl7, yl8, yl9, yl10, yl13, yl16, yl20, yl21, yl22, yl23, yl24, yl32, yl40, yl48, yl57, yl59, yl63, yl64, yl97, yl99, yl122, yl255, yl256, yl400, yl1000, yl2000, yl2048, yc0_eq, yc0_eq2, yc0_le, yc0_ge, yc0_lt, yc0_gt, yc0_ad, yc0_da, yc0_sb, yc0_ml, yc0_lm, yc1_eq, yc1_eq2, yc1_le, yc1_ge, yc1_lt, yc1_gt, yc1_ad, yc1_da, yc1_sb, yc1_ml, yc1_lm, yc2_eq, yc2_eq2, yc2_le, yc2_ge, yc2_lt, yc2_gt, yc2_ad, yc2_da, yc2_sb, yc2_ml, yc2_lm, yc31_ge, ymodn, yI_1sl, yc2_dv, yn1_eq, yn1_lt, xgd_t, xlt_e, Option.bind_some, nI_add, pk_mul, pk_sub, pk_div, pk_rem, yI_and, yI_or, yI_xor, yI_nd, yI_nd2, yI_31, yI_shl, nI_leI, nI_ltI, nI_eq, nI_clamp, xinb_t, yP_z, yP_if, if_neg, if_pos, a1, a2, Bool.not_false, hN]
def yPr2 (n : Nat) (x y : Int32) : Prop := ∃ p q, p < n ∧ q < n ∧ p ≠ q ∧ x = nI p ∧ y = nI q
theorem s_hasPair {v r n : Nat} (h : ynet v r) (hn : n ≤ 8) (x y : Int32) {m : xmm} (hN : m.1 v 0 = nI n) : fX3_hasPair v x y m = some (yP (yPr2 n x y), m) := by
  have a1 := h.1
  have a2 := h.2.1
  apply fX3_hasPair_i
  by_cases hxy : x = y
  · rw [if_pos hxy, yP_f]
    rintro ⟨p, q, p1, q1, pq, e1, e2⟩
    rw [e1, e2] at hxy
    exact pq ((nI_eq (by omega) (by omega)).mp hxy)
  · rw [if_neg hxy, s_hasPost h hn x hN]
    by_cases hx : yIsP n x
    · rw [yP_t hx]
      have n1 : ¬ (1 : Int32) = 0 := by decide
      by_cases hy : yIsP n y
      · have : yPr2 n x y := by
          obtain ⟨p, p1, p2⟩ := hx
          obtain ⟨q, q1, q2⟩ := hy
          exact ⟨p, q, p1, q1, fun e => hxy (by rw [p2, q2, e]), p2, q2⟩
        rw [yP_t this]
        simp only [a1, a2, Bool.not_false, xgd_t, Option.bind_some, n1, if_false, s_hasPost h hn y hN, yP_t hy]
      · rw [yP_f (fun ⟨p, q, p1, q1, _, _, e⟩ => hy ⟨q, q1, e⟩)]
        simp only [a1, a2, Bool.not_false, xgd_t, Option.bind_some, n1, if_false, s_hasPost h hn y hN, yP_f hy, if_true]
    · rw [yP_f hx, yP_f (fun ⟨p, q, p1, q1, _, e, _⟩ => hx ⟨p, p1, e⟩)]
      simp only [a1, a2, Bool.not_false, xgd_t, Option.bind_some, if_true]
/-! a line put on or taken off -/
def yfp (R : Nat → Nat) (a b : Nat) : Nat → Nat := fun p => if p = a then R a ^^^ 2 ^ b else if p = b then R b ^^^ 2 ^ a else R p
theorem yxr {A B q : Nat} : yb (A ^^^ B) q ↔ ¬ (yb A q ↔ yb B q) := by
  show (A ^^^ B).testBit q = true ↔ ¬ (A.testBit q = true ↔ B.testBit q = true)
  rw [Nat.testBit_xor]
  cases A.testBit q <;> cases B.testBit q <;> decide
theorem yfp_b {R : Nat → Nat} {a b p q : Nat} (hab : a ≠ b) : yad (yfp R a b) p q ↔ ¬ (yad R p q ↔ ((p = a ∧ q = b) ∨ (p = b ∧ q = a))) := by
  show yb (yfp R a b p) q ↔ _
  unfold yfp
  by_cases e1 : p = a
  · subst e1
    rw [if_pos rfl, yxr, yb_pw]
    have : ((p = p ∧ q = b) ∨ (p = b ∧ q = p)) ↔ q = b := ⟨fun h => h.elim (fun t => t.2) (fun t => absurd t.1 hab), fun h => Or.inl ⟨rfl, h⟩⟩
    rw [this]; exact Iff.rfl
  · by_cases e2 : p = b
    · subst e2
      rw [if_neg e1, if_pos rfl, yxr, yb_pw]
      have : ((p = a ∧ q = p) ∨ (p = p ∧ q = a)) ↔ q = a := ⟨fun h => h.elim (fun t => absurd t.1 e1) (fun t => t.2), fun h => Or.inr ⟨rfl, h⟩⟩
      rw [this]; exact Iff.rfl
    · rw [if_neg e1, if_neg e2]
      have : ((p = a ∧ q = b) ∨ (p = b ∧ q = a)) ↔ False := ⟨fun h => h.elim (fun t => e1 t.1) (fun t => e2 t.1), False.elim⟩
      rw [this]
      show yad R p q ↔ _
      constructor
      · intro h h2; exact h2.mp h
      · intro h
        exact Classical.byContradiction fun hn => h ⟨fun t => absurd t hn, False.elim⟩
theorem yfp_gr {R : Nat → Nat} {n a b : Nat} (hG : yGr n R) (ha : a < n) (hb : b < n) (hab : a ≠ b) : yGr n (yfp R a b) := by
  refine ⟨hG.1, fun p => ?_, fun p hp => ?_, fun x y h => ?_, fun x h => ?_⟩
  · unfold yfp
    have pa : 2 ^ a < 2 ^ n := Nat.pow_lt_pow_right (by decide) ha
    have pb : 2 ^ b < 2 ^ n := Nat.pow_lt_pow_right (by decide) hb
    by_cases e1 : p = a
    · rw [if_pos e1]; exact Nat.xor_lt_two_pow (hG.2.1 a) pb
    · by_cases e2 : p = b
      · rw [if_neg e1, if_pos e2]; exact Nat.xor_lt_two_pow (hG.2.1 b) pa
      · rw [if_neg e1, if_neg e2]; exact hG.2.1 p
  · unfold yfp
    rw [if_neg (by omega), if_neg (by omega)]
    exact hG.2.2.1 p hp
  · rw [yfp_b hab] at h ⊢
    intro h2
    apply h
    constructor
    · intro t
      rcases h2.mp (hG.2.2.2.1 _ _ t) with e | e
      · exact Or.inr ⟨e.2, e.1⟩
      · exact Or.inl ⟨e.2, e.1⟩
    · intro t
      refine hG.2.2.2.1 _ _ (h2.mpr ?_)
      rcases t with e | e
      · exact Or.inr ⟨e.2, e.1⟩
      · exact Or.inl ⟨e.2, e.1⟩
  · rw [yfp_b hab] at h
    apply h
    constructor
    · intro t; exact absurd t (hG.2.2.2.2 x)
    · rintro (⟨e1, e2⟩ | ⟨e1, e2⟩)
      · exact absurd (e1.symm.trans e2) hab
      · exact absurd (e2.symm.trans e1) hab
theorem s_flip {n : Nat} {R : Nat → Nat} (hG : yGr n R) {a b : Nat} (ha : a < n) (hb : b < n) (hab : a ≠ b) {m : xmm} (hN : m.1 10 0 = nI n) (hR : yrw 11 R m) : ∃ m', fX3_flip 10 (nI a) (nI b) m = some m' ∧ yrw 11 (yfp R a b) m' ∧ yfr [11] m m' := by
  have hn := hG.1
  have pr : yPr2 n (nI a) (nI b) := ⟨a, b, ha, hb, hab, rfl, rfl⟩
  have n10 : Nat.beq 10 1999 = false := rfl
  have o10 : xob 10 3 = true := rfl
  have r10 : xR0 10 2 = 12 := rfl
  have i1 : xia 1 11 (nI a) = true := xia_t (n := 8) rfl (by omega) (by decide)
  have i2 : xia 1 11 (nI b) = true := xia_t (n := 8) rfl (by omega) (by decide)
  have n1 : ¬ (1 : Int32) = 0 := by decide
  have x1 : (xwi m 11 a (nI (R a ^^^ 2 ^ b))).1 11 b = nI (R b) := by rw [xwi_i (fun e => hab e.symm)]; exact hR b (by omega)
  refine ⟨xwi (xwi m 11 a (nI (R a ^^^ 2 ^ b))) 11 b (nI (R b ^^^ 2 ^ a)), ?_, fun p hp => ?_, yfr_w (yfr_w yfr_r (by decide)) (by decide)⟩
  · apply fX3_flip_i
    simp (disch := omega) only [yl3, yl4, yl5, yl6, yl7, yl8, yl9, yl10, yl13, yl16, yl20, yl21, yl22, yl23, yl24, yl32, yl40, yl48, yl57, yl59, yl63, yl64, yl97, yl99, yl122, yl255, yl256, yl400, yl1000, yl2000, yl2048, yc0_eq, yc0_eq2, yc0_le, yc0_ge, yc0_lt, yc0_gt, yc0_ad, yc0_da, yc0_sb, yc0_ml, yc0_lm, yc1_eq, yc1_eq2, yc1_le, yc1_ge, yc1_lt, yc1_gt, yc1_ad, yc1_da, yc1_sb, yc1_ml, yc1_lm, yc2_eq, yc2_eq2, yc2_le, yc2_ge, yc2_lt, yc2_gt, yc2_ad, yc2_da, yc2_sb, yc2_ml, yc2_lm, yc31_ge, ymodn, yI_1sl, yc2_dv, yn1_eq, yn1_lt, xgd_t, xlt_e, Option.bind_some, nI_add, pk_mul, pk_sub, pk_div, pk_rem, yI_and, yI_or, yI_xor, yI_nd, yI_nd2, yI_31, yI_shl, nI_leI, nI_ltI, nI_eq, nI_clamp, xinb_t, yP_z, yP_if, s_hasPair ynet10 hn (nI a) (nI b) hN, yP_t pr, n10, o10, r10, xgr, Bool.not_false, n1, if_false, i1, i2, hR a, yI_1shl, x1]
  · unfold yfp
    by_cases e1 : p = a
    · subst e1
      rw [if_pos rfl, xwi_i hab, xwi_e]
    · by_cases e2 : p = b
      · subst e2
        rw [if_neg e1, if_pos rfl, xwi_e]
      · rw [if_neg e1, if_neg e2, xwi_i e2, xwi_i e1]
        exact hR p hp
