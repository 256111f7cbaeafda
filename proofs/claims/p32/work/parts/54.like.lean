/-! LIKE: the ways to send a network to another -/
def yiso (R R' : Nat → Nat) (n : Nat) (h : Nat → Nat) : Prop := (∀ q, n ≤ q → h q = 0) ∧ (∀ q, q < n → h q < n) ∧ ∀ r q, r < q → q < n → h r ≠ h q ∧ (yad R q r ↔ yad R' (h q) (h r))
def yLx (R R' : Nat → Nat) (n p : Nat) (f h : Nat → Nat) : Prop := yiso R R' n h ∧ ∀ q, q < p → h q = f q
def yLpi (R R' : Nat → Nat) (n p : Nat) (f : Nat → Nat) : Prop := ∀ q, q < p → f q < n ∧ ∀ r, r < q → f r ≠ f q ∧ (yad R q r ↔ yad R' (f q) (f r))
def yLf (R R' : Nat → Nat) (f : Nat → Nat) (p x : Nat) : Prop := ∀ r, r < p → f r ≠ x ∧ (yad R p r ↔ yad R' x (f r))
def yLu (f : Nat → Nat) (p x : Nat) : Nat → Nat := fun q => if q = p then x else f q
theorem yLu_e (f : Nat → Nat) (p x : Nat) : yLu f p x p = x := if_pos rfl
theorem yLu_n {f : Nat → Nat} {p x q : Nat} (h : q ≠ p) : yLu f p x q = f q := if_neg h
theorem yLpi_s {R R' : Nat → Nat} {n p : Nat} {f : Nat → Nat} {x : Nat} (h : yLpi R R' n p f) (hx : x < n) (hf : yLf R R' f p x) : yLpi R R' n (p + 1) (yLu f p x) := by
  intro q hq
  by_cases e : q = p
  · subst e
    rw [yLu_e]
    refine ⟨hx, fun r hr => ?_⟩
    rw [yLu_n (by omega)]
    exact hf r hr
  · rw [yLu_n e]
    obtain ⟨a1, a2⟩ := h q (by omega)
    refine ⟨a1, fun r hr => ?_⟩
    rw [yLu_n (by omega)]
    exact a2 r hr
noncomputable def yIs (R R' : Nat → Nat) (n : Nat) : Nat → Nat → (Nat → Nat) → Nat
  | 0, _, _ => 1
  | d + 1, p, f => ysm (fun x => yif (yLf R R' f p x) (yIs R R' n d (p + 1) (yLu f p x)) 0) n
theorem yLx_s {R R' : Nat → Nat} {n p x : Nat} {f h : Nat → Nat} : yLx R R' n (p + 1) (yLu f p x) h ↔ yLx R R' n p f h ∧ h p = x := by
  constructor
  · rintro ⟨h1, h2⟩
    refine ⟨⟨h1, fun q hq => ?_⟩, ?_⟩
    · rw [h2 q (by omega), yLu_n (by omega)]
    · rw [h2 p (by omega), yLu_e]
  · rintro ⟨⟨h1, h2⟩, h3⟩
    refine ⟨h1, fun q hq => ?_⟩
    by_cases e : q = p
    · subst e; rw [yLu_e, h3]
    · rw [yLu_n e, h2 q (by omega)]
theorem yLx_f {R R' : Nat → Nat} {n p x : Nat} {f h : Nat → Nat} (hp : p < n) (e : yLx R R' n p f h) (hx : h p = x) : x < n ∧ yLf R R' f p x := by
  refine ⟨by rw [← hx]; exact e.1.2.1 p hp, fun r hr => ?_⟩
  rw [← hx, ← e.2 r hr]
  exact e.1.2.2 r p hr hp
theorem yIs_h {R R' : Nat → Nat} {n : Nat} : ∀ (d p : Nat), p + d = n → ∀ f, yLpi R R' n p f → yhc (yLx R R' n p f) (yIs R R' n d p f) := by
  intro d
  induction d with
  | zero =>
    intro p hp f hf
    have e : p = n := by omega
    subst e
    refine yhc_1 (fun q => if q < p then f q else 0) ⟨⟨fun q hq => if_neg (by omega), fun q hq => ?_, fun r q hr hq => ?_⟩, fun q hq => if_pos hq⟩ fun h hh => funext fun q => ?_
    · dsimp only
      rw [if_pos hq]
      exact (hf q hq).1
    · dsimp only
      rw [if_pos hq, if_pos (by omega)]
      exact (hf q hq).2 r hr
    · by_cases hq : q < p
      · rw [hh.2 q hq, if_pos hq]
      · rw [hh.1.1 q (by omega), if_neg hq]
  | succ d ih =>
    intro p hp f hf
    refine yhc_c (P := fun h => ∃ x, x < n ∧ (yLx R R' n p f h ∧ h p = x)) (fun h => ⟨fun ⟨x, _, h1, _⟩ => h1, fun h1 => ⟨h p, h1.1.2.1 p (by omega), h1, rfl⟩⟩) (yhc_sm (fun x hx => ?_) (fun i j h hij _ h1 h2 => by have := h1.2; have := h2.2; omega))
    by_cases hf' : yLf R R' f p x
    · rw [yif_t hf']
      exact yhc_c (fun h => yLx_s) (ih (p + 1) (by omega) _ (yLpi_s hf hx hf'))
    · rw [yif_f hf']
      exact yhc_0 fun h hh => hf' (yLx_f (by omega) hh.1 hh.2).2
theorem yhc_ne {α : Type} {P : α → Prop} {k : Nat} (h : yhc P k) : k ≠ 0 ↔ ∃ x, P x := by
  obtain ⟨l, h1, h2, h3⟩ := h
  constructor
  · intro hk
    cases l with
    | nil => exact absurd h3.symm hk
    | cons a l => exact ⟨a, (h2 a).mp List.mem_cons_self⟩
  · rintro ⟨x, hx⟩ e
    have := (h2 x).mpr hx
    have e2 : l = [] := List.length_eq_zero_iff.mp (h3.trans e)
    rw [e2] at this
    exact absurd this List.not_mem_nil
/-! a one-to-one map is onto -/
theorem yonto : ∀ (n : Nat) (f : Nat → Nat), (∀ q, q < n → f q < n) → (∀ r q, r < q → q < n → f r ≠ f q) → ∀ t, t < n → ∃ q, q < n ∧ f q = t := by
  intro n
  induction n with
  | zero => intro f _ _ t ht; omega
  | succ n ih =>
    intro f h1 h2 t ht
    have sub := ih (fun q => if f q = n then f n else f q) (fun q hq => by
      have a := h1 q (by omega)
      have b := h1 n (by omega)
      have c := h2 q n hq (by omega)
      by_cases e : f q = n
      · rw [if_pos e]; omega
      · rw [if_neg e]; omega) (fun r q hr hq => by
      have a := h2 r q hr (by omega)
      have b := h2 r n (by omega) (by omega)
      have c := h2 q n (by omega) (by omega)
      by_cases e : f r = n
      · by_cases e' : f q = n
        · omega
        · rw [if_pos e, if_neg e']; omega
      · by_cases e' : f q = n
        · rw [if_neg e, if_pos e']; omega
        · rw [if_neg e, if_neg e']; omega)
    by_cases et : t = f n
    · exact ⟨n, by omega, et.symm⟩
    · by_cases en : t = n
      · have hfn := h1 n (by omega)
        obtain ⟨q, q1, q2⟩ := sub (f n) (by omega)
        by_cases e : f q = n
        · exact ⟨q, by omega, by omega⟩
        · rw [if_neg e] at q2
          exact absurd q2 (h2 q n q1 (by omega))
      · obtain ⟨q, q1, q2⟩ := sub t (by omega)
        by_cases e : f q = n
        · rw [if_pos e] at q2; exact absurd q2.symm et
        · rw [if_neg e] at q2; exact ⟨q, by omega, q2⟩
theorem yiso_ad {R R' : Nat → Nat} {n : Nat} {h : Nat → Nat} (hs : ysy (yad R)) (hs' : ysy (yad R')) (hh : yiso R R' n h) {q r : Nat} (hq : q < n) (hr : r < n) : (yad R q r ↔ yad R' (h q) (h r)) ∧ (h q = h r → q = r) := by
  rcases Nat.lt_trichotomy q r with g | g | g
  · have := hh.2.2 q r g hr
    refine ⟨⟨fun t => hs'.1 _ _ (this.2.mp (hs.1 _ _ t)), fun t => hs.1 _ _ (this.2.mpr (hs'.1 _ _ t))⟩, fun e => absurd e this.1⟩
  · subst g
    exact ⟨⟨fun t => absurd t (hs.2 q), fun t => absurd t (hs'.2 _)⟩, fun _ => rfl⟩
  · have := hh.2.2 r q g hq
    exact ⟨this.2, fun e => absurd e.symm this.1⟩
theorem yis_comp {R R' : Nat → Nat} (hs : ysy (yad R)) (hs' : ysy (yad R')) {n p k : Nat} (hp : p ≤ n) {f g : Nat → Nat} (hg : yLx R R' n p f g) (h : yhc (yLx R R n p fun q => q) k) : yhc (yLx R R' n p f) k := by
  have gi : ∀ t, ∃ q, t < n → q < n ∧ g q = t := fun t => by
    by_cases ht : t < n
    · obtain ⟨q, q1, q2⟩ := yonto n g hg.1.2.1 (fun r q h1 h2 => (hg.1.2.2 r q h1 h2).1) t ht
      exact ⟨q, fun _ => ⟨q1, q2⟩⟩
    · exact ⟨0, fun t => absurd t ht⟩
  let b : Nat → Nat := fun t => Classical.choose (gi t)
  have hb : ∀ t, t < n → b t < n ∧ g (b t) = t := fun t => Classical.choose_spec (gi t)
  have hbg : ∀ q, q < n → b (g q) = q := fun q hq => by
    have := hb (g q) (hg.1.2.1 q hq)
    exact (yiso_ad hs hs' hg.1 this.1 hq).2 this.2
  refine yhc_b (fun h q => if q < n then g (h q) else 0) (fun h q => if q < n then b (h q) else 0) (fun h hh => ?_) (fun h hh => ?_) h
  · refine ⟨⟨⟨fun q hq => if_neg (by omega), fun q hq => ?_, fun r q hr hq => ?_⟩, fun q hq => ?_⟩, funext fun q => ?_⟩
    · dsimp only
      rw [if_pos hq]
      exact hg.1.2.1 _ (hh.1.2.1 q hq)
    · dsimp only
      rw [if_pos hq, if_pos (by omega)]
      have a := hh.1.2.2 r q hr hq
      have ad := yiso_ad hs hs' hg.1 (hh.1.2.1 q hq) (hh.1.2.1 r (by omega))
      exact ⟨fun e => a.1 (ad.2 e.symm).symm, a.2.trans ad.1⟩
    · dsimp only
      rw [if_pos (by omega), hh.2 q hq, hg.2 q hq]
    · dsimp only
      by_cases hq : q < n
      · rw [if_pos hq, if_pos hq, hbg _ (hh.1.2.1 q hq)]
      · rw [if_neg hq, hh.1.1 q (by omega)]
  · refine ⟨⟨⟨fun q hq => if_neg (by omega), fun q hq => ?_, fun r q hr hq => ?_⟩, fun q hq => ?_⟩, funext fun q => ?_⟩
    · dsimp only
      rw [if_pos hq]
      exact (hb _ (hh.1.2.1 q hq)).1
    · dsimp only
      rw [if_pos hq, if_pos (by omega)]
      have a := hh.1.2.2 r q hr hq
      have bq := hb _ (hh.1.2.1 q hq)
      have br := hb _ (hh.1.2.1 r (by omega))
      have ad := yiso_ad hs hs' hg.1 bq.1 br.1
      rw [bq.2, br.2] at ad
      refine ⟨fun e => a.1 ?_, a.2.trans ad.1.symm⟩
      rw [← br.2, e, bq.2]
    · dsimp only
      rw [if_pos (by omega), hh.2 q hq, ← hg.2 q hq]
      exact hbg q (by omega)
    · dsimp only
      by_cases hq : q < n
      · rw [if_pos hq, if_pos hq, (hb _ (hh.1.2.1 q hq)).2]
      · rw [if_neg hq, hh.1.1 q (by omega)]
theorem yLpi_id (R : Nat → Nat) {n p : Nat} (hp : p ≤ n) : yLpi R R n p fun q => q := fun q hq => ⟨by show q < n; omega, fun r hr => ⟨by show r ≠ q; omega, Iff.rfl⟩⟩
def yTp (R : Nat → Nat) (n p x : Nat) : Prop := ∃ h, yLx R R n (p + 1) (yLu (fun q => q) p x) h
noncomputable def yTg (R : Nat → Nat) (n p : Nat) : Nat := yct (yTp R n p) n
theorem yTp_b {R : Nat → Nat} {n p x : Nat} (hp : p < n) (h : yTp R n p x) : p ≤ x ∧ x < n ∧ yLf R R (fun q => q) p x := by
  obtain ⟨h, hh⟩ := h
  have := yLx_s.mp hh
  have t := yLx_f hp this.1 this.2
  refine ⟨?_, t⟩
  rcases Nat.lt_or_ge x p with g | g
  · exact absurd rfl (t.2 x g).1
  · exact g
theorem ysm_ct (P : Nat → Prop) (K : Nat) : ∀ n, ysm (fun x => yif (P x) K 0) n = K * yct P n := by
  intro n
  induction n with
  | zero => rfl
  | succ n ih =>
    rw [ysm_s, yct_s, ih, Nat.mul_add]
    by_cases h : P n
    · rw [yif_t h, yif_t h, Nat.mul_one]
    · rw [yif_f h, yif_f h, Nat.mul_zero]
theorem yIs_T {R : Nat → Nat} (hs : ysy (yad R)) {n p d : Nat} (hp : p + (d + 1) = n) : yIs R R n (d + 1) p (fun q => q) = yTg R n p * yIs R R n d (p + 1) (fun q => q) := by
  have e : yIs R R n (d + 1) p (fun q => q) = ysm (fun x => yif (yLf R R (fun q => q) p x) (yIs R R n d (p + 1) (yLu (fun q => q) p x)) 0) n := rfl
  unfold yTg
  rw [e, Nat.mul_comm, ← ysm_ct]
  apply ysm_c
  intro x hx
  by_cases hT : yTp R n p x
  · have b := yTp_b (by omega) hT
    have hT2 := hT
    obtain ⟨g, hg⟩ := hT
    rw [yif_t hT2, yif_t b.2.2]
    have base := yIs_h (R := R) (R' := R) (n := n) d (p + 1) (by omega) (fun q => q) (yLpi_id R (by omega))
    exact yhc_u (yIs_h d (p + 1) (by omega) _ (yLpi_s (yLpi_id R (by omega)) hx b.2.2)) (yis_comp hs hs (by omega) hg base)
  · rw [yif_f hT]
    by_cases hf : yLf R R (fun q => q) p x
    · rw [yif_t hf]
      refine Classical.byContradiction fun hne => hT ?_
      exact (yhc_ne (yIs_h d (p + 1) (by omega) _ (yLpi_s (yLpi_id R (by omega)) hx hf))).mp hne
    · rw [yif_f hf]
theorem yIs_Tp {R : Nat → Nat} (hs : ysy (yad R)) {n : Nat} : ∀ (d p : Nat), p + d = n → ypr (yTg R n) p * yIs R R n d p (fun q => q) = yIs R R n n 0 (fun q => q) → ypr (yTg R n) n = yIs R R n n 0 (fun q => q) := by
  intro d
  induction d with
  | zero =>
    intro p hp h
    have e : p = n := by omega
    subst e
    rw [← h]
    exact (Nat.mul_one _).symm
  | succ d ih =>
    intro p hp h
    refine ih (p + 1) (by omega) ?_
    rw [← h, yIs_T hs hp, ypr_s, Nat.mul_assoc]
theorem yIs_pr {R : Nat → Nat} (hs : ysy (yad R)) (n : Nat) : ypr (yTg R n) n = yIs R R n n 0 (fun q => q) := yIs_Tp hs n 0 (Nat.zero_add n) (Nat.one_mul _)
/-- how many ways to send R to R' -/
noncomputable def yLk (R R' : Nat → Nat) (n : Nat) : Nat := yIs R R' n n 0 (fun _ => 0)
def yCan (R R' : Nat → Nat) (n p : Nat) (f : Nat → Nat) : Prop := ∃ h, yLx R R' n p f h
theorem yLk_e {R R' : Nat → Nat} (hs : ysy (yad R)) (hs' : ysy (yad R')) {n : Nat} : yLk R R' n = yif (yCan R R' n 0 fun _ => 0) (ypr (yTg R n) n) 0 := by
  have p0 : ∀ (f : Nat → Nat) (Q : Nat → Nat), yLpi R Q n 0 f := fun f Q q hq => absurd hq (Nat.not_lt_zero q)
  by_cases h : yCan R R' n 0 fun _ => 0
  · rw [yif_t h, yIs_pr hs n]
    obtain ⟨g, hg⟩ := h
    exact yhc_u (yIs_h n 0 (Nat.zero_add n) _ (p0 _ _)) (yis_comp hs hs' (Nat.zero_le n) hg (yIs_h n 0 (Nat.zero_add n) _ (p0 _ _)))
  · rw [yif_f h]
    exact Classical.byContradiction fun hne => h ((yhc_ne (yIs_h n 0 (Nat.zero_add n) _ (p0 _ _))).mp hne)
theorem yLk_s {R : Nat → Nat} (hs : ysy (yad R)) (n : Nat) : yLk R R n = ypr (yTg R n) n := by
  rw [yLk_e hs hs, yif_t ⟨fun q => if q < n then q else 0, ⟨⟨fun q hq => if_neg (by omega), fun q hq => by dsimp only; rw [if_pos hq]; exact hq, fun r q hr hq => by
    dsimp only
    rw [if_pos hq, if_pos (by omega)]
    exact ⟨by omega, Iff.rfl⟩⟩, fun q hq => absurd hq (Nat.not_lt_zero q)⟩⟩]
theorem yCan_s {R R' : Nat → Nat} {n p : Nat} {f : Nat → Nat} (hp : p < n) : yCan R R' n p f ↔ ∃ x, x < n ∧ yLf R R' f p x ∧ yCan R R' n (p + 1) (yLu f p x) := by
  constructor
  · rintro ⟨h, hh⟩
    exact ⟨h p, (yLx_f hp hh rfl).1, (yLx_f hp hh rfl).2, h, yLx_s.mpr ⟨hh, rfl⟩⟩
  · rintro ⟨x, _, _, h, hh⟩
    exact ⟨h, (yLx_s.mp hh).1⟩
/-! the class -/
theorem s_fits {R R' : Nat → Nat} {n v : Nat} (hG : yGr n R) (hG' : yGr n R') (hv : xkd v = (1, 8)) (hv2 : Nat.beq v 1999 = false) {m : xmm} (hR : yrw 11 R m) (hR' : yrw v R' m) {p x : Nat} (hp : p < n) (hx : x < n) {f : Nat → Nat} (hf : ∀ q, q < p → m.1 137 q = nI (f q) ∧ f q < n) : ∀ (d q : Nat), q + d = p → bX8_fits_3 11 v 137 (nI p) (nI x) (nI q) m = some (yP (∀ r, q ≤ r → r < p → (yad R p r ↔ yad R' x (f r))), m) := by
  have hn := hG.1
  have n11 : Nat.beq 11 1999 = false := rfl
  have n137 : Nat.beq 137 1999 = false := rfl
  have rp := yGr_8 hG p
  have rx := yGr_8 hG' x
  intro d
  induction d with
  | zero =>
    intro q hq
    have e : q = p := by omega
    subst e
    rw [yP_t yal_e]
    apply bX8_fits_3_i
    simp (disch := omega) only [yl3, yl4, yl5, yl6, yl7, yl8, yl9, yl10, yl13, yl16, yl20, yl21, yl22, yl23, yl24, yl32, yl40, yl48, yl57, yl59, yl63, yl64, yl97, yl99, yl122, yl255, yl256, yl400, yl1000, yl2000, yl2048, yc0_eq, yc0_eq2, yc0_le, yc0_ge, yc0_lt, yc0_gt, yc0_ad, yc0_da, yc0_sb, yc0_ml, yc0_lm, yc1_eq, yc1_eq2, yc1_le, yc1_ge, yc1_lt, yc1_gt, yc1_ad, yc1_da, yc1_sb, yc1_ml, yc1_lm, yc2_eq, yc2_eq2, yc2_le, yc2_ge, yc2_lt, yc2_gt, yc2_ad, yc2_da, yc2_sb, yc2_ml, yc2_lm, yc31_ge, ymodn, yI_1sl, yc2_dv, yn1_eq, yn1_lt, xgd_t, xlt_e, Option.bind_some, nI_add, pk_mul, pk_sub, pk_div, pk_rem, yI_and, yI_or, yI_xor, yI_nd, yI_nd2, yI_31, yI_shl, nI_leI, nI_ltI, nI_eq, nI_clamp, xinb_t, yP_z, yP_if, if_pos]
  | succ d ih =>
    intro q hq
    have e := ih (q + 1) (by omega)
    rw [yP_c (yal_s (P := fun r => yad R p r ↔ yad R' x (f r)) (by omega : q < p))]
    obtain ⟨f1, f2⟩ := hf q (by omega)
    have i11 : xia 1 11 (nI p) = true := xia_t (n := 8) rfl (by omega) (by decide)
    have iv : xia 1 v (nI x) = true := xia_t (n := 8) hv (by omega) (by decide)
    have i137 : xia 1 137 (nI q) = true := xia_t (n := 8) rfl (by omega) (by decide)
    have c1 := s_contains (S := R p) (k := q) (by omega) (by omega) m
    have c2 := s_contains (S := R' x) (k := f q) (by omega) (by omega) m
    apply bX8_fits_3_i
    by_cases hb : yad R p q ↔ yad R' x (f q)
    · have same : yP ((R p).testBit q = true) = yP ((R' x).testBit (f q) = true) := yP_eq.mpr hb
      simp (disch := omega) only [yl3, yl4, yl5, yl6, yl7, yl8, yl9, yl10, yl13, yl16, yl20, yl21, yl22, yl23, yl24, yl32, yl40, yl48, yl57, yl59, yl63, yl64, yl97, yl99, yl122, yl255, yl256, yl400, yl1000, yl2000, yl2048, yc0_eq, yc0_eq2, yc0_le, yc0_ge, yc0_lt, yc0_gt, yc0_ad, yc0_da, yc0_sb, yc0_ml, yc0_lm, yc1_eq, yc1_eq2, yc1_le, yc1_ge, yc1_lt, yc1_gt, yc1_ad, yc1_da, yc1_sb, yc1_ml, yc1_lm, yc2_eq, yc2_eq2, yc2_le, yc2_ge, yc2_lt, yc2_gt, yc2_ad, yc2_da, yc2_sb, yc2_ml, yc2_lm, yc31_ge, ymodn, yI_1sl, yc2_dv, yn1_eq, yn1_lt, xgd_t, xlt_e, Option.bind_some, nI_add, pk_mul, pk_sub, pk_div, pk_rem, yI_and, yI_or, yI_xor, yI_nd, yI_nd2, yI_31, yI_shl, nI_leI, nI_ltI, nI_eq, nI_clamp, xinb_t, yP_z, yP_if, if_neg, n11, n137, hv2, Bool.not_false, i11, iv, i137, hR p (by omega), hR' x (by omega), f1, c1, c2, if_pos same]
      rw [e]
      exact yPm ⟨fun g => ⟨hb, g⟩, fun g => g.2⟩ m
    · have same : ¬ yP ((R p).testBit q = true) = yP ((R' x).testBit (f q) = true) := fun t => hb (yP_eq.mp t)
      simp (disch := omega) only [yl3, yl4, yl5, yl6, yl7, yl8, yl9, yl10, yl13, yl16, yl20, yl21, yl22, yl23, yl24, yl32, yl40, yl48, yl57, yl59, yl63, yl64, yl97, yl99, yl122, yl255, yl256, yl400, yl1000, yl2000, yl2048, yc0_eq, yc0_eq2, yc0_le, yc0_ge, yc0_lt, yc0_gt, yc0_ad, yc0_da, yc0_sb, yc0_ml, yc0_lm, yc1_eq, yc1_eq2, yc1_le, yc1_ge, yc1_lt, yc1_gt, yc1_ad, yc1_da, yc1_sb, yc1_ml, yc1_lm, yc2_eq, yc2_eq2, yc2_le, yc2_ge, yc2_lt, yc2_gt, yc2_ad, yc2_da, yc2_sb, yc2_ml, yc2_lm, yc31_ge, ymodn, yI_1sl, yc2_dv, yn1_eq, yn1_lt, xgd_t, xlt_e, Option.bind_some, nI_add, pk_mul, pk_sub, pk_div, pk_rem, yI_and, yI_or, yI_xor, yI_nd, yI_nd2, yI_31, yI_shl, nI_leI, nI_ltI, nI_eq, nI_clamp, xinb_t, yP_z, yP_if, if_neg, n11, n137, hv2, Bool.not_false, i11, iv, i137, hR p (by omega), hR' x (by omega), f1, c1, c2, if_neg same]
      rw [yP_f (fun g => hb g.1)]
theorem xcg_96 {a b c k : Nat} {x y x' y' : Int32} (hk : k < 8) : xcg 96 (xrk 96 [.ref a, .ref b, .ref c, .int (nI k), .int x, .int y]) 96 [.ref a, .ref b, .ref c, .int (nI (k + 1)), .int x', .int y'] [] = true ∧ xcg 96 (xrk 96 [.ref a, .ref b, .ref c, .int (nI k), .int x, .int y]) 146 [.int x', .int y'] [] = true ∧ xcg 96 (xrk 96 [.ref a, .ref b, .ref c, .int (nI k), .int x, .int y]) 95 [.ref a, .ref b, .ref c, .int (nI k), .int y'] [] = true := by
  have e1 : xrk 96 [.ref a, .ref b, .ref c, .int (nI k), .int x, .int y] = 2 + (8 - (nI k).toNatClampNeg) := rfl
  have e2 : xrk 96 [.ref a, .ref b, .ref c, .int (nI (k + 1)), .int x', .int y'] = 2 + (8 - (nI (k + 1)).toNatClampNeg) := rfl
  rw [e1, nI_clamp (by omega)]
  have e3 : 2 + (8 - k) = 3 + (7 - k) := by omega
  refine ⟨?_, ?_, ?_⟩
  · unfold xcg
    rw [e2, nI_clamp (by omega)]
    simp only [Bool.and_eq_true]
    refine ⟨⟨⟨⟨⟨⟨Nat.blt_eq.mpr (by omega), rfl⟩, rfl⟩, rfl⟩, ?_⟩, rfl⟩, rfl⟩
    rfl
  · unfold xcg
    simp only [Bool.and_eq_true]
    refine ⟨⟨⟨⟨⟨⟨Nat.blt_eq.mpr ?_, rfl⟩, rfl⟩, rfl⟩, ?_⟩, rfl⟩, rfl⟩
    · have : xrk 146 [.int x', .int y'] ≤ 2 := Nat.le_of_ble_eq_true rfl
      omega
    · rfl
  · unfold xcg
    simp only [Bool.and_eq_true]
    refine ⟨⟨⟨⟨⟨⟨Nat.blt_eq.mpr ?_, rfl⟩, rfl⟩, rfl⟩, ?_⟩, rfl⟩, rfl⟩
    · have : xrk 95 [.ref a, .ref b, .ref c, .int (nI k), .int y'] ≤ 2 := Nat.le_of_ble_eq_true rfl
      omega
    · rfl
theorem xcg_93 {b : Nat} {x y : Int32} : xcg 93 13 96 [.ref 11, .ref b, .ref 137, .int (nI 0), .int x, .int y] [] = true := by
  have e2 : xrk 96 [.ref 11, .ref b, .ref 137, .int (nI 0), .int x, .int y] = 2 + (8 - (nI 0).toNatClampNeg) := rfl
  unfold xcg
  rw [e2, nI_clamp (by omega)]
  rfl
theorem xcg_94 {k : Nat} {x y w : Int32} (hk : k < 2 ^ 31) : xcg 94 12 96 [.ref 11, .ref 11, .ref 137, .int (nI k), .int x, .int y] [.int w] = true := by
  have e2 : xrk 96 [.ref 11, .ref 11, .ref 137, .int (nI k), .int x, .int y] = 2 + (8 - (nI k).toNatClampNeg) := rfl
  unfold xcg
  rw [e2, nI_clamp hk]
  simp only [Bool.and_eq_true]
  refine ⟨⟨⟨⟨⟨⟨Nat.blt_eq.mpr (by omega), rfl⟩, rfl⟩, rfl⟩, ?_⟩, rfl⟩, rfl⟩
  rfl
theorem s_canSend {R R' : Nat → Nat} {n v : Nat} (hG : yGr n R) (hG' : yGr n R') (hv : xkd v = (1, 8)) (hv2 : Nat.beq v 1999 = false) (hv3 : v ≠ 137) : ∀ (d p : Nat), p + d = n → ∀ (f : Nat → Nat) (used : Nat) (m : xmm), yrw 11 R m → yrw v R' m → (∀ q, q < p → m.1 137 q = nI (f q)) → yLpi R R' n p f → used < 256 → (∀ x, yb used x ↔ ∃ q, q < p ∧ f q = x) → ∃ m', fX8_canSend 11 v 137 (nI p) (nI n) (nI used) m = some (yP (yCan R R' n p f), m') ∧ (∀ q, q < p → m'.1 137 q = m.1 137 q) ∧ yfr [137] m m' := by
  have hn := hG.1
  have n11 : Nat.beq 11 1999 = false := rfl
  have n137 : Nat.beq 137 1999 = false := rfl
  have vL : v ∉ [137] := fun h => hv3 (List.mem_singleton.mp h)
  intro d
  induction d with
  | zero =>
    intro p hp f used m hR hR' h1 h2 h3 h4
    have e : p = n := by omega
    subst e
    have ok : yCan R R' p p f := (yhc_ne (yIs_h 0 p rfl f h2)).mp Nat.one_ne_zero
    refine ⟨m, ?_, fun _ _ => rfl, yfr_r⟩
    rw [yP_t ok]
    apply fX8_canSend_i
    simp (disch := omega) only [yl3, yl4, yl5, yl6, yl7, yl8, yl9, yl10, yl13, yl16, yl20, yl21, yl22, yl23, yl24, yl32, yl40, yl48, yl57, yl59, yl63, yl64, yl97, yl99, yl122, yl255, yl256, yl400, yl1000, yl2000, yl2048, yc0_eq, yc0_eq2, yc0_le, yc0_ge, yc0_lt, yc0_gt, yc0_ad, yc0_da, yc0_sb, yc0_ml, yc0_lm, yc1_eq, yc1_eq2, yc1_le, yc1_ge, yc1_lt, yc1_gt, yc1_ad, yc1_da, yc1_sb, yc1_ml, yc1_lm, yc2_eq, yc2_eq2, yc2_le, yc2_ge, yc2_lt, yc2_gt, yc2_ad, yc2_da, yc2_sb, yc2_ml, yc2_lm, yc31_ge, ymodn, yI_1sl, yc2_dv, yn1_eq, yn1_lt, xgd_t, xlt_e, Option.bind_some, nI_add, pk_mul, pk_sub, pk_div, pk_rem, yI_and, yI_or, yI_xor, yI_nd, yI_nd2, yI_31, yI_shl, nI_leI, nI_ltI, nI_eq, nI_clamp, xinb_t, yP_z, yP_if, if_pos]
  | succ d ih =>
    intro p hp f used m hR hR' h1 h2 h3 h4
    have hpn : p < n := by omega
    have loop : ∀ (e x : Nat), x + e = n → ∀ (m0 : xmm), yrw 11 R m0 → yrw v R' m0 → (∀ q, q < p → m0.1 137 q = nI (f q)) → (∀ y, y < x → ¬ (yLf R R' f p y ∧ yCan R R' n (p + 1) (yLu f p y))) → ∃ m', bX8_canSend_17 (xrk 96 [.ref 11, .ref v, .ref 137, .int (nI p), .int (nI n), .int (nI used)]) 11 v 137 (nI p) (nI n) (nI used) (nI x) m0 = some (yP (yCan R R' n p f), m') ∧ (∀ q, q < p → m'.1 137 q = m0.1 137 q) ∧ yfr [137] m0 m' := by
      intro e
      induction e with
      | zero =>
        intro x hx m0 gR gR' g1 g2
        have ex : x = n := by omega
        subst ex
        have no : ¬ yCan R R' x p f := fun t => by
          obtain ⟨y, y1, y2, y3⟩ := (yCan_s hpn).mp t
          exact g2 y y1 ⟨y2, y3⟩
        refine ⟨m0, ?_, fun _ _ => rfl, yfr_r⟩
        rw [yP_f no]
        apply bX8_canSend_17_i
        simp (disch := omega) only [yl3, yl4, yl5, yl6, yl7, yl8, yl9, yl10, yl13, yl16, yl20, yl21, yl22, yl23, yl24, yl32, yl40, yl48, yl57, yl59, yl63, yl64, yl97, yl99, yl122, yl255, yl256, yl400, yl1000, yl2000, yl2048, yc0_eq, yc0_eq2, yc0_le, yc0_ge, yc0_lt, yc0_gt, yc0_ad, yc0_da, yc0_sb, yc0_ml, yc0_lm, yc1_eq, yc1_eq2, yc1_le, yc1_ge, yc1_lt, yc1_gt, yc1_ad, yc1_da, yc1_sb, yc1_ml, yc1_lm, yc2_eq, yc2_eq2, yc2_le, yc2_ge, yc2_lt, yc2_gt, yc2_ad, yc2_da, yc2_sb, yc2_ml, yc2_lm, yc31_ge, ymodn, yI_1sl, yc2_dv, yn1_eq, yn1_lt, xgd_t, xlt_e, Option.bind_some, nI_add, pk_mul, pk_sub, pk_div, pk_rem, yI_and, yI_or, yI_xor, yI_nd, yI_nd2, yI_31, yI_shl, nI_leI, nI_ltI, nI_eq, nI_clamp, xinb_t, yP_z, yP_if, if_pos]
      | succ e ihe =>
        intro x hx m0 gR gR' g1 g2
        have hxn : x < n := by omega
        obtain ⟨cg1, cg2, cg3⟩ := xcg_96 (a := 11) (b := v) (c := 137) (x := nI n) (y := nI used) (x' := nI used) (y' := nI x) (show p < 8 by omega)
        have cn := s_contains (S := used) (k := x) (by omega) (by omega) m0
        have next : ∀ (m1 : xmm), yfr [137] m0 m1 → (∀ q, q < p → m1.1 137 q = m0.1 137 q) → ¬ (yLf R R' f p x ∧ yCan R R' n (p + 1) (yLu f p x)) → ∃ m', bX8_canSend_17 (xrk 96 [.ref 11, .ref v, .ref 137, .int (nI p), .int (nI n), .int (nI used)]) 11 v 137 (nI p) (nI n) (nI used) (nI (x + 1)) m1 = some (yP (yCan R R' n p f), m') ∧ (∀ q, q < p → m'.1 137 q = m0.1 137 q) ∧ yfr [137] m0 m' := by
          intro m1 k1 k2 k3
          obtain ⟨m', a1, a2, a3⟩ := ihe (x + 1) (by omega) m1 (fun q hq => by rw [yfr_1 k1 11 q (by decide)]; exact gR q hq) (fun q hq => by rw [yfr_1 k1 v q vL]; exact gR' q hq) (fun q hq => by rw [k2 q hq]; exact g1 q hq) (fun y hy => by
            by_cases ey : y = x
            · subst ey; exact k3
            · exact g2 y (by omega))
          exact ⟨m', a1, fun q hq => by rw [a2 q hq, k2 q hq], yfr_t k1 a3⟩
        by_cases hu : yb used x
        · obtain ⟨m', a1, a2, a3⟩ := next m0 yfr_r (fun _ _ => rfl) (fun t => by
            obtain ⟨q, q1, q2⟩ := (h4 x).mp hu
            exact (t.1 q q1).1 q2)
          refine ⟨m', ?_, a2, a3⟩
          apply bX8_canSend_17_i
          simp (disch := omega) only [yl3, yl4, yl5, yl6, yl7, yl8, yl9, yl10, yl13, yl16, yl20, yl21, yl22, yl23, yl24, yl32, yl40, yl48, yl57, yl59, yl63, yl64, yl97, yl99, yl122, yl255, yl256, yl400, yl1000, yl2000, yl2048, yc0_eq, yc0_eq2, yc0_le, yc0_ge, yc0_lt, yc0_gt, yc0_ad, yc0_da, yc0_sb, yc0_ml, yc0_lm, yc1_eq, yc1_eq2, yc1_le, yc1_ge, yc1_lt, yc1_gt, yc1_ad, yc1_da, yc1_sb, yc1_ml, yc1_lm, yc2_eq, yc2_eq2, yc2_le, yc2_ge, yc2_lt, yc2_gt, yc2_ad, yc2_da, yc2_sb, yc2_ml, yc2_lm, yc31_ge, ymodn, yI_1sl, yc2_dv, yn1_eq, yn1_lt, xgd_t, xlt_e, Option.bind_some, nI_add, pk_mul, pk_sub, pk_div, pk_rem, yI_and, yI_or, yI_xor, yI_nd, yI_nd2, yI_31, yI_shl, nI_leI, nI_ltI, nI_eq, nI_clamp, xinb_t, yP_z, yP_if, if_neg, cg2, cn, yif_t hu]
          exact a1
        · have fit : fX8_fits 11 v 137 (nI p) (nI x) m0 = some (yP (∀ r, r < p → (yad R p r ↔ yad R' x (f r))), m0) := by
            apply fX8_fits_i
            rw [← yP_c yal_0]
            exact s_fits hG hG' hv hv2 gR gR' hpn hxn (fun q hq => ⟨g1 q hq, (h2 q hq).1⟩) p 0 (Nat.zero_add p)
          have fl : yLf R R' f p x ↔ ∀ r, r < p → (yad R p r ↔ yad R' x (f r)) := ⟨fun t r hr => (t r hr).2, fun t r hr => ⟨fun e => hu ((h4 x).mpr ⟨r, hr, e⟩), t r hr⟩⟩
          by_cases hf : ∀ r, r < p → (yad R p r ↔ yad R' x (f r))
          · have i137 : xia 1 137 (nI p) = true := xia_t (n := 8) rfl (by omega) (by decide)
            have fr : yfr [137] m0 (xwi m0 137 p (nI x)) := yfr_w yfr_r (by decide)
            obtain ⟨m1, b1, b2, b3⟩ := ih (p + 1) (by omega) (yLu f p x) (used ||| 2 ^ x) _ (fun q hq => by rw [yfr_1 fr 11 q (by decide)]; exact gR q hq) (fun q hq => by rw [yfr_1 fr v q vL]; exact gR' q hq) (fun q hq => by
              by_cases eq : q = p
              · subst eq; rw [xwi_e, yLu_e]
              · rw [xwi_i eq, yLu_n eq]; exact g1 q (by omega)) (yLpi_s h2 hxn (fl.mpr hf)) (Nat.or_lt_two_pow (n := 8) h3 (Nat.pow_lt_pow_right (by decide : 1 < 2) (by omega : x < 8))) (fun y => by
              rw [yb_or, yb_pw, h4 y]
              constructor
              · rintro (⟨q, q1, q2⟩ | e)
                · exact ⟨q, by omega, by rw [yLu_n (by omega)]; exact q2⟩
                · exact ⟨p, by omega, by rw [yLu_e]; exact e.symm⟩
              · rintro ⟨q, q1, q2⟩
                by_cases eq : q = p
                · subst eq; rw [yLu_e] at q2; exact Or.inr q2.symm
                · rw [yLu_n eq] at q2; exact Or.inl ⟨q, by omega, q2⟩)
            have low : ∀ q, q < p → m1.1 137 q = m0.1 137 q := fun q hq => by rw [b2 q (by omega), xwi_i (by omega)]
            have fr1 : yfr [137] m0 m1 := yfr_t fr b3
            by_cases hc : yCan R R' n (p + 1) (yLu f p x)
            · have yes : yCan R R' n p f := (yCan_s hpn).mpr ⟨x, hxn, fl.mpr hf, hc⟩
              refine ⟨m1, ?_, low, fr1⟩
              rw [yP_t yes]
              rw [yP_t hc] at b1
              have n1 : ¬ (1 : Int32) = 0 := by decide
              apply bX8_canSend_17_i
              obtain ⟨cg1', _⟩ := xcg_96 (a := 11) (b := v) (c := 137) (x := nI n) (y := nI used) (x' := nI n) (y' := nI (used ||| 2 ^ x)) (show p < 8 by omega)
              simp (disch := omega) only [yl3, yl4, yl5, yl6, yl7, yl8, yl9, yl10, yl13, yl16, yl20, yl21, yl22, yl23, yl24, yl32, yl40, yl48, yl57, yl59, yl63, yl64, yl97, yl99, yl122, yl255, yl256, yl400, yl1000, yl2000, yl2048, yc0_eq, yc0_eq2, yc0_le, yc0_ge, yc0_lt, yc0_gt, yc0_ad, yc0_da, yc0_sb, yc0_ml, yc0_lm, yc1_eq, yc1_eq2, yc1_le, yc1_ge, yc1_lt, yc1_gt, yc1_ad, yc1_da, yc1_sb, yc1_ml, yc1_lm, yc2_eq, yc2_eq2, yc2_le, yc2_ge, yc2_lt, yc2_gt, yc2_ad, yc2_da, yc2_sb, yc2_ml, yc2_lm, yc31_ge, ymodn, yI_1sl, yc2_dv, yn1_eq, yn1_lt, xgd_t, xlt_e, Option.bind_some, nI_add, pk_mul, pk_sub, pk_div, pk_rem, yI_and, yI_or, yI_xor, yI_nd, yI_nd2, yI_31, yI_shl, nI_leI, nI_ltI, nI_eq, nI_clamp, xinb_t, yP_z, yP_if, if_neg, cg2, cn, yif_f hu, n11, n137, hv2, Bool.not_false, cg3, fit, yif_t hf, i137, cg1', b1, n1, if_false]
            · obtain ⟨m', a1, a2, a3⟩ := next m1 fr1 low (fun t => hc t.2)
              refine ⟨m', ?_, a2, a3⟩
              rw [yP_f hc] at b1
              apply bX8_canSend_17_i
              obtain ⟨cg1', _⟩ := xcg_96 (a := 11) (b := v) (c := 137) (x := nI n) (y := nI used) (x' := nI n) (y' := nI (used ||| 2 ^ x)) (show p < 8 by omega)
              simp (disch := omega) only [yl3, yl4, yl5, yl6, yl7, yl8, yl9, yl10, yl13, yl16, yl20, yl21, yl22, yl23, yl24, yl32, yl40, yl48, yl57, yl59, yl63, yl64, yl97, yl99, yl122, yl255, yl256, yl400, yl1000, yl2000, yl2048, yc0_eq, yc0_eq2, yc0_le, yc0_ge, yc0_lt, yc0_gt, yc0_ad, yc0_da, yc0_sb, yc0_ml, yc0_lm, yc1_eq, yc1_eq2, yc1_le, yc1_ge, yc1_lt, yc1_gt, yc1_ad, yc1_da, yc1_sb, yc1_ml, yc1_lm, yc2_eq, yc2_eq2, yc2_le, yc2_ge, yc2_lt, yc2_gt, yc2_ad, yc2_da, yc2_sb, yc2_ml, yc2_lm, yc31_ge, ymodn, yI_1sl, yc2_dv, yn1_eq, yn1_lt, xgd_t, xlt_e, Option.bind_some, nI_add, pk_mul, pk_sub, pk_div, pk_rem, yI_and, yI_or, yI_xor, yI_nd, yI_nd2, yI_31, yI_shl, nI_leI, nI_ltI, nI_eq, nI_clamp, xinb_t, yP_z, yP_if, if_neg, cg2, cn, yif_f hu, n11, n137, hv2, Bool.not_false, cg3, fit, yif_t hf, i137, cg1', b1, if_true]
              exact a1
          · obtain ⟨m', a1, a2, a3⟩ := next m0 yfr_r (fun _ _ => rfl) (fun t => hf (fl.mp t.1))
            refine ⟨m', ?_, a2, a3⟩
            apply bX8_canSend_17_i
            simp (disch := omega) only [yl3, yl4, yl5, yl6, yl7, yl8, yl9, yl10, yl13, yl16, yl20, yl21, yl22, yl23, yl24, yl32, yl40, yl48, yl57, yl59, yl63, yl64, yl97, yl99, yl122, yl255, yl256, yl400, yl1000, yl2000, yl2048, yc0_eq, yc0_eq2, yc0_le, yc0_ge, yc0_lt, yc0_gt, yc0_ad, yc0_da, yc0_sb, yc0_ml, yc0_lm, yc1_eq, yc1_eq2, yc1_le, yc1_ge, yc1_lt, yc1_gt, yc1_ad, yc1_da, yc1_sb, yc1_ml, yc1_lm, yc2_eq, yc2_eq2, yc2_le, yc2_ge, yc2_lt, yc2_gt, yc2_ad, yc2_da, yc2_sb, yc2_ml, yc2_lm, yc31_ge, ymodn, yI_1sl, yc2_dv, yn1_eq, yn1_lt, xgd_t, xlt_e, Option.bind_some, nI_add, pk_mul, pk_sub, pk_div, pk_rem, yI_and, yI_or, yI_xor, yI_nd, yI_nd2, yI_31, yI_shl, nI_leI, nI_ltI, nI_eq, nI_clamp, xinb_t, yP_z, yP_if, if_neg, cg2, cn, yif_f hu, n11, n137, hv2, Bool.not_false, cg3, fit, yif_f hf]
            exact a1
    obtain ⟨m', a1, a2, a3⟩ := loop n 0 (Nat.zero_add n) m hR hR' h1 (fun y hy => absurd hy (Nat.not_lt_zero y))
    refine ⟨m', ?_, a2, a3⟩
    apply fX8_canSend_i
    simp (disch := omega) only [yl3, yl4, yl5, yl6, yl7, yl8, yl9, yl10, yl13, yl16, yl20, yl21, yl22, yl23, yl24, yl32, yl40, yl48, yl57, yl59, yl63, yl64, yl97, yl99, yl122, yl255, yl256, yl400, yl1000, yl2000, yl2048, yc0_eq, yc0_eq2, yc0_le, yc0_ge, yc0_lt, yc0_gt, yc0_ad, yc0_da, yc0_sb, yc0_ml, yc0_lm, yc1_eq, yc1_eq2, yc1_le, yc1_ge, yc1_lt, yc1_gt, yc1_ad, yc1_da, yc1_sb, yc1_ml, yc1_lm, yc2_eq, yc2_eq2, yc2_le, yc2_ge, yc2_lt, yc2_gt, yc2_ad, yc2_da, yc2_sb, yc2_ml, yc2_lm, yc31_ge, ymodn, yI_1sl, yc2_dv, yn1_eq, yn1_lt, xgd_t, xlt_e, Option.bind_some, nI_add, pk_mul, pk_sub, pk_div, pk_rem, yI_and, yI_or, yI_xor, yI_nd, yI_nd2, yI_31, yI_shl, nI_leI, nI_ltI, nI_eq, nI_clamp, xinb_t, yP_z, yP_if, if_neg, if_pos]
    exact a1
theorem s_wti_26 {R : Nat → Nat} {n : Nat} (hG : yGr n R) {p : Nat} (hp : p < n) (acc : Nat) : ∀ (e x : Nat), x + e = n → p ≤ x → ∀ (m : xmm), yrw 11 R m → (∀ q, q < p → m.1 137 q = nI q) → ∃ m', (∀ {z : Int32 × xmm}, bX8_waysToItself_136_5 11 (nI n) (nI (acc * yTg R n p)) (nI (p + 1)) m' = some z → bX8_waysToItself_136_26 11 (nI n) (nI acc) (nI p) (nI (yct (yTp R n p) x)) (nI (2 ^ p - 1)) (nI x) m = some z) ∧ (∀ q, q < p + 1 → m'.1 137 q = nI q) ∧ yfr [137] m m' := by
  have hn := hG.1
  have n11 : Nat.beq 11 1999 = false := rfl
  intro e
  induction e with
  | zero =>
    intro x hx hpx m hR h1
    have ex : x = n := by omega
    subst ex
    refine ⟨xwi m 137 p (nI p), fun {z} hz => ?_, fun q hq => ?_, yfr_w yfr_r (by decide)⟩
    · apply bX8_waysToItself_136_26_i
      simp (disch := omega) only [yl3, yl4, yl5, yl6, yl7, yl8, yl9, yl10, yl13, yl16, yl20, yl21, yl22, yl23, yl24, yl32, yl40, yl48, yl57, yl59, yl63, yl64, yl97, yl99, yl122, yl255, yl256, yl400, yl1000, yl2000, yl2048, yc0_eq, yc0_eq2, yc0_le, yc0_ge, yc0_lt, yc0_gt, yc0_ad, yc0_da, yc0_sb, yc0_ml, yc0_lm, yc1_eq, yc1_eq2, yc1_le, yc1_ge, yc1_lt, yc1_gt, yc1_ad, yc1_da, yc1_sb, yc1_ml, yc1_lm, yc2_eq, yc2_eq2, yc2_le, yc2_ge, yc2_lt, yc2_gt, yc2_ad, yc2_da, yc2_sb, yc2_ml, yc2_lm, yc31_ge, ymodn, yI_1sl, yc2_dv, yn1_eq, yn1_lt, xgd_t, xlt_e, Option.bind_some, nI_add, pk_mul, pk_sub, pk_div, pk_rem, yI_and, yI_or, yI_xor, yI_nd, yI_nd2, yI_31, yI_shl, nI_leI, nI_ltI, nI_eq, nI_clamp, xinb_t, yP_z, yP_if, if_pos]
      exact hz
    · by_cases eq : q = p
      · subst eq; rw [xwi_e]
      · rw [xwi_i eq]; exact h1 q (by omega)
  | succ e ih =>
    intro x hx hpx m hR h1
    have hxn : x < n := by omega
    have fit : fX8_fits 11 11 137 (nI p) (nI x) m = some (yP (∀ r, r < p → (yad R p r ↔ yad R x r)), m) := by
      apply fX8_fits_i
      rw [← yP_c yal_0]
      exact s_fits hG hG rfl n11 hR hR hp hxn (f := fun q => q) (fun q hq => ⟨h1 q hq, by show q < n; omega⟩) p 0 (Nat.zero_add p)
    by_cases hf : ∀ r, r < p → (yad R p r ↔ yad R x r)
    · have fl : yLf R R (fun q => q) p x := fun r hr => ⟨by show r ≠ x; omega, hf r hr⟩
      have fr : yfr [137] m (xwi m 137 p (nI x)) := yfr_w yfr_r (by decide)
      have b8 : 2 ^ p - 1 < 256 := by
        have := y2p8 (show p ≤ 8 by omega)
        omega
      obtain ⟨m1, b1, b2, b3⟩ := s_canSend hG hG (v := 11) rfl n11 (by decide) (n - (p + 1)) (p + 1) (by omega) (yLu (fun q => q) p x) ((2 ^ p - 1) ||| 2 ^ x) _ (fun q hq => by rw [yfr_1 fr 11 q (by decide)]; exact hR q hq) (fun q hq => by rw [yfr_1 fr 11 q (by decide)]; exact hR q hq) (fun q hq => by
        by_cases eq : q = p
        · subst eq; rw [xwi_e, yLu_e]
        · rw [xwi_i eq, yLu_n eq]; exact h1 q (by omega)) (yLpi_s (yLpi_id R (by omega)) hxn fl) (Nat.or_lt_two_pow (n := 8) b8 (Nat.pow_lt_pow_right (by decide : 1 < 2) (by omega : x < 8))) (fun y => by
        rw [yb_or, yb_pw, yfull]
        constructor
        · rintro (q1 | e)
          · exact ⟨y, by omega, by rw [yLu_n (by omega)]⟩
          · exact ⟨p, by omega, by rw [yLu_e]; exact e.symm⟩
        · rintro ⟨q, q1, q2⟩
          by_cases eq : q = p
          · subst eq; rw [yLu_e] at q2; exact Or.inr q2.symm
          · rw [yLu_n eq] at q2
            have q2' : q = y := q2
            exact Or.inl (by omega))
      have fr1 : yfr [137] m m1 := yfr_t fr b3
      obtain ⟨m', a1, a2, a3⟩ := ih (x + 1) (by omega) (by omega) m1 (fun q hq => by rw [yfr_1 fr1 11 q (by decide)]; exact hR q hq) (fun q hq => by rw [b2 q (by omega), xwi_i (by omega)]; exact h1 q hq)
      refine ⟨m', fun {z} hz => ?_, a2, yfr_t fr1 a3⟩
      have t := a1 hz
      rw [yct_s, ← yP_add] at t
      have b1' : fX8_canSend 11 11 137 (nI (p + 1)) (nI n) (nI ((2 ^ p - 1) ||| 2 ^ x)) (xwi m 137 p (nI x)) = some (yP (yTp R n p x), m1) := b1
      apply bX8_waysToItself_136_26_i
      simp (disch := omega) only [yl3, yl4, yl5, yl6, yl7, yl8, yl9, yl10, yl13, yl16, yl20, yl21, yl22, yl23, yl24, yl32, yl40, yl48, yl57, yl59, yl63, yl64, yl97, yl99, yl122, yl255, yl256, yl400, yl1000, yl2000, yl2048, yc0_eq, yc0_eq2, yc0_le, yc0_ge, yc0_lt, yc0_gt, yc0_ad, yc0_da, yc0_sb, yc0_ml, yc0_lm, yc1_eq, yc1_eq2, yc1_le, yc1_ge, yc1_lt, yc1_gt, yc1_ad, yc1_da, yc1_sb, yc1_ml, yc1_lm, yc2_eq, yc2_eq2, yc2_le, yc2_ge, yc2_lt, yc2_gt, yc2_ad, yc2_da, yc2_sb, yc2_ml, yc2_lm, yc31_ge, ymodn, yI_1sl, yc2_dv, yn1_eq, yn1_lt, xgd_t, xlt_e, Option.bind_some, nI_add, pk_mul, pk_sub, pk_div, pk_rem, yI_and, yI_or, yI_xor, yI_nd, yI_nd2, yI_31, yI_shl, nI_leI, nI_ltI, nI_eq, nI_clamp, xinb_t, yP_z, yP_if, if_neg, n11, Bool.not_false, fit, yif_t hf, xcg_94 (k := p + 1) (by omega), b1', s_bit]
      exact t
    · have no : ¬ yTp R n p x := fun t => hf fun r hr => ((yTp_b hp t).2.2 r hr).2
      obtain ⟨m', a1, a2, a3⟩ := ih (x + 1) (by omega) (by omega) m hR h1
      refine ⟨m', fun {z} hz => ?_, a2, a3⟩
      have t := a1 hz
      rw [yct_s, yif_f no, Nat.add_zero] at t
      apply bX8_waysToItself_136_26_i
      simp (disch := omega) only [yl3, yl4, yl5, yl6, yl7, yl8, yl9, yl10, yl13, yl16, yl20, yl21, yl22, yl23, yl24, yl32, yl40, yl48, yl57, yl59, yl63, yl64, yl97, yl99, yl122, yl255, yl256, yl400, yl1000, yl2000, yl2048, yc0_eq, yc0_eq2, yc0_le, yc0_ge, yc0_lt, yc0_gt, yc0_ad, yc0_da, yc0_sb, yc0_ml, yc0_lm, yc1_eq, yc1_eq2, yc1_le, yc1_ge, yc1_lt, yc1_gt, yc1_ad, yc1_da, yc1_sb, yc1_ml, yc1_lm, yc2_eq, yc2_eq2, yc2_le, yc2_ge, yc2_lt, yc2_gt, yc2_ad, yc2_da, yc2_sb, yc2_ml, yc2_lm, yc31_ge, ymodn, yI_1sl, yc2_dv, yn1_eq, yn1_lt, xgd_t, xlt_e, Option.bind_some, nI_add, pk_mul, pk_sub, pk_div, pk_rem, yI_and, yI_or, yI_xor, yI_nd, yI_nd2, yI_31, yI_shl, nI_leI, nI_ltI, nI_eq, nI_clamp, xinb_t, yP_z, yP_if, if_neg, n11, Bool.not_false, fit, yif_f hf]
      exact t
theorem s_wti_5 {R : Nat → Nat} {n : Nat} (hG : yGr n R) : ∀ (d p : Nat), p + d = n → ∀ (m : xmm), yrw 11 R m → (∀ q, q < p → m.1 137 q = nI q) → ∃ m', bX8_waysToItself_136_5 11 (nI n) (nI (ypr (yTg R n) p)) (nI p) m = some (nI (ypr (yTg R n) n), m') ∧ yfr [137] m m' := by
  have hn := hG.1
  intro d
  induction d with
  | zero =>
    intro p hp m hR h1
    have e : p = n := by omega
    subst e
    refine ⟨m, ?_, yfr_r⟩
    apply bX8_waysToItself_136_5_i
    simp (disch := omega) only [yl3, yl4, yl5, yl6, yl7, yl8, yl9, yl10, yl13, yl16, yl20, yl21, yl22, yl23, yl24, yl32, yl40, yl48, yl57, yl59, yl63, yl64, yl97, yl99, yl122, yl255, yl256, yl400, yl1000, yl2000, yl2048, yc0_eq, yc0_eq2, yc0_le, yc0_ge, yc0_lt, yc0_gt, yc0_ad, yc0_da, yc0_sb, yc0_ml, yc0_lm, yc1_eq, yc1_eq2, yc1_le, yc1_ge, yc1_lt, yc1_gt, yc1_ad, yc1_da, yc1_sb, yc1_ml, yc1_lm, yc2_eq, yc2_eq2, yc2_le, yc2_ge, yc2_lt, yc2_gt, yc2_ad, yc2_da, yc2_sb, yc2_ml, yc2_lm, yc31_ge, ymodn, yI_1sl, yc2_dv, yn1_eq, yn1_lt, xgd_t, xlt_e, Option.bind_some, nI_add, pk_mul, pk_sub, pk_div, pk_rem, yI_and, yI_or, yI_xor, yI_nd, yI_nd2, yI_31, yI_shl, nI_leI, nI_ltI, nI_eq, nI_clamp, xinb_t, yP_z, yP_if, if_pos]
  | succ d ih =>
    intro p hp m hR h1
    obtain ⟨m1, a1, a2, a3⟩ := s_wti_26 hG (p := p) (by omega) (ypr (yTg R n) p) (n - p) p (by omega) (Nat.le_refl p) m hR h1
    obtain ⟨m', b1, b2⟩ := ih (p + 1) (by omega) m1 (fun q hq => by rw [yfr_1 a3 11 q (by decide)]; exact hR q hq) a2
    have t := a1 b1
    have z0 : yct (yTp R n p) p = 0 := yct_0 fun k hk t => by
      have := (yTp_b (by omega) t).1
      omega
    rw [z0] at t
    refine ⟨m', ?_, yfr_t a3 b2⟩
    apply bX8_waysToItself_136_5_i
    have e2 : (1 : Int32) <<< (nI p &&& 31) - (1 : Int32) = nI (2 ^ p - 1) := by
      rw [yI_1shl (by omega), yc1_sb (y2p1 p)]
    rw [e2]
    simp (disch := omega) only [yl3, yl4, yl5, yl6, yl7, yl8, yl9, yl10, yl13, yl16, yl20, yl21, yl22, yl23, yl24, yl32, yl40, yl48, yl57, yl59, yl63, yl64, yl97, yl99, yl122, yl255, yl256, yl400, yl1000, yl2000, yl2048, yc0_eq, yc0_eq2, yc0_le, yc0_ge, yc0_lt, yc0_gt, yc0_ad, yc0_da, yc0_sb, yc0_ml, yc0_lm, yc1_eq, yc1_eq2, yc1_le, yc1_ge, yc1_lt, yc1_gt, yc1_ad, yc1_da, yc1_sb, yc1_ml, yc1_lm, yc2_eq, yc2_eq2, yc2_le, yc2_ge, yc2_lt, yc2_gt, yc2_ad, yc2_da, yc2_sb, yc2_ml, yc2_lm, yc31_ge, ymodn, yI_1sl, yc2_dv, yn1_eq, yn1_lt, xgd_t, xlt_e, Option.bind_some, nI_add, pk_mul, pk_sub, pk_div, pk_rem, yI_and, yI_or, yI_xor, yI_nd, yI_nd2, yI_31, yI_shl, nI_leI, nI_ltI, nI_eq, nI_clamp, xinb_t, yP_z, yP_if, if_neg]
    exact t
theorem s_wti {R : Nat → Nat} {n : Nat} (hG : yGr n R) {m : xmm} (hR : yrw 11 R m) : ∃ m', fX8_waysToItself_136 11 (nI n) m = some (nI (ypr (yTg R n) n), m') ∧ yfr [137] m m' := by
  obtain ⟨m', e1, e2⟩ := s_wti_5 hG n 0 (Nat.zero_add n) m hR (fun q hq => absurd hq (Nat.not_lt_zero q))
  refine ⟨m', ?_, e2⟩
  apply fX8_waysToItself_136_i
  exact e1
theorem ybs0 (f : Nat → Nat) (x : Nat) : yb 0 x ↔ ∃ q, q < 0 ∧ f q = x := ⟨fun h => absurd h yb_0, fun ⟨q, h, _⟩ => absurd h (Nat.not_lt_zero q)⟩
/-- the class: this network to a held one -/
theorem s_cLike {R R' : Nat → Nat} {n v r : Nat} (hG : yGr n R) (hG' : yGr n R') (hv2 : Nat.beq v 1999 = false) (hob : xob v 3 = true) (hr0 : xR0 v 2 = r + 1) (hr : xkd r = (1, 8)) (hr2 : Nat.beq r 1999 = false) (hr3 : r ≠ 137) {m : xmm} (hR : yrw 11 R m) (hR' : yrw r R' m) (hN : m.1 10 0 = nI n) (hN' : m.1 v 0 = nI n) : ∃ m', fX8_ways_136_10 v m = some (nI (yLk R R' n), m') ∧ yfr [137] m m' := by
  have hn := hG.1
  obtain ⟨m1, a1, a2, a3⟩ := s_canSend hG hG' hr hr2 hr3 n 0 (Nat.zero_add n) (fun _ => 0) 0 m hR hR' (fun q hq => absurd hq (Nat.not_lt_zero q)) (fun q hq => absurd hq (Nat.not_lt_zero q)) (by decide) (ybs0 _)
  have a1' : fX8_canSend 11 r 137 (0 : Int32) (nI n) (0 : Int32) m = some (yP (yCan R R' n 0 fun _ => 0), m1) := a1
  have cg : xcg 93 13 96 [.ref 11, .ref r, .ref 137, .int (0 : Int32), .int (nI n), .int (0 : Int32)] [] = true := xcg_93
  rw [yLk_e hG.2.2.2 hG'.2.2.2]
  by_cases hc : yCan R R' n 0 fun _ => 0
  · obtain ⟨m2, b1, b2⟩ := s_wti hG (m := m1) (fun q hq => by rw [yfr_1 a3 11 q (by decide)]; exact hR q hq)
    refine ⟨m2, ?_, yfr_t a3 b2⟩
    rw [yif_t hc]
    apply fX8_ways_136_10_i
    simp (disch := omega) only [yl3, yl4, yl5, yl6, yl7, yl8, yl9, yl10, yl13, yl16, yl20, yl21, yl22, yl23, yl24, yl32, yl40, yl48, yl57, yl59, yl63, yl64, yl97, yl99, yl122, yl255, yl256, yl400, yl1000, yl2000, yl2048, yc0_eq, yc0_eq2, yc0_le, yc0_ge, yc0_lt, yc0_gt, yc0_ad, yc0_da, yc0_sb, yc0_ml, yc0_lm, yc1_eq, yc1_eq2, yc1_le, yc1_ge, yc1_lt, yc1_gt, yc1_ad, yc1_da, yc1_sb, yc1_ml, yc1_lm, yc2_eq, yc2_eq2, yc2_le, yc2_ge, yc2_lt, yc2_gt, yc2_ad, yc2_da, yc2_sb, yc2_ml, yc2_lm, yc31_ge, ymodn, yI_1sl, yc2_dv, yn1_eq, yn1_lt, xgd_t, xlt_e, Option.bind_some, nI_add, pk_mul, pk_sub, pk_div, pk_rem, yI_and, yI_or, yI_xor, yI_nd, yI_nd2, yI_31, yI_shl, nI_leI, nI_ltI, nI_eq, nI_clamp, xinb_t, yP_z, yP_if, hN, hN', if_neg, hv2, Bool.not_false, hob, hr0, xgr, if_true, cg, a1', yif_t hc, b1]
  · refine ⟨m1, ?_, a3⟩
    rw [yif_f hc]
    apply fX8_ways_136_10_i
    simp (disch := omega) only [yl3, yl4, yl5, yl6, yl7, yl8, yl9, yl10, yl13, yl16, yl20, yl21, yl22, yl23, yl24, yl32, yl40, yl48, yl57, yl59, yl63, yl64, yl97, yl99, yl122, yl255, yl256, yl400, yl1000, yl2000, yl2048, yc0_eq, yc0_eq2, yc0_le, yc0_ge, yc0_lt, yc0_gt, yc0_ad, yc0_da, yc0_sb, yc0_ml, yc0_lm, yc1_eq, yc1_eq2, yc1_le, yc1_ge, yc1_lt, yc1_gt, yc1_ad, yc1_da, yc1_sb, yc1_ml, yc1_lm, yc2_eq, yc2_eq2, yc2_le, yc2_ge, yc2_lt, yc2_gt, yc2_ad, yc2_da, yc2_sb, yc2_ml, yc2_lm, yc31_ge, ymodn, yI_1sl, yc2_dv, yn1_eq, yn1_lt, xgd_t, xlt_e, Option.bind_some, nI_add, pk_mul, pk_sub, pk_div, pk_rem, yI_and, yI_or, yI_xor, yI_nd, yI_nd2, yI_31, yI_shl, nI_leI, nI_ltI, nI_eq, nI_clamp, xinb_t, yP_z, yP_if, hN, hN', if_neg, hv2, Bool.not_false, hob, hr0, xgr, if_true, cg, a1', yif_f hc]
    rfl
theorem s_cLike0 {R : Nat → Nat} {n : Nat} (hG : yGr n R) {m : xmm} (hR : yrw 11 R m) (hN : m.1 10 0 = nI n) : ∃ m', fX8_ways_136_10_10 m = some (nI (yLk R R n), m') ∧ yfr [137] m m' := by
  have hn := hG.1
  obtain ⟨m1, a1, a2, a3⟩ := s_canSend hG hG (v := 11) rfl rfl (by decide) n 0 (Nat.zero_add n) (fun _ => 0) 0 m hR hR (fun q hq => absurd hq (Nat.not_lt_zero q)) (fun q hq => absurd hq (Nat.not_lt_zero q)) (by decide) (ybs0 _)
  have a1' : fX8_canSend 11 11 137 (0 : Int32) (nI n) (0 : Int32) m = some (yP (yCan R R n 0 fun _ => 0), m1) := a1
  have cg : xcg 93 13 96 [.ref 11, .ref 11, .ref 137, .int (0 : Int32), .int (nI n), .int (0 : Int32)] [] = true := xcg_93
  rw [yLk_e hG.2.2.2 hG.2.2.2]
  by_cases hc : yCan R R n 0 fun _ => 0
  · obtain ⟨m2, b1, b2⟩ := s_wti hG (m := m1) (fun q hq => by rw [yfr_1 a3 11 q (by decide)]; exact hR q hq)
    refine ⟨m2, ?_, yfr_t a3 b2⟩
    rw [yif_t hc]
    apply fX8_ways_136_10_10_i
    simp (disch := omega) only [yl3, yl4, yl5, yl6, yl7, yl8, yl9, yl10, yl13, yl16, yl20, yl21, yl22, yl23, yl24, yl32, yl40, yl48, yl57, yl59, yl63, yl64, yl97, yl99, yl122, yl255, yl256, yl400, yl1000, yl2000, yl2048, yc0_eq, yc0_eq2, yc0_le, yc0_ge, yc0_lt, yc0_gt, yc0_ad, yc0_da, yc0_sb, yc0_ml, yc0_lm, yc1_eq, yc1_eq2, yc1_le, yc1_ge, yc1_lt, yc1_gt, yc1_ad, yc1_da, yc1_sb, yc1_ml, yc1_lm, yc2_eq, yc2_eq2, yc2_le, yc2_ge, yc2_lt, yc2_gt, yc2_ad, yc2_da, yc2_sb, yc2_ml, yc2_lm, yc31_ge, ymodn, yI_1sl, yc2_dv, yn1_eq, yn1_lt, xgd_t, xlt_e, Option.bind_some, nI_add, pk_mul, pk_sub, pk_div, pk_rem, yI_and, yI_or, yI_xor, yI_nd, yI_nd2, yI_31, yI_shl, nI_leI, nI_ltI, nI_eq, nI_clamp, xinb_t, yP_z, yP_if, hN, if_neg, if_true, cg, a1', yif_t hc, b1]
  · refine ⟨m1, ?_, a3⟩
    rw [yif_f hc]
    apply fX8_ways_136_10_10_i
    simp (disch := omega) only [yl3, yl4, yl5, yl6, yl7, yl8, yl9, yl10, yl13, yl16, yl20, yl21, yl22, yl23, yl24, yl32, yl40, yl48, yl57, yl59, yl63, yl64, yl97, yl99, yl122, yl255, yl256, yl400, yl1000, yl2000, yl2048, yc0_eq, yc0_eq2, yc0_le, yc0_ge, yc0_lt, yc0_gt, yc0_ad, yc0_da, yc0_sb, yc0_ml, yc0_lm, yc1_eq, yc1_eq2, yc1_le, yc1_ge, yc1_lt, yc1_gt, yc1_ad, yc1_da, yc1_sb, yc1_ml, yc1_lm, yc2_eq, yc2_eq2, yc2_le, yc2_ge, yc2_lt, yc2_gt, yc2_ad, yc2_da, yc2_sb, yc2_ml, yc2_lm, yc31_ge, ymodn, yI_1sl, yc2_dv, yn1_eq, yn1_lt, xgd_t, xlt_e, Option.bind_some, nI_add, pk_mul, pk_sub, pk_div, pk_rem, yI_and, yI_or, yI_xor, yI_nd, yI_nd2, yI_31, yI_shl, nI_leI, nI_ltI, nI_eq, nI_clamp, xinb_t, yP_z, yP_if, hN, if_neg, if_true, cg, a1', yif_f hc]
    rfl
/-! the model -/
noncomputable def yFx (R R' : Nat → Nat) (n d p : Nat) (f : Nat → Nat) (x : Nat) : Nat := yif (yLf R R' f p x) (yIs R R' n d (p + 1) (yLu f p x)) 0
