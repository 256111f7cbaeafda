/-! the tokens: the model -/
def y27 (B : Nat → Nat) (s : Nat) : Nat → Nat
  | 0 => 0
  | n + 1 => 27 * y27 B s n + (B (s + n) - 96)
theorem y27_b {B : Nat → Nat} {s : Nat} : ∀ n, (∀ i, i < n → yLe (B (s + i))) → y27 B s n < 27 ^ n
  | 0, _ => by show 0 < 1; omega
  | n + 1, h => by
    have a := y27_b n fun i hi => h i (by omega)
    have b := (h n (by omega)).2
    show 27 * y27 B s n + (B (s + n) - 96) < 27 ^ (n + 1)
    rw [Nat.pow_succ]
    omega
theorem y27_8 {B : Nat → Nat} {s n : Nat} (h : ∀ i, i < n → yLe (B (s + i))) (hn : n ≤ 8) : y27 B s n < 2 ^ 63 := by
  have a := y27_b n h
  have b : 27 ^ n ≤ 27 ^ 8 := Nat.pow_le_pow_right (by decide) hn
  have c : 27 ^ 8 < 2 ^ 63 := by decide
  omega
theorem y27_i {B B' : Nat → Nat} {s s' : Nat} : ∀ n n', (∀ i, i < n → yLe (B (s + i))) → (∀ i, i < n' → yLe (B' (s' + i))) → (y27 B s n = y27 B' s' n' ↔ n = n' ∧ ∀ i, i < n → B (s + i) = B' (s' + i))
  | 0, 0, _, _ => ⟨fun _ => ⟨rfl, fun i hi => absurd hi (Nat.not_lt_zero i)⟩, fun _ => rfl⟩
  | 0, n' + 1, _, h' => by
    have b := h' n' (by omega)
    unfold yLe at b
    constructor
    · intro t
      have t' : 0 = 27 * y27 B' s' n' + (B' (s' + n') - 96) := t
      omega
    · rintro ⟨t, _⟩
      omega
  | n + 1, 0, h, _ => by
    have b := h n (by omega)
    unfold yLe at b
    constructor
    · intro t
      have t' : 27 * y27 B s n + (B (s + n) - 96) = 0 := t
      omega
    · rintro ⟨t, _⟩
      omega
  | n + 1, n' + 1, h, h' => by
    have b := h n (by omega)
    have b' := h' n' (by omega)
    have i := y27_i n n' (fun i hi => h i (by omega)) (fun i hi => h' i (by omega))
    unfold yLe at b b'
    constructor
    · intro t
      have t' : 27 * y27 B s n + (B (s + n) - 96) = 27 * y27 B' s' n' + (B' (s' + n') - 96) := t
      have d : B (s + n) = B' (s' + n') := by omega
      have c := i.mp (by omega)
      refine ⟨by omega, fun j hj => ?_⟩
      by_cases e : j = n
      · subst e; rw [d, c.1]
      · exact c.2 j (by omega)
    · rintro ⟨t, u⟩
      have c := i.mpr ⟨by omega, fun j hj => u j (by omega)⟩
      have d := u n (by omega)
      have e : n = n' := by omega
      show 27 * y27 B s n + (B (s + n) - 96) = 27 * y27 B' s' n' + (B' (s' + n') - 96)
      rw [c, d, e]
theorem y256_i {B B' : Nat → Nat} {s s' : Nat} : ∀ n n', (∀ i, i < n → yLe (B (s + i))) → (∀ i, i < n' → yLe (B' (s' + i))) → (y256 B s n = y256 B' s' n' ↔ n = n' ∧ ∀ i, i < n → B (s + i) = B' (s' + i))
  | 0, 0, _, _ => ⟨fun _ => ⟨rfl, fun i hi => absurd hi (Nat.not_lt_zero i)⟩, fun _ => rfl⟩
  | 0, n' + 1, _, h' => by
    have b := h' n' (by omega)
    unfold yLe at b
    constructor
    · intro t
      have t' : 0 = 256 * y256 B' s' n' + B' (s' + n') := t
      omega
    · rintro ⟨t, _⟩
      omega
  | n + 1, 0, h, _ => by
    have b := h n (by omega)
    unfold yLe at b
    constructor
    · intro t
      have t' : 256 * y256 B s n + B (s + n) = 0 := t
      omega
    · rintro ⟨t, _⟩
      omega
  | n + 1, n' + 1, h, h' => by
    have b := h n (by omega)
    have b' := h' n' (by omega)
    have i := y256_i n n' (fun i hi => h i (by omega)) (fun i hi => h' i (by omega))
    unfold yLe at b b'
    constructor
    · intro t
      have t' : 256 * y256 B s n + B (s + n) = 256 * y256 B' s' n' + B' (s' + n') := t
      have d : B (s + n) = B' (s' + n') := by omega
      have c := i.mp (by omega)
      refine ⟨by omega, fun j hj => ?_⟩
      by_cases e : j = n
      · subst e; rw [d, c.1]
      · exact c.2 j (by omega)
    · rintro ⟨t, u⟩
      have c := i.mpr ⟨by omega, fun j hj => u j (by omega)⟩
      have d := u n (by omega)
      have e : n = n' := by omega
      show 256 * y256 B s n + B (s + n) = 256 * y256 B' s' n' + B' (s' + n')
      rw [c, d, e]
/-- the model's words -/
def yzK (k : Nat) : Nat := y27 (yzW k) 0 (yzL k)
def yKy (m : xmm) : Prop := ∀ k, k < 4 → m.2 151 k = lN (yzK k)
theorem yzK_w {B : Nat → Nat} {s n k : Nat} (hk : k < 4) (h : ∀ i, i < n → yLe (B (s + i))) : yzK k = y27 B s n ↔ yzw B s n k := by
  have w : ∀ i, i < yzL k → yLe (yzW k (0 + i)) := fun i hi => by
    rw [Nat.zero_add]; exact yzW_l k hk i hi
  have a := y27_i (B := B) (B' := yzW k) (s := s) (s' := 0) n (yzL k) h w
  refine eq_comm.trans (a.trans ?_)
  unfold yzw
  constructor
  · rintro ⟨t, u⟩
    refine ⟨t, fun i hi => ?_⟩
    have := u i (by omega)
    rw [Nat.zero_add] at this
    exact this
  · rintro ⟨t, u⟩
    refine ⟨t, fun i hi => ?_⟩
    rw [Nat.zero_add]
    exact u i (by omega)
theorem yzK_b : ∀ k, k < 4 → yzK k < 2 ^ 63 := by decide
/-- the kinds as the model numbers them -/
def ymk (k : Nat) : Nat := [0, 1, 2, 4, 20, 21, 22, 23, 3, 0].getD k 0
/-- the tokens that the model has kept -/
def yMT (kd st vl g : Nat → Nat) (k : Nat) (m : xmm) : Prop := m.1 144 10 = nI k ∧ ∀ j, j < k → m.1 147 j = nI (ymk (kd j)) ∧ m.1 148 j = nI (st j) ∧ (kd j = 2 → m.1 149 j = nI (vl j)) ∧ (kd j = 1 → m.2 150 j = lN (g j))
theorem s_token {kd st vl g : Nat → Nat} {k : Nat} {m : xmm} (hk : k < 403) (h : yMT kd st vl g k m) {a b c : Int32} {d : Int64} (ha : a = nI (ymk (kd k))) (hb : b = nI (st k)) (hc : kd k = 2 → c = nI (vl k)) (hd : kd k = 1 → d = lN (g k)) : ∃ m', fX12_token_144 a b c d m = some m' ∧ yMT kd st vl g (k + 1) m' ∧ yfm [147, 148, 149, 150] [10] m m' := by
  have i4 : xinb 403 (nI k) = true := xinb_t hk (by decide)
  refine ⟨xwi (xwj (xwi (xwi (xwi m 147 k a) 148 k b) 149 k c) 150 k d) 144 10 (nI (k + 1)), ?_, ⟨xwi_e _ _ _ _, fun j hj => ?_⟩, yfm_f (yfm_j (yfm_w (yfm_w (yfm_w yfm_r (by decide) (by decide)) (by decide) (by decide)) (by decide) (by decide)) (by decide)) (by decide)⟩
  · apply fX12_token_144_i
    have x1 : (xwi m 147 k a).1 144 10 = nI k := by rw [xwi_k (by decide)]; exact h.1
    have x2 : (xwi (xwi m 147 k a) 148 k b).1 144 10 = nI k := by rw [xwi_k (by decide)]; exact x1
    have x3 : (xwi (xwi (xwi m 147 k a) 148 k b) 149 k c).1 144 10 = nI k := by rw [xwi_k (by decide)]; exact x2
    rw [h.1, i4, xgd_t, nI_clamp (by omega), xlt_e, x1, i4, xgd_t, nI_clamp (by omega), xlt_e, x2, i4, xgd_t, nI_clamp (by omega), xlt_e, x3, i4, xgd_t, nI_clamp (by omega), xlt_e, xwj_1, x3, nI_1]
    rfl
  · rw [xwi_k (by decide), xwi_k (by decide), xwi_k (by decide), xwi_2, xwj_1]
    by_cases e : j = k
    · subst e
      refine ⟨?_, ?_, fun t => ?_, fun t => ?_⟩
      · rw [xwi_k (by decide), xwi_k (by decide), xwi_e]; exact ha
      · rw [xwi_k (by decide), xwi_e]; exact hb
      · rw [xwi_e]; exact hc t
      · rw [xwj_e]; exact hd t
    · have o := h.2 j (by omega)
      refine ⟨?_, ?_, fun t => ?_, fun t => ?_⟩
      · rw [xwi_k (by decide), xwi_k (by decide), xwi_i e]; exact o.1
      · rw [xwi_k (by decide), xwi_i e, xwi_k (by decide)]; exact o.2.1
      · rw [xwi_i e, xwi_k (by decide), xwi_k (by decide)]; exact o.2.2.1 t
      · rw [xwj_n (fun u => e u.2)]; exact o.2.2.2 t
noncomputable def yzg (B : Nat → Nat) (len k : Nat) : Nat := y27 B (yzt B len k) (yzm B len k)
theorem s_keys {n : Nat} {s : Nat} {B : Nat → Nat} {m : xmm} (hK : yKy m) (h : ∀ i, i < n → yLe (B (s + i))) (hn : n ≤ 8) (v1 v3 : Int32) : ∀ {z : xmm}, bX12_cutsText_144_178 v1 v3 (lN (y27 B s n)) (nI (ymk (yzq B s n))) m = some z → bX12_cutsText_144_146 v1 v3 (lN (y27 B s n)) 1 (nI 0) m = some z := by
  intro z hz
  have c : ∀ k, k < 4 → (lg_cmp (m.2 151 k) (lN (y27 B s n)) = 0 ↔ yzw B s n k) := fun k hk => by
    rw [lg_cmp_eq, hK k hk, pk_lEQ (yzK_b k hk) (y27_8 h hn)]
    exact yzK_w hk h
  have st : ∀ (v k : Nat), k < 4 → v < 100 → ∀ {z : xmm}, bX12_cutsText_144_146 v1 v3 (lN (y27 B s n)) (nI (yif (yzw B s n k) (20 + k) v)) (nI (k + 1)) m = some z → bX12_cutsText_144_146 v1 v3 (lN (y27 B s n)) (nI v) (nI k) m = some z := by
    intro v k hk hv z hz
    apply bX12_cutsText_144_146_i
    rw [if_neg (by rw [yl4, nI_leI (by decide) (by omega)]; omega), xinb_t hk (by decide), xgd_t, nI_clamp (by omega)]
    by_cases w : yzw B s n k
    · rw [if_pos ((c k hk).mpr w), yl20, nI_add, nI_1]
      rw [yif_t w] at hz
      exact hz
    · rw [if_neg (fun t => w ((c k hk).mp t)), nI_1]
      rw [yif_f w] at hz
      exact hz
  have un : ∀ k k', k < 4 → k' < 4 → yzw B s n k → yzw B s n k' → k = k' := by
    intro k k' hk hk' w w'
    have e1 := (yzK_w hk h).mpr w
    have e2 := (yzK_w hk' h).mpr w'
    have d : ∀ k, k < 4 → ∀ k', k' < 4 → yzK k = yzK k' → k = k' := by decide
    exact d k hk k' hk' (e1.trans e2.symm)
  apply st 1 0 (by decide) (by decide)
  have b0 : yif (yzw B s n 0) (20 + 0) 1 < 100 := by
    by_cases w : yzw B s n 0
    · rw [yif_t w]; decide
    · rw [yif_f w]; decide
  have b1 : yif (yzw B s n 1) (20 + 1) (yif (yzw B s n 0) (20 + 0) 1) < 100 := by
    by_cases w : yzw B s n 1
    · rw [yif_t w]; decide
    · rw [yif_f w]; exact b0
  have b2 : yif (yzw B s n 2) (20 + 2) (yif (yzw B s n 1) (20 + 1) (yif (yzw B s n 0) (20 + 0) 1)) < 100 := by
    by_cases w : yzw B s n 2
    · rw [yif_t w]; decide
    · rw [yif_f w]; exact b1
  apply st _ 1 (by decide) b0
  apply st _ 2 (by decide) b1
  apply st _ 3 (by decide) b2
  apply bX12_cutsText_144_146_i
  rw [if_pos (show (4 : Int32) ≤ nI (3 + 1) by decide)]
  have e : yif (yzw B s n 3) (20 + 3) (yif (yzw B s n 2) (20 + 2) (yif (yzw B s n 1) (20 + 1) (yif (yzw B s n 0) (20 + 0) 1))) = ymk (yzq B s n) := by
    unfold yzq
    by_cases w0 : yzw B s n 0
    · have n1 : ¬ yzw B s n 1 := fun t => absurd (un 0 1 (by decide) (by decide) w0 t) (by decide)
      have n2 : ¬ yzw B s n 2 := fun t => absurd (un 0 2 (by decide) (by decide) w0 t) (by decide)
      have n3 : ¬ yzw B s n 3 := fun t => absurd (un 0 3 (by decide) (by decide) w0 t) (by decide)
      rw [yif_f n3, yif_f n2, yif_f n1, yif_t w0, yif_t w0]; rfl
    by_cases w1 : yzw B s n 1
    · have n2 : ¬ yzw B s n 2 := fun t => absurd (un 1 2 (by decide) (by decide) w1 t) (by decide)
      have n3 : ¬ yzw B s n 3 := fun t => absurd (un 1 3 (by decide) (by decide) w1 t) (by decide)
      rw [yif_f n3, yif_f n2, yif_t w1, yif_f w0, yif_t w1]; rfl
    by_cases w2 : yzw B s n 2
    · have n3 : ¬ yzw B s n 3 := fun t => absurd (un 2 3 (by decide) (by decide) w2 t) (by decide)
      rw [yif_f n3, yif_t w2, yif_f w0, yif_f w1, yif_t w2]; rfl
    by_cases w3 : yzw B s n 3
    · rw [yif_t w3, yif_f w0, yif_f w1, yif_f w2, yif_t w3]; rfl
    · rw [yif_f w3, yif_f w2, yif_f w1, yif_f w0, yif_f w0, yif_f w1, yif_f w2, yif_f w3]; rfl
  rw [e]
  exact hz
