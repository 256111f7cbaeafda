/-! the LAW's loop -/
theorem s_lawStep {L : Nat} {xs : Nat → Int32} (hL : L ≤ 3072) {i : Nat} (hi : i + 6 ≤ L) {m : xmm} (hZ : yZe L xs m) : ∃ m', yZe L xs m' ∧ ∀ {z : Int32 × xmm}, bL_law_18 (nI (i + 6)) m' = some z → bL_law_18 (nI i) m = some z := by
  obtain ⟨n, N, h, H, hd, K, len, bt, pl, hC, hM, hS⟩ := hZ
  have hk : xs i &&& (31 : Int32) = nI ((xs i).toBitVec.toNat % 2 ^ 5) := pk_and (xs i) 5 (by decide)
  have h32 : (xs i).toBitVec.toNat % 2 ^ 5 < 32 := Nat.mod_lt _ (by decide)
  generalize (xs i).toBitVec.toNat % 2 ^ 5 = k at hk h32
  have c : k = 0 ∨ k = 1 ∨ k = 2 ∨ k = 3 ∨ k = 4 ∨ k = 5 ∨ k = 6 ∨ k = 7 ∨ k = 8 ∨ k = 9 ∨ k = 10 ∨ k = 11 ∨ k = 12 ∨ k = 13 ∨ k = 14 ∨ k = 15 ∨ k = 16 ∨ k = 17 ∨ k = 18 ∨ k = 19 ∨ k = 20 ∨ k = 21 ∨ k = 22 ∨ k = 23 ∨ k = 24 ∨ k = 25 ∨ k = 26 ∨ k = 27 ∨ k = 28 ∨ 29 ≤ k := by omega
  rcases c with e | e | e | e | e | e | e | e | e | e | e | e | e | e | e | e | e | e | e | e | e | e | e | e | e | e | e | e | e | e
  · subst e
    obtain ⟨r, m1, m2, h1, hS1, h2, hZ2⟩ := q_feed hC hM hS (xs (i + 1)) (xs (i + 2)) (xs (i + 3)) (xs (i + 4)) (xs (i + 5))
    exact ⟨m2, hZ2, fun {z} hz => s_law_0 hL hi hS hk h1 hS1 h2 hz⟩
  · subst e
    obtain ⟨r, m1, m2, h1, hS1, h2, hZ2⟩ := q_back hC hM hS (xs (i + 1))
    exact ⟨m2, hZ2, fun {z} hz => s_law_1 hL hi hS hk h1 hS1 h2 hz⟩
  · subst e
    obtain ⟨r, m1, m2, h1, hS1, h2, hZ2⟩ := q_read hC hM hS 
    exact ⟨m2, hZ2, fun {z} hz => s_law_2 hL hi hS hk h1 hS1 h2 hz⟩
  · subst e
    obtain ⟨r, m1, m2, h1, hS1, h2, hZ2⟩ := q_place hC hM hS 
    exact ⟨m2, hZ2, fun {z} hz => s_law_3 hL hi hS hk h1 hS1 h2 hz⟩
  · subst e
    obtain ⟨r, m1, m2, h1, hS1, h2, hZ2⟩ := q_line hC hM hS (xs (i + 1)) (xs (i + 2))
    exact ⟨m2, hZ2, fun {z} hz => s_law_4 hL hi hS hk h1 hS1 h2 hz⟩
  · subst e
    obtain ⟨r, m1, m2, h1, hS1, h2, hZ2⟩ := q_other hC hM hS 
    exact ⟨m2, hZ2, fun {z} hz => s_law_5 hL hi hS hk h1 hS1 h2 hz⟩
  · subst e
    obtain ⟨r, m1, m2, h1, hS1, h2, hZ2⟩ := q_exchange hC hM hS (xs (i + 1)) (xs (i + 2))
    exact ⟨m2, hZ2, fun {z} hz => s_law_6 hL hi hS hk h1 hS1 h2 hz⟩
  · subst e
    obtain ⟨r, m1, m2, h1, hS1, h2, hZ2⟩ := q_bare hC hM hS (xs (i + 1))
    exact ⟨m2, hZ2, fun {z} hz => s_law_7 hL hi hS hk h1 hS1 h2 hz⟩
  · subst e
    obtain ⟨r, m1, m2, h1, hS1, h2, hZ2⟩ := q_begin hC hM hS 
    exact ⟨m2, hZ2, fun {z} hz => s_law_8 hL hi hS hk h1 hS1 h2 hz⟩
  · subst e
    obtain ⟨r, m1, m2, h1, hS1, h2, hZ2⟩ := q_undo hC hM hS 
    exact ⟨m2, hZ2, fun {z} hz => s_law_9 hL hi hS hk h1 hS1 h2 hz⟩
  · subst e
    obtain ⟨r, m1, m2, h1, hS1, h2, hZ2⟩ := q_of hC hM hS (xs (i + 1)) (xs (i + 2))
    exact ⟨m2, hZ2, fun {z} hz => s_law_10 hL hi hS hk h1 hS1 h2 hz⟩
  · subst e
    obtain ⟨r, m1, m2, h1, hS1, h2, hZ2⟩ := q_far hC hM hS (xs (i + 1)) (xs (i + 2))
    exact ⟨m2, hZ2, fun {z} hz => s_law_11 hL hi hS hk h1 hS1 h2 hz⟩
  · subst e
    obtain ⟨r, m1, m2, h1, hS1, h2, hZ2⟩ := q_near hC hM hS (xs (i + 1))
    exact ⟨m2, hZ2, fun {z} hz => s_law_12 hL hi hS hk h1 hS1 h2 hz⟩
  · subst e
    obtain ⟨r, m1, m2, h1, hS1, h2, hZ2⟩ := q_forces hC hM hS (xs (i + 1)) (xs (i + 2)) (xs (i + 3)) (xs (i + 4))
    exact ⟨m2, hZ2, fun {z} hz => s_law_13 hL hi hS hk h1 hS1 h2 hz⟩
  · subst e
    obtain ⟨r, m1, m2, h1, hS1, h2, hZ2⟩ := q_klass hC hM hS (xs (i + 1)) (xs (i + 2)) (xs (i + 3))
    exact ⟨m2, hZ2, fun {z} hz => s_law_14 hL hi hS hk h1 hS1 h2 hz⟩
  · subst e
    obtain ⟨r, m1, m2, h1, hS1, h2, hZ2⟩ := q_walk hC hM hS (xs (i + 1)) (xs (i + 2)) (xs (i + 3))
    exact ⟨m2, hZ2, fun {z} hz => s_law_15 hL hi hS hk h1 hS1 h2 hz⟩
  · subst e
    obtain ⟨r, m1, m2, h1, hS1, h2, hZ2⟩ := q_network hC hM hS (xs (i + 1))
    exact ⟨m2, hZ2, fun {z} hz => s_law_16 hL hi hS hk h1 hS1 h2 hz⟩
  · subst e
    obtain ⟨r, m1, m2, h1, hS1, h2, hZ2⟩ := q_under hC hM hS (xs (i + 1)) (xs (i + 2))
    exact ⟨m2, hZ2, fun {z} hz => s_law_17 hL hi hS hk h1 hS1 h2 hz⟩
  · subst e
    obtain ⟨r, m1, m2, h1, hS1, h2, hZ2⟩ := q_post hC hM hS (xs (i + 1)) (xs (i + 2))
    exact ⟨m2, hZ2, fun {z} hz => s_law_18 hL hi hS hk h1 hS1 h2 hz⟩
  · subst e
    obtain ⟨r, m1, m2, h1, hS1, h2, hZ2⟩ := q_order hC hM hS (xs (i + 1))
    exact ⟨m2, hZ2, fun {z} hz => s_law_19 hL hi hS hk h1 hS1 h2 hz⟩
  · subst e
    obtain ⟨r, m1, m2, h1, hS1, h2, hZ2⟩ := q_chain hC hM hS (xs (i + 1))
    exact ⟨m2, hZ2, fun {z} hz => s_law_20 hL hi hS hk h1 hS1 h2 hz⟩
  · subst e
    obtain ⟨r, m1, m2, h1, hS1, h2, hZ2⟩ := q_straight hC hM hS (xs (i + 1)) (xs (i + 2))
    exact ⟨m2, hZ2, fun {z} hz => s_law_21 hL hi hS hk h1 hS1 h2 hz⟩
  · subst e
    obtain ⟨r, m1, m2, h1, hS1, h2, hZ2⟩ := q_sign hC hM hS (xs (i + 1)) (xs (i + 2))
    exact ⟨m2, hZ2, fun {z} hz => s_law_22 hL hi hS hk h1 hS1 h2 hz⟩
  · subst e
    obtain ⟨r, m1, m2, h1, hS1, h2, hZ2⟩ := q_colours hC hM hS (xs (i + 1))
    exact ⟨m2, hZ2, fun {z} hz => s_law_23 hL hi hS hk h1 hS1 h2 hz⟩
  · subst e
    obtain ⟨r, m1, m2, h1, hS1, h2, hZ2⟩ := q_set hC hM hS (xs (i + 1)) (xs (i + 2))
    exact ⟨m2, hZ2, fun {z} hz => s_law_24 hL hi hS hk h1 hS1 h2 hz⟩
  · subst e
    obtain ⟨r, m1, m2, h1, hS1, h2, hZ2⟩ := q_like hC hM hS (xs (i + 1))
    exact ⟨m2, hZ2, fun {z} hz => s_law_25 hL hi hS hk h1 hS1 h2 hz⟩
  · subst e
    obtain ⟨r, m1, m2, h1, hS1, h2, hZ2⟩ := q_hold hC hM hS (xs (i + 1))
    exact ⟨m2, hZ2, fun {z} hz => s_law_26 hL hi hS hk h1 hS1 h2 hz⟩
  · subst e
    obtain ⟨r, m1, m2, h1, hS1, h2, hZ2⟩ := q_restore hC hM hS (xs (i + 1))
    exact ⟨m2, hZ2, fun {z} hz => s_law_27 hL hi hS hk h1 hS1 h2 hz⟩
  · subst e
    obtain ⟨r, m1, m2, h1, hS1, h2, hZ2⟩ := q_count hC hM hS (xs (i + 1))
    exact ⟨m2, hZ2, fun {z} hz => s_law_28 hL hi hS hk h1 hS1 h2 hz⟩
  · exact ⟨m, ⟨n, N, h, H, hd, K, len, bt, pl, hC, hM, hS⟩, fun {z} hz => s_law_x hL hi hS hk e h32 hz⟩
theorem s_lawLoop {L : Nat} {xs : Nat → Int32} (hL : L ≤ 3072) : ∀ (f i : Nat) (m : xmm), L ≤ i + 6 * f → i ≤ 3072 → yZe L xs m → ∃ m', bL_law_18 (nI i) m = some (1, m') := by
  intro f
  induction f with
  | zero =>
    intro i m hf hi hZ
    obtain ⟨n, N, h, H, hd, K, len, bt, pl, hC, hM, hS⟩ := hZ
    exact ⟨m, s_law_end hL (by omega) (by omega) hS⟩
  | succ f ih =>
    intro i m hf hi hZ
    by_cases g : i + 6 ≤ L
    · obtain ⟨m1, a1, a2⟩ := s_lawStep hL g hZ
      obtain ⟨m', b⟩ := ih (i + 6) m1 (by omega) (by omega) a1
      exact ⟨m', a2 b⟩
    · obtain ⟨n, N, h, H, hd, K, len, bt, pl, hC, hM, hS⟩ := hZ
      exact ⟨m, s_law_end hL g (by omega) hS⟩
