/-! the literals (written by lits.py) -/
theorem yl3 : (3 : Int32) = nI 3 := rfl
theorem yl4 : (4 : Int32) = nI 4 := rfl
theorem yl5 : (5 : Int32) = nI 5 := rfl
theorem yl6 : (6 : Int32) = nI 6 := rfl
theorem yl7 : (7 : Int32) = nI 7 := rfl
theorem yl8 : (8 : Int32) = nI 8 := rfl
theorem yl9 : (9 : Int32) = nI 9 := rfl
theorem yl10 : (10 : Int32) = nI 10 := rfl
theorem yl13 : (13 : Int32) = nI 13 := rfl
theorem yl16 : (16 : Int32) = nI 16 := rfl
theorem yl20 : (20 : Int32) = nI 20 := rfl
theorem yl21 : (21 : Int32) = nI 21 := rfl
theorem yl22 : (22 : Int32) = nI 22 := rfl
theorem yl23 : (23 : Int32) = nI 23 := rfl
theorem yl24 : (24 : Int32) = nI 24 := rfl
theorem yl32 : (32 : Int32) = nI 32 := rfl
theorem yl40 : (40 : Int32) = nI 40 := rfl
theorem yl48 : (48 : Int32) = nI 48 := rfl
theorem yl57 : (57 : Int32) = nI 57 := rfl
theorem yl59 : (59 : Int32) = nI 59 := rfl
theorem yl63 : (63 : Int32) = nI 63 := rfl
theorem yl64 : (64 : Int32) = nI 64 := rfl
theorem yl97 : (97 : Int32) = nI 97 := rfl
theorem yl99 : (99 : Int32) = nI 99 := rfl
theorem yl122 : (122 : Int32) = nI 122 := rfl
theorem yl255 : (255 : Int32) = nI 255 := rfl
theorem yl256 : (256 : Int32) = nI 256 := rfl
theorem yl400 : (400 : Int32) = nI 400 := rfl
theorem yl1000 : (1000 : Int32) = nI 1000 := rfl
theorem yl2000 : (2000 : Int32) = nI 2000 := rfl
theorem yl2048 : (2048 : Int32) = nI 2048 := rfl
theorem yc0_eq {k : Nat} (h : k < 2 ^ 31) : nI k = (0 : Int32) ↔ k = 0 := nI_eq h (by decide)
theorem yc0_eq2 {k : Nat} (h : k < 2 ^ 31) : (0 : Int32) = nI k ↔ k = 0 := eq_comm.trans (nI_eq h (by decide))
theorem yc0_le {k : Nat} (h : k < 2 ^ 31) : nI k ≤ (0 : Int32) ↔ k ≤ 0 := nI_leI h (by decide)
theorem yc0_ge {k : Nat} (h : k < 2 ^ 31) : (0 : Int32) ≤ nI k ↔ 0 ≤ k := nI_leI (by decide) h
theorem yc0_lt {k : Nat} (h : k < 2 ^ 31) : nI k < (0 : Int32) ↔ k < 0 := nI_ltI h (by decide)
theorem yc0_gt {k : Nat} (h : k < 2 ^ 31) : (0 : Int32) < nI k ↔ 0 < k := nI_ltI (by decide) h
theorem yc0_ad (k : Nat) : nI k + (0 : Int32) = nI (k + 0) := nI_add k 0
theorem yc0_da (k : Nat) : (0 : Int32) + nI k = nI (0 + k) := nI_add 0 k
theorem yc0_sb {k : Nat} (h : 0 ≤ k) : nI k - (0 : Int32) = nI (k - 0) := pk_sub h
theorem yc0_ml (k : Nat) : nI k * (0 : Int32) = nI (k * 0) := pk_mul k 0
theorem yc0_lm (k : Nat) : (0 : Int32) * nI k = nI (0 * k) := pk_mul 0 k
theorem yc1_eq {k : Nat} (h : k < 2 ^ 31) : nI k = (1 : Int32) ↔ k = 1 := nI_eq h (by decide)
theorem yc1_eq2 {k : Nat} (h : k < 2 ^ 31) : (1 : Int32) = nI k ↔ k = 1 := eq_comm.trans (nI_eq h (by decide))
theorem yc1_le {k : Nat} (h : k < 2 ^ 31) : nI k ≤ (1 : Int32) ↔ k ≤ 1 := nI_leI h (by decide)
theorem yc1_ge {k : Nat} (h : k < 2 ^ 31) : (1 : Int32) ≤ nI k ↔ 1 ≤ k := nI_leI (by decide) h
theorem yc1_lt {k : Nat} (h : k < 2 ^ 31) : nI k < (1 : Int32) ↔ k < 1 := nI_ltI h (by decide)
theorem yc1_gt {k : Nat} (h : k < 2 ^ 31) : (1 : Int32) < nI k ↔ 1 < k := nI_ltI (by decide) h
theorem yc1_ad (k : Nat) : nI k + (1 : Int32) = nI (k + 1) := nI_add k 1
theorem yc1_da (k : Nat) : (1 : Int32) + nI k = nI (1 + k) := nI_add 1 k
theorem yc1_sb {k : Nat} (h : 1 ≤ k) : nI k - (1 : Int32) = nI (k - 1) := pk_sub h
theorem yc1_ml (k : Nat) : nI k * (1 : Int32) = nI (k * 1) := pk_mul k 1
theorem yc1_lm (k : Nat) : (1 : Int32) * nI k = nI (1 * k) := pk_mul 1 k
theorem yc2_eq {k : Nat} (h : k < 2 ^ 31) : nI k = (2 : Int32) ↔ k = 2 := nI_eq h (by decide)
theorem yc2_eq2 {k : Nat} (h : k < 2 ^ 31) : (2 : Int32) = nI k ↔ k = 2 := eq_comm.trans (nI_eq h (by decide))
theorem yc2_le {k : Nat} (h : k < 2 ^ 31) : nI k ≤ (2 : Int32) ↔ k ≤ 2 := nI_leI h (by decide)
theorem yc2_ge {k : Nat} (h : k < 2 ^ 31) : (2 : Int32) ≤ nI k ↔ 2 ≤ k := nI_leI (by decide) h
theorem yc2_lt {k : Nat} (h : k < 2 ^ 31) : nI k < (2 : Int32) ↔ k < 2 := nI_ltI h (by decide)
theorem yc2_gt {k : Nat} (h : k < 2 ^ 31) : (2 : Int32) < nI k ↔ 2 < k := nI_ltI (by decide) h
theorem yc2_ad (k : Nat) : nI k + (2 : Int32) = nI (k + 2) := nI_add k 2
theorem yc2_da (k : Nat) : (2 : Int32) + nI k = nI (2 + k) := nI_add 2 k
theorem yc2_sb {k : Nat} (h : 2 ≤ k) : nI k - (2 : Int32) = nI (k - 2) := pk_sub h
theorem yc2_ml (k : Nat) : nI k * (2 : Int32) = nI (k * 2) := pk_mul k 2
theorem yc2_lm (k : Nat) : (2 : Int32) * nI k = nI (2 * k) := pk_mul 2 k
theorem yc2_dv {k : Nat} (h : k < 2 ^ 31) : nI k / (2 : Int32) = nI (k / 2) := pk_div h (by decide) (by decide)
theorem yn1_eq {k : Nat} (h : k < 2 ^ 31) : (nI k = (-1 : Int32)) = False := by
  apply eq_false
  intro e
  have h1 := congrArg Int32.toInt e
  have h2 : (-1 : Int32).toInt = -1 := by decide
  rw [nI_toInt h, h2] at h1
  omega
theorem yn1_lt {k : Nat} (h : k < 2 ^ 31) : ((-1 : Int32) < nI k) = True := by
  apply eq_true
  have h2 : (-1 : Int32).toInt = -1 := by decide
  rw [Int32.lt_iff_toInt_lt, nI_toInt h, h2]
  omega
theorem yc31_ge {k : Nat} (h : k < 2 ^ 31) : (31 : Int32) ≤ nI k ↔ 31 ≤ k := nI_leI (by decide) h
theorem yI_1sl {k : Nat} (h : k < 32) : (1 : Int32) <<< nI k = nI (2 ^ k) := by have := yI_1shl h; rw [yI_31 h] at this; exact this
theorem ymodn (x d : Nat) : x - x / d * d = x % d := by have := Nat.div_add_mod x d; rw [Nat.mul_comm] at this; omega
