/-! the LAW's switch (written by lawgen.py) -/
def yScr (L : Nat) (xs : Nat → Int32) (m : xmm) : Prop := m.1 1997 0 = nI L ∧ ∀ i, i < L → m.1 1998 i = xs i
theorem ye0 {L i : Nat} (hL : L ≤ 3072) (hi : i + 6 ≤ L) : ¬ nI L - (6 : Int32) < nI i := by
  have e : nI L - (6 : Int32) = nI (L - 6) := pk_sub (b := 6) (by omega)
  rw [e, nI_ltI (by omega) (by omega)]
  omega
theorem yxb {L i : Nat} (hL : L ≤ 3072) (hi : i < L) : xinb (nI L).toNatClampNeg (nI i) = true := by
  rw [nI_clamp (by omega)]
  exact xinb_t hi (by omega)
theorem yadd (i j : Nat) : nI i + nI j = nI (i + j) := nI_add i j
theorem s_law_0 {L : Nat} {xs : Nat → Int32} (hL : L ≤ 3072) {i : Nat} (hi : i + 6 ≤ L) {m m1 m2 : xmm} (hS : yScr L xs m) (hk : xs i &&& (31 : Int32) = nI 0) {r : Int32} (h1 : fX11_feed_0 (xs (i + 1)) (xs (i + 2)) (xs (i + 3)) (xs (i + 4)) (xs (i + 5)) m = some (r, m1)) (hS1 : yScr L xs m1) (h2 : fX12_feed_144 (xs (i + 1)) (xs (i + 2)) (xs (i + 3)) (xs (i + 4)) (xs (i + 5)) m1 = some (r, m2)) {z : Int32 × xmm} (hz : bL_law_18 (nI (i + 6)) m2 = some z) : bL_law_18 (nI i) m = some z := by
  have ad1 : nI i + (1 : Int32) = nI (i + 1) := nI_add i 1
  have ad2 : nI i + (2 : Int32) = nI (i + 2) := nI_add i 2
  have ad3 : nI i + (3 : Int32) = nI (i + 3) := nI_add i 3
  have ad4 : nI i + (4 : Int32) = nI (i + 4) := nI_add i 4
  have ad5 : nI i + (5 : Int32) = nI (i + 5) := nI_add i 5
  have ad6 : nI i + (6 : Int32) = nI (i + 6) := nI_add i 6
  apply bL_law_18_i
  rw [hS.1, if_neg (ye0 hL hi), yxb hL (show i < L by omega), xgd_t, nI_clamp (show i < 2 ^ 31 by omega), hS.2 i (by omega), hk]
  rw [if_pos (show nI 0 = (0 : Int32) from rfl)]
  rw [ad1, ad2, ad3, ad4, ad5]
  rw [yxb hL (show i + 1 < L by omega), xgd_t, yxb hL (show i + 2 < L by omega), xgd_t, yxb hL (show i + 3 < L by omega), xgd_t, yxb hL (show i + 4 < L by omega), xgd_t, yxb hL (show i + 5 < L by omega), xgd_t]
  rw [nI_clamp (show i + 1 < 2 ^ 31 by omega), hS.2 (i + 1) (by omega), nI_clamp (show i + 2 < 2 ^ 31 by omega), hS.2 (i + 2) (by omega), nI_clamp (show i + 3 < 2 ^ 31 by omega), hS.2 (i + 3) (by omega), nI_clamp (show i + 4 < 2 ^ 31 by omega), hS.2 (i + 4) (by omega), nI_clamp (show i + 5 < 2 ^ 31 by omega), hS.2 (i + 5) (by omega)]
  rw [h1, Option.bind_some]
  dsimp only
  rw [hS1.1, yxb hL (show i + 1 < L by omega), xgd_t, yxb hL (show i + 2 < L by omega), xgd_t, yxb hL (show i + 3 < L by omega), xgd_t, yxb hL (show i + 4 < L by omega), xgd_t, yxb hL (show i + 5 < L by omega), xgd_t]
  rw [hS1.2 (i + 1) (by omega), hS1.2 (i + 2) (by omega), hS1.2 (i + 3) (by omega), hS1.2 (i + 4) (by omega), hS1.2 (i + 5) (by omega)]
  rw [h2, Option.bind_some]
  dsimp only
  rw [if_pos rfl, ad6]
  exact hz
theorem s_law_1 {L : Nat} {xs : Nat → Int32} (hL : L ≤ 3072) {i : Nat} (hi : i + 6 ≤ L) {m m1 m2 : xmm} (hS : yScr L xs m) (hk : xs i &&& (31 : Int32) = nI 1) {r : Int32} (h1 : fX11_back_0 (xs (i + 1)) m = some (r, m1)) (hS1 : yScr L xs m1) (h2 : fX12_back_144 (xs (i + 1)) m1 = some (r, m2)) {z : Int32 × xmm} (hz : bL_law_18 (nI (i + 6)) m2 = some z) : bL_law_18 (nI i) m = some z := by
  have ad1 : nI i + (1 : Int32) = nI (i + 1) := nI_add i 1
  have ad6 : nI i + (6 : Int32) = nI (i + 6) := nI_add i 6
  apply bL_law_18_i
  rw [hS.1, if_neg (ye0 hL hi), yxb hL (show i < L by omega), xgd_t, nI_clamp (show i < 2 ^ 31 by omega), hS.2 i (by omega), hk]
  rw [if_neg (show ¬ nI 1 = (0 : Int32) by decide)]
  rw [if_pos (show nI 1 = (1 : Int32) from rfl)]
  rw [ad1]
  rw [yxb hL (show i + 1 < L by omega), xgd_t]
  rw [nI_clamp (show i + 1 < 2 ^ 31 by omega), hS.2 (i + 1) (by omega)]
  rw [h1, Option.bind_some]
  dsimp only
  rw [hS1.1, yxb hL (show i + 1 < L by omega), xgd_t]
  rw [hS1.2 (i + 1) (by omega)]
  rw [h2, Option.bind_some]
  dsimp only
  rw [if_pos rfl, ad6]
  exact hz
theorem s_law_2 {L : Nat} {xs : Nat → Int32} (hL : L ≤ 3072) {i : Nat} (hi : i + 6 ≤ L) {m m1 m2 : xmm} (hS : yScr L xs m) (hk : xs i &&& (31 : Int32) = nI 2) {r : Int32} (h1 : fX11_read_0 m = some (r, m1)) (hS1 : yScr L xs m1) (h2 : fX12_read_144 m1 = some (r, m2)) {z : Int32 × xmm} (hz : bL_law_18 (nI (i + 6)) m2 = some z) : bL_law_18 (nI i) m = some z := by
  have ad6 : nI i + (6 : Int32) = nI (i + 6) := nI_add i 6
  apply bL_law_18_i
  rw [hS.1, if_neg (ye0 hL hi), yxb hL (show i < L by omega), xgd_t, nI_clamp (show i < 2 ^ 31 by omega), hS.2 i (by omega), hk]
  rw [if_neg (show ¬ nI 2 = (0 : Int32) by decide)]
  rw [if_neg (show ¬ nI 2 = (1 : Int32) by decide)]
  rw [if_pos (show nI 2 = (2 : Int32) from rfl)]
  rw [h1, Option.bind_some]
  dsimp only
  rw [h2, Option.bind_some]
  dsimp only
  rw [if_pos rfl, ad6]
  exact hz
theorem s_law_3 {L : Nat} {xs : Nat → Int32} (hL : L ≤ 3072) {i : Nat} (hi : i + 6 ≤ L) {m m1 m2 : xmm} (hS : yScr L xs m) (hk : xs i &&& (31 : Int32) = nI 3) {r : Int32} (h1 : fX11_place_0 m = some (r, m1)) (hS1 : yScr L xs m1) (h2 : fX12_place_144 m1 = some (r, m2)) {z : Int32 × xmm} (hz : bL_law_18 (nI (i + 6)) m2 = some z) : bL_law_18 (nI i) m = some z := by
  have ad6 : nI i + (6 : Int32) = nI (i + 6) := nI_add i 6
  apply bL_law_18_i
  rw [hS.1, if_neg (ye0 hL hi), yxb hL (show i < L by omega), xgd_t, nI_clamp (show i < 2 ^ 31 by omega), hS.2 i (by omega), hk]
  rw [if_neg (show ¬ nI 3 = (0 : Int32) by decide)]
  rw [if_neg (show ¬ nI 3 = (1 : Int32) by decide)]
  rw [if_neg (show ¬ nI 3 = (2 : Int32) by decide)]
  rw [if_pos (show nI 3 = (3 : Int32) from rfl)]
  rw [h1, Option.bind_some]
  dsimp only
  rw [h2, Option.bind_some]
  dsimp only
  rw [if_pos rfl, ad6]
  exact hz
theorem s_law_4 {L : Nat} {xs : Nat → Int32} (hL : L ≤ 3072) {i : Nat} (hi : i + 6 ≤ L) {m m1 m2 : xmm} (hS : yScr L xs m) (hk : xs i &&& (31 : Int32) = nI 4) {r : Int32} (h1 : fX11_line_0 (xs (i + 1)) (xs (i + 2)) m = some (r, m1)) (hS1 : yScr L xs m1) (h2 : fX12_line_144 (xs (i + 1)) (xs (i + 2)) m1 = some (r, m2)) {z : Int32 × xmm} (hz : bL_law_18 (nI (i + 6)) m2 = some z) : bL_law_18 (nI i) m = some z := by
  have ad1 : nI i + (1 : Int32) = nI (i + 1) := nI_add i 1
  have ad2 : nI i + (2 : Int32) = nI (i + 2) := nI_add i 2
  have ad6 : nI i + (6 : Int32) = nI (i + 6) := nI_add i 6
  apply bL_law_18_i
  rw [hS.1, if_neg (ye0 hL hi), yxb hL (show i < L by omega), xgd_t, nI_clamp (show i < 2 ^ 31 by omega), hS.2 i (by omega), hk]
  rw [if_neg (show ¬ nI 4 = (0 : Int32) by decide)]
  rw [if_neg (show ¬ nI 4 = (1 : Int32) by decide)]
  rw [if_neg (show ¬ nI 4 = (2 : Int32) by decide)]
  rw [if_neg (show ¬ nI 4 = (3 : Int32) by decide)]
  rw [if_pos (show nI 4 = (4 : Int32) from rfl)]
  rw [ad1, ad2]
  rw [yxb hL (show i + 1 < L by omega), xgd_t, yxb hL (show i + 2 < L by omega), xgd_t]
  rw [nI_clamp (show i + 1 < 2 ^ 31 by omega), hS.2 (i + 1) (by omega), nI_clamp (show i + 2 < 2 ^ 31 by omega), hS.2 (i + 2) (by omega)]
  rw [h1, Option.bind_some]
  dsimp only
  rw [hS1.1, yxb hL (show i + 1 < L by omega), xgd_t, yxb hL (show i + 2 < L by omega), xgd_t]
  rw [hS1.2 (i + 1) (by omega), hS1.2 (i + 2) (by omega)]
  rw [h2, Option.bind_some]
  dsimp only
  rw [if_pos rfl, ad6]
  exact hz
theorem s_law_5 {L : Nat} {xs : Nat → Int32} (hL : L ≤ 3072) {i : Nat} (hi : i + 6 ≤ L) {m m1 m2 : xmm} (hS : yScr L xs m) (hk : xs i &&& (31 : Int32) = nI 5) {r : Int32} (h1 : fX11_other_0 m = some (r, m1)) (hS1 : yScr L xs m1) (h2 : fX12_other_144 m1 = some (r, m2)) {z : Int32 × xmm} (hz : bL_law_18 (nI (i + 6)) m2 = some z) : bL_law_18 (nI i) m = some z := by
  have ad6 : nI i + (6 : Int32) = nI (i + 6) := nI_add i 6
  apply bL_law_18_i
  rw [hS.1, if_neg (ye0 hL hi), yxb hL (show i < L by omega), xgd_t, nI_clamp (show i < 2 ^ 31 by omega), hS.2 i (by omega), hk]
  rw [if_neg (show ¬ nI 5 = (0 : Int32) by decide)]
  rw [if_neg (show ¬ nI 5 = (1 : Int32) by decide)]
  rw [if_neg (show ¬ nI 5 = (2 : Int32) by decide)]
  rw [if_neg (show ¬ nI 5 = (3 : Int32) by decide)]
  rw [if_neg (show ¬ nI 5 = (4 : Int32) by decide)]
  rw [if_pos (show nI 5 = (5 : Int32) from rfl)]
  rw [h1, Option.bind_some]
  dsimp only
  rw [h2, Option.bind_some]
  dsimp only
  rw [if_pos rfl, ad6]
  exact hz
theorem s_law_6 {L : Nat} {xs : Nat → Int32} (hL : L ≤ 3072) {i : Nat} (hi : i + 6 ≤ L) {m m1 m2 : xmm} (hS : yScr L xs m) (hk : xs i &&& (31 : Int32) = nI 6) {r : Int32} (h1 : fX11_exchange_0 (xs (i + 1)) (xs (i + 2)) m = some (r, m1)) (hS1 : yScr L xs m1) (h2 : fX12_exchange_144 (xs (i + 1)) (xs (i + 2)) m1 = some (r, m2)) {z : Int32 × xmm} (hz : bL_law_18 (nI (i + 6)) m2 = some z) : bL_law_18 (nI i) m = some z := by
  have ad1 : nI i + (1 : Int32) = nI (i + 1) := nI_add i 1
  have ad2 : nI i + (2 : Int32) = nI (i + 2) := nI_add i 2
  have ad6 : nI i + (6 : Int32) = nI (i + 6) := nI_add i 6
  apply bL_law_18_i
  rw [hS.1, if_neg (ye0 hL hi), yxb hL (show i < L by omega), xgd_t, nI_clamp (show i < 2 ^ 31 by omega), hS.2 i (by omega), hk]
  rw [if_neg (show ¬ nI 6 = (0 : Int32) by decide)]
  rw [if_neg (show ¬ nI 6 = (1 : Int32) by decide)]
  rw [if_neg (show ¬ nI 6 = (2 : Int32) by decide)]
  rw [if_neg (show ¬ nI 6 = (3 : Int32) by decide)]
  rw [if_neg (show ¬ nI 6 = (4 : Int32) by decide)]
  rw [if_neg (show ¬ nI 6 = (5 : Int32) by decide)]
  rw [if_pos (show nI 6 = (6 : Int32) from rfl)]
  rw [ad1, ad2]
  rw [yxb hL (show i + 1 < L by omega), xgd_t, yxb hL (show i + 2 < L by omega), xgd_t]
  rw [nI_clamp (show i + 1 < 2 ^ 31 by omega), hS.2 (i + 1) (by omega), nI_clamp (show i + 2 < 2 ^ 31 by omega), hS.2 (i + 2) (by omega)]
  rw [h1, Option.bind_some]
  dsimp only
  rw [hS1.1, yxb hL (show i + 1 < L by omega), xgd_t, yxb hL (show i + 2 < L by omega), xgd_t]
  rw [hS1.2 (i + 1) (by omega), hS1.2 (i + 2) (by omega)]
  rw [h2, Option.bind_some]
  dsimp only
  rw [if_pos rfl, ad6]
  exact hz
theorem s_law_7 {L : Nat} {xs : Nat → Int32} (hL : L ≤ 3072) {i : Nat} (hi : i + 6 ≤ L) {m m1 m2 : xmm} (hS : yScr L xs m) (hk : xs i &&& (31 : Int32) = nI 7) {r : Int32} (h1 : fX11_bare_0 (xs (i + 1)) m = some (r, m1)) (hS1 : yScr L xs m1) (h2 : fX12_bare_144 (xs (i + 1)) m1 = some (r, m2)) {z : Int32 × xmm} (hz : bL_law_18 (nI (i + 6)) m2 = some z) : bL_law_18 (nI i) m = some z := by
  have ad1 : nI i + (1 : Int32) = nI (i + 1) := nI_add i 1
  have ad6 : nI i + (6 : Int32) = nI (i + 6) := nI_add i 6
  apply bL_law_18_i
  rw [hS.1, if_neg (ye0 hL hi), yxb hL (show i < L by omega), xgd_t, nI_clamp (show i < 2 ^ 31 by omega), hS.2 i (by omega), hk]
  rw [if_neg (show ¬ nI 7 = (0 : Int32) by decide)]
  rw [if_neg (show ¬ nI 7 = (1 : Int32) by decide)]
  rw [if_neg (show ¬ nI 7 = (2 : Int32) by decide)]
  rw [if_neg (show ¬ nI 7 = (3 : Int32) by decide)]
  rw [if_neg (show ¬ nI 7 = (4 : Int32) by decide)]
  rw [if_neg (show ¬ nI 7 = (5 : Int32) by decide)]
  rw [if_neg (show ¬ nI 7 = (6 : Int32) by decide)]
  rw [if_pos (show nI 7 = (7 : Int32) from rfl)]
  rw [ad1]
  rw [yxb hL (show i + 1 < L by omega), xgd_t]
  rw [nI_clamp (show i + 1 < 2 ^ 31 by omega), hS.2 (i + 1) (by omega)]
  rw [h1, Option.bind_some]
  dsimp only
  rw [hS1.1, yxb hL (show i + 1 < L by omega), xgd_t]
  rw [hS1.2 (i + 1) (by omega)]
  rw [h2, Option.bind_some]
  dsimp only
  rw [if_pos rfl, ad6]
  exact hz
theorem s_law_8 {L : Nat} {xs : Nat → Int32} (hL : L ≤ 3072) {i : Nat} (hi : i + 6 ≤ L) {m m1 m2 : xmm} (hS : yScr L xs m) (hk : xs i &&& (31 : Int32) = nI 8) {r : Int32} (h1 : fX11_begin_0 m = some (r, m1)) (hS1 : yScr L xs m1) (h2 : fX12_begin_144 m1 = some (r, m2)) {z : Int32 × xmm} (hz : bL_law_18 (nI (i + 6)) m2 = some z) : bL_law_18 (nI i) m = some z := by
  have ad6 : nI i + (6 : Int32) = nI (i + 6) := nI_add i 6
  apply bL_law_18_i
  rw [hS.1, if_neg (ye0 hL hi), yxb hL (show i < L by omega), xgd_t, nI_clamp (show i < 2 ^ 31 by omega), hS.2 i (by omega), hk]
  rw [if_neg (show ¬ nI 8 = (0 : Int32) by decide)]
  rw [if_neg (show ¬ nI 8 = (1 : Int32) by decide)]
  rw [if_neg (show ¬ nI 8 = (2 : Int32) by decide)]
  rw [if_neg (show ¬ nI 8 = (3 : Int32) by decide)]
  rw [if_neg (show ¬ nI 8 = (4 : Int32) by decide)]
  rw [if_neg (show ¬ nI 8 = (5 : Int32) by decide)]
  rw [if_neg (show ¬ nI 8 = (6 : Int32) by decide)]
  rw [if_neg (show ¬ nI 8 = (7 : Int32) by decide)]
  rw [if_pos (show nI 8 = (8 : Int32) from rfl)]
  rw [h1, Option.bind_some]
  dsimp only
  rw [h2, Option.bind_some]
  dsimp only
  rw [if_pos rfl, ad6]
  exact hz
theorem s_law_9 {L : Nat} {xs : Nat → Int32} (hL : L ≤ 3072) {i : Nat} (hi : i + 6 ≤ L) {m m1 m2 : xmm} (hS : yScr L xs m) (hk : xs i &&& (31 : Int32) = nI 9) {r : Int32} (h1 : fX11_undo_0 m = some (r, m1)) (hS1 : yScr L xs m1) (h2 : fX12_undo_144 m1 = some (r, m2)) {z : Int32 × xmm} (hz : bL_law_18 (nI (i + 6)) m2 = some z) : bL_law_18 (nI i) m = some z := by
  have ad6 : nI i + (6 : Int32) = nI (i + 6) := nI_add i 6
  apply bL_law_18_i
  rw [hS.1, if_neg (ye0 hL hi), yxb hL (show i < L by omega), xgd_t, nI_clamp (show i < 2 ^ 31 by omega), hS.2 i (by omega), hk]
  rw [if_neg (show ¬ nI 9 = (0 : Int32) by decide)]
  rw [if_neg (show ¬ nI 9 = (1 : Int32) by decide)]
  rw [if_neg (show ¬ nI 9 = (2 : Int32) by decide)]
  rw [if_neg (show ¬ nI 9 = (3 : Int32) by decide)]
  rw [if_neg (show ¬ nI 9 = (4 : Int32) by decide)]
  rw [if_neg (show ¬ nI 9 = (5 : Int32) by decide)]
  rw [if_neg (show ¬ nI 9 = (6 : Int32) by decide)]
  rw [if_neg (show ¬ nI 9 = (7 : Int32) by decide)]
  rw [if_neg (show ¬ nI 9 = (8 : Int32) by decide)]
  rw [if_pos (show nI 9 = (9 : Int32) from rfl)]
  rw [h1, Option.bind_some]
  dsimp only
  rw [h2, Option.bind_some]
  dsimp only
  rw [if_pos rfl, ad6]
  exact hz
theorem s_law_10 {L : Nat} {xs : Nat → Int32} (hL : L ≤ 3072) {i : Nat} (hi : i + 6 ≤ L) {m m1 m2 : xmm} (hS : yScr L xs m) (hk : xs i &&& (31 : Int32) = nI 10) {r : Int32} (h1 : fX11_of_0 (xs (i + 1)) (xs (i + 2)) m = some (r, m1)) (hS1 : yScr L xs m1) (h2 : fX12_of_144 (xs (i + 1)) (xs (i + 2)) m1 = some (r, m2)) {z : Int32 × xmm} (hz : bL_law_18 (nI (i + 6)) m2 = some z) : bL_law_18 (nI i) m = some z := by
  have ad1 : nI i + (1 : Int32) = nI (i + 1) := nI_add i 1
  have ad2 : nI i + (2 : Int32) = nI (i + 2) := nI_add i 2
  have ad6 : nI i + (6 : Int32) = nI (i + 6) := nI_add i 6
  apply bL_law_18_i
  rw [hS.1, if_neg (ye0 hL hi), yxb hL (show i < L by omega), xgd_t, nI_clamp (show i < 2 ^ 31 by omega), hS.2 i (by omega), hk]
  rw [if_neg (show ¬ nI 10 = (0 : Int32) by decide)]
  rw [if_neg (show ¬ nI 10 = (1 : Int32) by decide)]
  rw [if_neg (show ¬ nI 10 = (2 : Int32) by decide)]
  rw [if_neg (show ¬ nI 10 = (3 : Int32) by decide)]
  rw [if_neg (show ¬ nI 10 = (4 : Int32) by decide)]
  rw [if_neg (show ¬ nI 10 = (5 : Int32) by decide)]
  rw [if_neg (show ¬ nI 10 = (6 : Int32) by decide)]
  rw [if_neg (show ¬ nI 10 = (7 : Int32) by decide)]
  rw [if_neg (show ¬ nI 10 = (8 : Int32) by decide)]
  rw [if_neg (show ¬ nI 10 = (9 : Int32) by decide)]
  rw [if_pos (show nI 10 = (10 : Int32) from rfl)]
  rw [ad1, ad2]
  rw [yxb hL (show i + 1 < L by omega), xgd_t, yxb hL (show i + 2 < L by omega), xgd_t]
  rw [nI_clamp (show i + 1 < 2 ^ 31 by omega), hS.2 (i + 1) (by omega), nI_clamp (show i + 2 < 2 ^ 31 by omega), hS.2 (i + 2) (by omega)]
  rw [h1, Option.bind_some]
  dsimp only
  rw [hS1.1, yxb hL (show i + 1 < L by omega), xgd_t, yxb hL (show i + 2 < L by omega), xgd_t]
  rw [hS1.2 (i + 1) (by omega), hS1.2 (i + 2) (by omega)]
  rw [h2, Option.bind_some]
  dsimp only
  rw [if_pos rfl, ad6]
  exact hz
theorem s_law_11 {L : Nat} {xs : Nat → Int32} (hL : L ≤ 3072) {i : Nat} (hi : i + 6 ≤ L) {m m1 m2 : xmm} (hS : yScr L xs m) (hk : xs i &&& (31 : Int32) = nI 11) {r : Int32} (h1 : fX11_far_0 (xs (i + 1)) (xs (i + 2)) m = some (r, m1)) (hS1 : yScr L xs m1) (h2 : fX12_far_144 (xs (i + 1)) (xs (i + 2)) m1 = some (r, m2)) {z : Int32 × xmm} (hz : bL_law_18 (nI (i + 6)) m2 = some z) : bL_law_18 (nI i) m = some z := by
  have ad1 : nI i + (1 : Int32) = nI (i + 1) := nI_add i 1
  have ad2 : nI i + (2 : Int32) = nI (i + 2) := nI_add i 2
  have ad6 : nI i + (6 : Int32) = nI (i + 6) := nI_add i 6
  apply bL_law_18_i
  rw [hS.1, if_neg (ye0 hL hi), yxb hL (show i < L by omega), xgd_t, nI_clamp (show i < 2 ^ 31 by omega), hS.2 i (by omega), hk]
  rw [if_neg (show ¬ nI 11 = (0 : Int32) by decide)]
  rw [if_neg (show ¬ nI 11 = (1 : Int32) by decide)]
  rw [if_neg (show ¬ nI 11 = (2 : Int32) by decide)]
  rw [if_neg (show ¬ nI 11 = (3 : Int32) by decide)]
  rw [if_neg (show ¬ nI 11 = (4 : Int32) by decide)]
  rw [if_neg (show ¬ nI 11 = (5 : Int32) by decide)]
  rw [if_neg (show ¬ nI 11 = (6 : Int32) by decide)]
  rw [if_neg (show ¬ nI 11 = (7 : Int32) by decide)]
  rw [if_neg (show ¬ nI 11 = (8 : Int32) by decide)]
  rw [if_neg (show ¬ nI 11 = (9 : Int32) by decide)]
  rw [if_neg (show ¬ nI 11 = (10 : Int32) by decide)]
  rw [if_pos (show nI 11 = (11 : Int32) from rfl)]
  rw [ad1, ad2]
  rw [yxb hL (show i + 1 < L by omega), xgd_t, yxb hL (show i + 2 < L by omega), xgd_t]
  rw [nI_clamp (show i + 1 < 2 ^ 31 by omega), hS.2 (i + 1) (by omega), nI_clamp (show i + 2 < 2 ^ 31 by omega), hS.2 (i + 2) (by omega)]
  rw [h1, Option.bind_some]
  dsimp only
  rw [hS1.1, yxb hL (show i + 1 < L by omega), xgd_t, yxb hL (show i + 2 < L by omega), xgd_t]
  rw [hS1.2 (i + 1) (by omega), hS1.2 (i + 2) (by omega)]
  rw [h2, Option.bind_some]
  dsimp only
  rw [if_pos rfl, ad6]
  exact hz
theorem s_law_12 {L : Nat} {xs : Nat → Int32} (hL : L ≤ 3072) {i : Nat} (hi : i + 6 ≤ L) {m m1 m2 : xmm} (hS : yScr L xs m) (hk : xs i &&& (31 : Int32) = nI 12) {r : Int32} (h1 : fX11_near_0 (xs (i + 1)) m = some (r, m1)) (hS1 : yScr L xs m1) (h2 : fX12_near_144 (xs (i + 1)) m1 = some (r, m2)) {z : Int32 × xmm} (hz : bL_law_18 (nI (i + 6)) m2 = some z) : bL_law_18 (nI i) m = some z := by
  have ad1 : nI i + (1 : Int32) = nI (i + 1) := nI_add i 1
  have ad6 : nI i + (6 : Int32) = nI (i + 6) := nI_add i 6
  apply bL_law_18_i
  rw [hS.1, if_neg (ye0 hL hi), yxb hL (show i < L by omega), xgd_t, nI_clamp (show i < 2 ^ 31 by omega), hS.2 i (by omega), hk]
  rw [if_neg (show ¬ nI 12 = (0 : Int32) by decide)]
  rw [if_neg (show ¬ nI 12 = (1 : Int32) by decide)]
  rw [if_neg (show ¬ nI 12 = (2 : Int32) by decide)]
  rw [if_neg (show ¬ nI 12 = (3 : Int32) by decide)]
  rw [if_neg (show ¬ nI 12 = (4 : Int32) by decide)]
  rw [if_neg (show ¬ nI 12 = (5 : Int32) by decide)]
  rw [if_neg (show ¬ nI 12 = (6 : Int32) by decide)]
  rw [if_neg (show ¬ nI 12 = (7 : Int32) by decide)]
  rw [if_neg (show ¬ nI 12 = (8 : Int32) by decide)]
  rw [if_neg (show ¬ nI 12 = (9 : Int32) by decide)]
  rw [if_neg (show ¬ nI 12 = (10 : Int32) by decide)]
  rw [if_neg (show ¬ nI 12 = (11 : Int32) by decide)]
  rw [if_pos (show nI 12 = (12 : Int32) from rfl)]
  rw [ad1]
  rw [yxb hL (show i + 1 < L by omega), xgd_t]
  rw [nI_clamp (show i + 1 < 2 ^ 31 by omega), hS.2 (i + 1) (by omega)]
  rw [h1, Option.bind_some]
  dsimp only
  rw [hS1.1, yxb hL (show i + 1 < L by omega), xgd_t]
  rw [hS1.2 (i + 1) (by omega)]
  rw [h2, Option.bind_some]
  dsimp only
  rw [if_pos rfl, ad6]
  exact hz
theorem s_law_13 {L : Nat} {xs : Nat → Int32} (hL : L ≤ 3072) {i : Nat} (hi : i + 6 ≤ L) {m m1 m2 : xmm} (hS : yScr L xs m) (hk : xs i &&& (31 : Int32) = nI 13) {r : Int32} (h1 : fX11_forces_0 (xs (i + 1)) (xs (i + 2)) (xs (i + 3)) (xs (i + 4)) m = some (r, m1)) (hS1 : yScr L xs m1) (h2 : fX12_forces_144 (xs (i + 1)) (xs (i + 2)) (xs (i + 3)) (xs (i + 4)) m1 = some (r, m2)) {z : Int32 × xmm} (hz : bL_law_18 (nI (i + 6)) m2 = some z) : bL_law_18 (nI i) m = some z := by
  have ad1 : nI i + (1 : Int32) = nI (i + 1) := nI_add i 1
  have ad2 : nI i + (2 : Int32) = nI (i + 2) := nI_add i 2
  have ad3 : nI i + (3 : Int32) = nI (i + 3) := nI_add i 3
  have ad4 : nI i + (4 : Int32) = nI (i + 4) := nI_add i 4
  have ad6 : nI i + (6 : Int32) = nI (i + 6) := nI_add i 6
  apply bL_law_18_i
  rw [hS.1, if_neg (ye0 hL hi), yxb hL (show i < L by omega), xgd_t, nI_clamp (show i < 2 ^ 31 by omega), hS.2 i (by omega), hk]
  rw [if_neg (show ¬ nI 13 = (0 : Int32) by decide)]
  rw [if_neg (show ¬ nI 13 = (1 : Int32) by decide)]
  rw [if_neg (show ¬ nI 13 = (2 : Int32) by decide)]
  rw [if_neg (show ¬ nI 13 = (3 : Int32) by decide)]
  rw [if_neg (show ¬ nI 13 = (4 : Int32) by decide)]
  rw [if_neg (show ¬ nI 13 = (5 : Int32) by decide)]
  rw [if_neg (show ¬ nI 13 = (6 : Int32) by decide)]
  rw [if_neg (show ¬ nI 13 = (7 : Int32) by decide)]
  rw [if_neg (show ¬ nI 13 = (8 : Int32) by decide)]
  rw [if_neg (show ¬ nI 13 = (9 : Int32) by decide)]
  rw [if_neg (show ¬ nI 13 = (10 : Int32) by decide)]
  rw [if_neg (show ¬ nI 13 = (11 : Int32) by decide)]
  rw [if_neg (show ¬ nI 13 = (12 : Int32) by decide)]
  rw [if_pos (show nI 13 = (13 : Int32) from rfl)]
  rw [ad1, ad2, ad3, ad4]
  rw [yxb hL (show i + 1 < L by omega), xgd_t, yxb hL (show i + 2 < L by omega), xgd_t, yxb hL (show i + 3 < L by omega), xgd_t, yxb hL (show i + 4 < L by omega), xgd_t]
  rw [nI_clamp (show i + 1 < 2 ^ 31 by omega), hS.2 (i + 1) (by omega), nI_clamp (show i + 2 < 2 ^ 31 by omega), hS.2 (i + 2) (by omega), nI_clamp (show i + 3 < 2 ^ 31 by omega), hS.2 (i + 3) (by omega), nI_clamp (show i + 4 < 2 ^ 31 by omega), hS.2 (i + 4) (by omega)]
  rw [h1, Option.bind_some]
  dsimp only
  rw [hS1.1, yxb hL (show i + 1 < L by omega), xgd_t, yxb hL (show i + 2 < L by omega), xgd_t, yxb hL (show i + 3 < L by omega), xgd_t, yxb hL (show i + 4 < L by omega), xgd_t]
  rw [hS1.2 (i + 1) (by omega), hS1.2 (i + 2) (by omega), hS1.2 (i + 3) (by omega), hS1.2 (i + 4) (by omega)]
  rw [h2, Option.bind_some]
  dsimp only
  rw [if_pos rfl, ad6]
  exact hz
theorem s_law_14 {L : Nat} {xs : Nat → Int32} (hL : L ≤ 3072) {i : Nat} (hi : i + 6 ≤ L) {m m1 m2 : xmm} (hS : yScr L xs m) (hk : xs i &&& (31 : Int32) = nI 14) {r : Int32} (h1 : fX11_klass_0 (xs (i + 1)) (xs (i + 2)) (xs (i + 3)) m = some (r, m1)) (hS1 : yScr L xs m1) (h2 : fX12_klass_144 (xs (i + 1)) (xs (i + 2)) (xs (i + 3)) m1 = some (r, m2)) {z : Int32 × xmm} (hz : bL_law_18 (nI (i + 6)) m2 = some z) : bL_law_18 (nI i) m = some z := by
  have ad1 : nI i + (1 : Int32) = nI (i + 1) := nI_add i 1
  have ad2 : nI i + (2 : Int32) = nI (i + 2) := nI_add i 2
  have ad3 : nI i + (3 : Int32) = nI (i + 3) := nI_add i 3
  have ad6 : nI i + (6 : Int32) = nI (i + 6) := nI_add i 6
  apply bL_law_18_i
  rw [hS.1, if_neg (ye0 hL hi), yxb hL (show i < L by omega), xgd_t, nI_clamp (show i < 2 ^ 31 by omega), hS.2 i (by omega), hk]
  rw [if_neg (show ¬ nI 14 = (0 : Int32) by decide)]
  rw [if_neg (show ¬ nI 14 = (1 : Int32) by decide)]
  rw [if_neg (show ¬ nI 14 = (2 : Int32) by decide)]
  rw [if_neg (show ¬ nI 14 = (3 : Int32) by decide)]
  rw [if_neg (show ¬ nI 14 = (4 : Int32) by decide)]
  rw [if_neg (show ¬ nI 14 = (5 : Int32) by decide)]
  rw [if_neg (show ¬ nI 14 = (6 : Int32) by decide)]
  rw [if_neg (show ¬ nI 14 = (7 : Int32) by decide)]
  rw [if_neg (show ¬ nI 14 = (8 : Int32) by decide)]
  rw [if_neg (show ¬ nI 14 = (9 : Int32) by decide)]
  rw [if_neg (show ¬ nI 14 = (10 : Int32) by decide)]
  rw [if_neg (show ¬ nI 14 = (11 : Int32) by decide)]
  rw [if_neg (show ¬ nI 14 = (12 : Int32) by decide)]
  rw [if_neg (show ¬ nI 14 = (13 : Int32) by decide)]
  rw [if_pos (show nI 14 = (14 : Int32) from rfl)]
  rw [ad1, ad2, ad3]
  rw [yxb hL (show i + 1 < L by omega), xgd_t, yxb hL (show i + 2 < L by omega), xgd_t, yxb hL (show i + 3 < L by omega), xgd_t]
  rw [nI_clamp (show i + 1 < 2 ^ 31 by omega), hS.2 (i + 1) (by omega), nI_clamp (show i + 2 < 2 ^ 31 by omega), hS.2 (i + 2) (by omega), nI_clamp (show i + 3 < 2 ^ 31 by omega), hS.2 (i + 3) (by omega)]
  rw [h1, Option.bind_some]
  dsimp only
  rw [hS1.1, yxb hL (show i + 1 < L by omega), xgd_t, yxb hL (show i + 2 < L by omega), xgd_t, yxb hL (show i + 3 < L by omega), xgd_t]
  rw [hS1.2 (i + 1) (by omega), hS1.2 (i + 2) (by omega), hS1.2 (i + 3) (by omega)]
  rw [h2, Option.bind_some]
  dsimp only
  rw [if_pos rfl, ad6]
  exact hz
theorem s_law_15 {L : Nat} {xs : Nat → Int32} (hL : L ≤ 3072) {i : Nat} (hi : i + 6 ≤ L) {m m1 m2 : xmm} (hS : yScr L xs m) (hk : xs i &&& (31 : Int32) = nI 15) {r : Int32} (h1 : fX11_walk_0 (xs (i + 1)) (xs (i + 2)) (xs (i + 3)) m = some (r, m1)) (hS1 : yScr L xs m1) (h2 : fX12_walk_144 (xs (i + 1)) (xs (i + 2)) (xs (i + 3)) m1 = some (r, m2)) {z : Int32 × xmm} (hz : bL_law_18 (nI (i + 6)) m2 = some z) : bL_law_18 (nI i) m = some z := by
  have ad1 : nI i + (1 : Int32) = nI (i + 1) := nI_add i 1
  have ad2 : nI i + (2 : Int32) = nI (i + 2) := nI_add i 2
  have ad3 : nI i + (3 : Int32) = nI (i + 3) := nI_add i 3
  have ad6 : nI i + (6 : Int32) = nI (i + 6) := nI_add i 6
  apply bL_law_18_i
  rw [hS.1, if_neg (ye0 hL hi), yxb hL (show i < L by omega), xgd_t, nI_clamp (show i < 2 ^ 31 by omega), hS.2 i (by omega), hk]
  rw [if_neg (show ¬ nI 15 = (0 : Int32) by decide)]
  rw [if_neg (show ¬ nI 15 = (1 : Int32) by decide)]
  rw [if_neg (show ¬ nI 15 = (2 : Int32) by decide)]
  rw [if_neg (show ¬ nI 15 = (3 : Int32) by decide)]
  rw [if_neg (show ¬ nI 15 = (4 : Int32) by decide)]
  rw [if_neg (show ¬ nI 15 = (5 : Int32) by decide)]
  rw [if_neg (show ¬ nI 15 = (6 : Int32) by decide)]
  rw [if_neg (show ¬ nI 15 = (7 : Int32) by decide)]
  rw [if_neg (show ¬ nI 15 = (8 : Int32) by decide)]
  rw [if_neg (show ¬ nI 15 = (9 : Int32) by decide)]
  rw [if_neg (show ¬ nI 15 = (10 : Int32) by decide)]
  rw [if_neg (show ¬ nI 15 = (11 : Int32) by decide)]
  rw [if_neg (show ¬ nI 15 = (12 : Int32) by decide)]
  rw [if_neg (show ¬ nI 15 = (13 : Int32) by decide)]
  rw [if_neg (show ¬ nI 15 = (14 : Int32) by decide)]
  rw [if_pos (show nI 15 = (15 : Int32) from rfl)]
  rw [ad1, ad2, ad3]
  rw [yxb hL (show i + 1 < L by omega), xgd_t, yxb hL (show i + 2 < L by omega), xgd_t, yxb hL (show i + 3 < L by omega), xgd_t]
  rw [nI_clamp (show i + 1 < 2 ^ 31 by omega), hS.2 (i + 1) (by omega), nI_clamp (show i + 2 < 2 ^ 31 by omega), hS.2 (i + 2) (by omega), nI_clamp (show i + 3 < 2 ^ 31 by omega), hS.2 (i + 3) (by omega)]
  rw [h1, Option.bind_some]
  dsimp only
  rw [hS1.1, yxb hL (show i + 1 < L by omega), xgd_t, yxb hL (show i + 2 < L by omega), xgd_t, yxb hL (show i + 3 < L by omega), xgd_t]
  rw [hS1.2 (i + 1) (by omega), hS1.2 (i + 2) (by omega), hS1.2 (i + 3) (by omega)]
  rw [h2, Option.bind_some]
  dsimp only
  rw [if_pos rfl, ad6]
  exact hz
theorem s_law_16 {L : Nat} {xs : Nat → Int32} (hL : L ≤ 3072) {i : Nat} (hi : i + 6 ≤ L) {m m1 m2 : xmm} (hS : yScr L xs m) (hk : xs i &&& (31 : Int32) = nI 16) {r : Int32} (h1 : fX11_network_0 (xs (i + 1)) m = some (r, m1)) (hS1 : yScr L xs m1) (h2 : fX12_network_144 (xs (i + 1)) m1 = some (r, m2)) {z : Int32 × xmm} (hz : bL_law_18 (nI (i + 6)) m2 = some z) : bL_law_18 (nI i) m = some z := by
  have ad1 : nI i + (1 : Int32) = nI (i + 1) := nI_add i 1
  have ad6 : nI i + (6 : Int32) = nI (i + 6) := nI_add i 6
  apply bL_law_18_i
  rw [hS.1, if_neg (ye0 hL hi), yxb hL (show i < L by omega), xgd_t, nI_clamp (show i < 2 ^ 31 by omega), hS.2 i (by omega), hk]
  rw [if_neg (show ¬ nI 16 = (0 : Int32) by decide)]
  rw [if_neg (show ¬ nI 16 = (1 : Int32) by decide)]
  rw [if_neg (show ¬ nI 16 = (2 : Int32) by decide)]
  rw [if_neg (show ¬ nI 16 = (3 : Int32) by decide)]
  rw [if_neg (show ¬ nI 16 = (4 : Int32) by decide)]
  rw [if_neg (show ¬ nI 16 = (5 : Int32) by decide)]
  rw [if_neg (show ¬ nI 16 = (6 : Int32) by decide)]
  rw [if_neg (show ¬ nI 16 = (7 : Int32) by decide)]
  rw [if_neg (show ¬ nI 16 = (8 : Int32) by decide)]
  rw [if_neg (show ¬ nI 16 = (9 : Int32) by decide)]
  rw [if_neg (show ¬ nI 16 = (10 : Int32) by decide)]
  rw [if_neg (show ¬ nI 16 = (11 : Int32) by decide)]
  rw [if_neg (show ¬ nI 16 = (12 : Int32) by decide)]
  rw [if_neg (show ¬ nI 16 = (13 : Int32) by decide)]
  rw [if_neg (show ¬ nI 16 = (14 : Int32) by decide)]
  rw [if_neg (show ¬ nI 16 = (15 : Int32) by decide)]
  rw [if_pos (show nI 16 = (16 : Int32) from rfl)]
  rw [ad1]
  rw [yxb hL (show i + 1 < L by omega), xgd_t]
  rw [nI_clamp (show i + 1 < 2 ^ 31 by omega), hS.2 (i + 1) (by omega)]
  rw [h1, Option.bind_some]
  dsimp only
  rw [hS1.1, yxb hL (show i + 1 < L by omega), xgd_t]
  rw [hS1.2 (i + 1) (by omega)]
  rw [h2, Option.bind_some]
  dsimp only
  rw [if_pos rfl, ad6]
  exact hz
theorem s_law_17 {L : Nat} {xs : Nat → Int32} (hL : L ≤ 3072) {i : Nat} (hi : i + 6 ≤ L) {m m1 m2 : xmm} (hS : yScr L xs m) (hk : xs i &&& (31 : Int32) = nI 17) {r : Int32} (h1 : fX11_under_0 (xs (i + 1)) (xs (i + 2)) m = some (r, m1)) (hS1 : yScr L xs m1) (h2 : fX12_under_144 (xs (i + 1)) (xs (i + 2)) m1 = some (r, m2)) {z : Int32 × xmm} (hz : bL_law_18 (nI (i + 6)) m2 = some z) : bL_law_18 (nI i) m = some z := by
  have ad1 : nI i + (1 : Int32) = nI (i + 1) := nI_add i 1
  have ad2 : nI i + (2 : Int32) = nI (i + 2) := nI_add i 2
  have ad6 : nI i + (6 : Int32) = nI (i + 6) := nI_add i 6
  apply bL_law_18_i
  rw [hS.1, if_neg (ye0 hL hi), yxb hL (show i < L by omega), xgd_t, nI_clamp (show i < 2 ^ 31 by omega), hS.2 i (by omega), hk]
  rw [if_neg (show ¬ nI 17 = (0 : Int32) by decide)]
  rw [if_neg (show ¬ nI 17 = (1 : Int32) by decide)]
  rw [if_neg (show ¬ nI 17 = (2 : Int32) by decide)]
  rw [if_neg (show ¬ nI 17 = (3 : Int32) by decide)]
  rw [if_neg (show ¬ nI 17 = (4 : Int32) by decide)]
  rw [if_neg (show ¬ nI 17 = (5 : Int32) by decide)]
  rw [if_neg (show ¬ nI 17 = (6 : Int32) by decide)]
  rw [if_neg (show ¬ nI 17 = (7 : Int32) by decide)]
  rw [if_neg (show ¬ nI 17 = (8 : Int32) by decide)]
  rw [if_neg (show ¬ nI 17 = (9 : Int32) by decide)]
  rw [if_neg (show ¬ nI 17 = (10 : Int32) by decide)]
  rw [if_neg (show ¬ nI 17 = (11 : Int32) by decide)]
  rw [if_neg (show ¬ nI 17 = (12 : Int32) by decide)]
  rw [if_neg (show ¬ nI 17 = (13 : Int32) by decide)]
  rw [if_neg (show ¬ nI 17 = (14 : Int32) by decide)]
  rw [if_neg (show ¬ nI 17 = (15 : Int32) by decide)]
  rw [if_neg (show ¬ nI 17 = (16 : Int32) by decide)]
  rw [if_pos (show nI 17 = (17 : Int32) from rfl)]
  rw [ad1, ad2]
  rw [yxb hL (show i + 1 < L by omega), xgd_t, yxb hL (show i + 2 < L by omega), xgd_t]
  rw [nI_clamp (show i + 1 < 2 ^ 31 by omega), hS.2 (i + 1) (by omega), nI_clamp (show i + 2 < 2 ^ 31 by omega), hS.2 (i + 2) (by omega)]
  rw [h1, Option.bind_some]
  dsimp only
  rw [hS1.1, yxb hL (show i + 1 < L by omega), xgd_t, yxb hL (show i + 2 < L by omega), xgd_t]
  rw [hS1.2 (i + 1) (by omega), hS1.2 (i + 2) (by omega)]
  rw [h2, Option.bind_some]
  dsimp only
  rw [if_pos rfl, ad6]
  exact hz
theorem s_law_18 {L : Nat} {xs : Nat → Int32} (hL : L ≤ 3072) {i : Nat} (hi : i + 6 ≤ L) {m m1 m2 : xmm} (hS : yScr L xs m) (hk : xs i &&& (31 : Int32) = nI 18) {r : Int32} (h1 : fX11_post_0 (xs (i + 1)) (xs (i + 2)) m = some (r, m1)) (hS1 : yScr L xs m1) (h2 : fX12_post_144 (xs (i + 1)) (xs (i + 2)) m1 = some (r, m2)) {z : Int32 × xmm} (hz : bL_law_18 (nI (i + 6)) m2 = some z) : bL_law_18 (nI i) m = some z := by
  have ad1 : nI i + (1 : Int32) = nI (i + 1) := nI_add i 1
  have ad2 : nI i + (2 : Int32) = nI (i + 2) := nI_add i 2
  have ad6 : nI i + (6 : Int32) = nI (i + 6) := nI_add i 6
  apply bL_law_18_i
  rw [hS.1, if_neg (ye0 hL hi), yxb hL (show i < L by omega), xgd_t, nI_clamp (show i < 2 ^ 31 by omega), hS.2 i (by omega), hk]
  rw [if_neg (show ¬ nI 18 = (0 : Int32) by decide)]
  rw [if_neg (show ¬ nI 18 = (1 : Int32) by decide)]
  rw [if_neg (show ¬ nI 18 = (2 : Int32) by decide)]
  rw [if_neg (show ¬ nI 18 = (3 : Int32) by decide)]
  rw [if_neg (show ¬ nI 18 = (4 : Int32) by decide)]
  rw [if_neg (show ¬ nI 18 = (5 : Int32) by decide)]
  rw [if_neg (show ¬ nI 18 = (6 : Int32) by decide)]
  rw [if_neg (show ¬ nI 18 = (7 : Int32) by decide)]
  rw [if_neg (show ¬ nI 18 = (8 : Int32) by decide)]
  rw [if_neg (show ¬ nI 18 = (9 : Int32) by decide)]
  rw [if_neg (show ¬ nI 18 = (10 : Int32) by decide)]
  rw [if_neg (show ¬ nI 18 = (11 : Int32) by decide)]
  rw [if_neg (show ¬ nI 18 = (12 : Int32) by decide)]
  rw [if_neg (show ¬ nI 18 = (13 : Int32) by decide)]
  rw [if_neg (show ¬ nI 18 = (14 : Int32) by decide)]
  rw [if_neg (show ¬ nI 18 = (15 : Int32) by decide)]
  rw [if_neg (show ¬ nI 18 = (16 : Int32) by decide)]
  rw [if_neg (show ¬ nI 18 = (17 : Int32) by decide)]
  rw [if_pos (show nI 18 = (18 : Int32) from rfl)]
  rw [ad1, ad2]
  rw [yxb hL (show i + 1 < L by omega), xgd_t, yxb hL (show i + 2 < L by omega), xgd_t]
  rw [nI_clamp (show i + 1 < 2 ^ 31 by omega), hS.2 (i + 1) (by omega), nI_clamp (show i + 2 < 2 ^ 31 by omega), hS.2 (i + 2) (by omega)]
  rw [h1, Option.bind_some]
  dsimp only
  rw [hS1.1, yxb hL (show i + 1 < L by omega), xgd_t, yxb hL (show i + 2 < L by omega), xgd_t]
  rw [hS1.2 (i + 1) (by omega), hS1.2 (i + 2) (by omega)]
  rw [h2, Option.bind_some]
  dsimp only
  rw [if_pos rfl, ad6]
  exact hz
theorem s_law_19 {L : Nat} {xs : Nat → Int32} (hL : L ≤ 3072) {i : Nat} (hi : i + 6 ≤ L) {m m1 m2 : xmm} (hS : yScr L xs m) (hk : xs i &&& (31 : Int32) = nI 19) {r : Int32} (h1 : fX11_order_0 (xs (i + 1)) m = some (r, m1)) (hS1 : yScr L xs m1) (h2 : fX12_order_144 (xs (i + 1)) m1 = some (r, m2)) {z : Int32 × xmm} (hz : bL_law_18 (nI (i + 6)) m2 = some z) : bL_law_18 (nI i) m = some z := by
  have ad1 : nI i + (1 : Int32) = nI (i + 1) := nI_add i 1
  have ad6 : nI i + (6 : Int32) = nI (i + 6) := nI_add i 6
  apply bL_law_18_i
  rw [hS.1, if_neg (ye0 hL hi), yxb hL (show i < L by omega), xgd_t, nI_clamp (show i < 2 ^ 31 by omega), hS.2 i (by omega), hk]
  rw [if_neg (show ¬ nI 19 = (0 : Int32) by decide)]
  rw [if_neg (show ¬ nI 19 = (1 : Int32) by decide)]
  rw [if_neg (show ¬ nI 19 = (2 : Int32) by decide)]
  rw [if_neg (show ¬ nI 19 = (3 : Int32) by decide)]
  rw [if_neg (show ¬ nI 19 = (4 : Int32) by decide)]
  rw [if_neg (show ¬ nI 19 = (5 : Int32) by decide)]
  rw [if_neg (show ¬ nI 19 = (6 : Int32) by decide)]
  rw [if_neg (show ¬ nI 19 = (7 : Int32) by decide)]
  rw [if_neg (show ¬ nI 19 = (8 : Int32) by decide)]
  rw [if_neg (show ¬ nI 19 = (9 : Int32) by decide)]
  rw [if_neg (show ¬ nI 19 = (10 : Int32) by decide)]
  rw [if_neg (show ¬ nI 19 = (11 : Int32) by decide)]
  rw [if_neg (show ¬ nI 19 = (12 : Int32) by decide)]
  rw [if_neg (show ¬ nI 19 = (13 : Int32) by decide)]
  rw [if_neg (show ¬ nI 19 = (14 : Int32) by decide)]
  rw [if_neg (show ¬ nI 19 = (15 : Int32) by decide)]
  rw [if_neg (show ¬ nI 19 = (16 : Int32) by decide)]
  rw [if_neg (show ¬ nI 19 = (17 : Int32) by decide)]
  rw [if_neg (show ¬ nI 19 = (18 : Int32) by decide)]
  rw [if_pos (show nI 19 = (19 : Int32) from rfl)]
  rw [ad1]
  rw [yxb hL (show i + 1 < L by omega), xgd_t]
  rw [nI_clamp (show i + 1 < 2 ^ 31 by omega), hS.2 (i + 1) (by omega)]
  rw [h1, Option.bind_some]
  dsimp only
  rw [hS1.1, yxb hL (show i + 1 < L by omega), xgd_t]
  rw [hS1.2 (i + 1) (by omega)]
  rw [h2, Option.bind_some]
  dsimp only
  rw [if_pos rfl, ad6]
  exact hz
theorem s_law_20 {L : Nat} {xs : Nat → Int32} (hL : L ≤ 3072) {i : Nat} (hi : i + 6 ≤ L) {m m1 m2 : xmm} (hS : yScr L xs m) (hk : xs i &&& (31 : Int32) = nI 20) {r : Int32} (h1 : fX11_chain_0 (xs (i + 1)) m = some (r, m1)) (hS1 : yScr L xs m1) (h2 : fX12_chain_144 (xs (i + 1)) m1 = some (r, m2)) {z : Int32 × xmm} (hz : bL_law_18 (nI (i + 6)) m2 = some z) : bL_law_18 (nI i) m = some z := by
  have ad1 : nI i + (1 : Int32) = nI (i + 1) := nI_add i 1
  have ad6 : nI i + (6 : Int32) = nI (i + 6) := nI_add i 6
  apply bL_law_18_i
  rw [hS.1, if_neg (ye0 hL hi), yxb hL (show i < L by omega), xgd_t, nI_clamp (show i < 2 ^ 31 by omega), hS.2 i (by omega), hk]
  rw [if_neg (show ¬ nI 20 = (0 : Int32) by decide)]
  rw [if_neg (show ¬ nI 20 = (1 : Int32) by decide)]
  rw [if_neg (show ¬ nI 20 = (2 : Int32) by decide)]
  rw [if_neg (show ¬ nI 20 = (3 : Int32) by decide)]
  rw [if_neg (show ¬ nI 20 = (4 : Int32) by decide)]
  rw [if_neg (show ¬ nI 20 = (5 : Int32) by decide)]
  rw [if_neg (show ¬ nI 20 = (6 : Int32) by decide)]
  rw [if_neg (show ¬ nI 20 = (7 : Int32) by decide)]
  rw [if_neg (show ¬ nI 20 = (8 : Int32) by decide)]
  rw [if_neg (show ¬ nI 20 = (9 : Int32) by decide)]
  rw [if_neg (show ¬ nI 20 = (10 : Int32) by decide)]
  rw [if_neg (show ¬ nI 20 = (11 : Int32) by decide)]
  rw [if_neg (show ¬ nI 20 = (12 : Int32) by decide)]
  rw [if_neg (show ¬ nI 20 = (13 : Int32) by decide)]
  rw [if_neg (show ¬ nI 20 = (14 : Int32) by decide)]
  rw [if_neg (show ¬ nI 20 = (15 : Int32) by decide)]
  rw [if_neg (show ¬ nI 20 = (16 : Int32) by decide)]
  rw [if_neg (show ¬ nI 20 = (17 : Int32) by decide)]
  rw [if_neg (show ¬ nI 20 = (18 : Int32) by decide)]
  rw [if_neg (show ¬ nI 20 = (19 : Int32) by decide)]
  rw [if_pos (show nI 20 = (20 : Int32) from rfl)]
  rw [ad1]
  rw [yxb hL (show i + 1 < L by omega), xgd_t]
  rw [nI_clamp (show i + 1 < 2 ^ 31 by omega), hS.2 (i + 1) (by omega)]
  rw [h1, Option.bind_some]
  dsimp only
  rw [hS1.1, yxb hL (show i + 1 < L by omega), xgd_t]
  rw [hS1.2 (i + 1) (by omega)]
  rw [h2, Option.bind_some]
  dsimp only
  rw [if_pos rfl, ad6]
  exact hz
theorem s_law_21 {L : Nat} {xs : Nat → Int32} (hL : L ≤ 3072) {i : Nat} (hi : i + 6 ≤ L) {m m1 m2 : xmm} (hS : yScr L xs m) (hk : xs i &&& (31 : Int32) = nI 21) {r : Int32} (h1 : fX11_straight_0 (xs (i + 1)) (xs (i + 2)) m = some (r, m1)) (hS1 : yScr L xs m1) (h2 : fX12_straight_144 (xs (i + 1)) (xs (i + 2)) m1 = some (r, m2)) {z : Int32 × xmm} (hz : bL_law_18 (nI (i + 6)) m2 = some z) : bL_law_18 (nI i) m = some z := by
  have ad1 : nI i + (1 : Int32) = nI (i + 1) := nI_add i 1
  have ad2 : nI i + (2 : Int32) = nI (i + 2) := nI_add i 2
  have ad6 : nI i + (6 : Int32) = nI (i + 6) := nI_add i 6
  apply bL_law_18_i
  rw [hS.1, if_neg (ye0 hL hi), yxb hL (show i < L by omega), xgd_t, nI_clamp (show i < 2 ^ 31 by omega), hS.2 i (by omega), hk]
  rw [if_neg (show ¬ nI 21 = (0 : Int32) by decide)]
  rw [if_neg (show ¬ nI 21 = (1 : Int32) by decide)]
  rw [if_neg (show ¬ nI 21 = (2 : Int32) by decide)]
  rw [if_neg (show ¬ nI 21 = (3 : Int32) by decide)]
  rw [if_neg (show ¬ nI 21 = (4 : Int32) by decide)]
  rw [if_neg (show ¬ nI 21 = (5 : Int32) by decide)]
  rw [if_neg (show ¬ nI 21 = (6 : Int32) by decide)]
  rw [if_neg (show ¬ nI 21 = (7 : Int32) by decide)]
  rw [if_neg (show ¬ nI 21 = (8 : Int32) by decide)]
  rw [if_neg (show ¬ nI 21 = (9 : Int32) by decide)]
  rw [if_neg (show ¬ nI 21 = (10 : Int32) by decide)]
  rw [if_neg (show ¬ nI 21 = (11 : Int32) by decide)]
  rw [if_neg (show ¬ nI 21 = (12 : Int32) by decide)]
  rw [if_neg (show ¬ nI 21 = (13 : Int32) by decide)]
  rw [if_neg (show ¬ nI 21 = (14 : Int32) by decide)]
  rw [if_neg (show ¬ nI 21 = (15 : Int32) by decide)]
  rw [if_neg (show ¬ nI 21 = (16 : Int32) by decide)]
  rw [if_neg (show ¬ nI 21 = (17 : Int32) by decide)]
  rw [if_neg (show ¬ nI 21 = (18 : Int32) by decide)]
  rw [if_neg (show ¬ nI 21 = (19 : Int32) by decide)]
  rw [if_neg (show ¬ nI 21 = (20 : Int32) by decide)]
  rw [if_pos (show nI 21 = (21 : Int32) from rfl)]
  rw [ad1, ad2]
  rw [yxb hL (show i + 1 < L by omega), xgd_t, yxb hL (show i + 2 < L by omega), xgd_t]
  rw [nI_clamp (show i + 1 < 2 ^ 31 by omega), hS.2 (i + 1) (by omega), nI_clamp (show i + 2 < 2 ^ 31 by omega), hS.2 (i + 2) (by omega)]
  rw [h1, Option.bind_some]
  dsimp only
  rw [hS1.1, yxb hL (show i + 1 < L by omega), xgd_t, yxb hL (show i + 2 < L by omega), xgd_t]
  rw [hS1.2 (i + 1) (by omega), hS1.2 (i + 2) (by omega)]
  rw [h2, Option.bind_some]
  dsimp only
  rw [if_pos rfl, ad6]
  exact hz
theorem s_law_22 {L : Nat} {xs : Nat → Int32} (hL : L ≤ 3072) {i : Nat} (hi : i + 6 ≤ L) {m m1 m2 : xmm} (hS : yScr L xs m) (hk : xs i &&& (31 : Int32) = nI 22) {r : Int32} (h1 : fX11_sign_0 (xs (i + 1)) (xs (i + 2)) m = some (r, m1)) (hS1 : yScr L xs m1) (h2 : fX12_sign_144 (xs (i + 1)) (xs (i + 2)) m1 = some (r, m2)) {z : Int32 × xmm} (hz : bL_law_18 (nI (i + 6)) m2 = some z) : bL_law_18 (nI i) m = some z := by
  have ad1 : nI i + (1 : Int32) = nI (i + 1) := nI_add i 1
  have ad2 : nI i + (2 : Int32) = nI (i + 2) := nI_add i 2
  have ad6 : nI i + (6 : Int32) = nI (i + 6) := nI_add i 6
  apply bL_law_18_i
  rw [hS.1, if_neg (ye0 hL hi), yxb hL (show i < L by omega), xgd_t, nI_clamp (show i < 2 ^ 31 by omega), hS.2 i (by omega), hk]
  rw [if_neg (show ¬ nI 22 = (0 : Int32) by decide)]
  rw [if_neg (show ¬ nI 22 = (1 : Int32) by decide)]
  rw [if_neg (show ¬ nI 22 = (2 : Int32) by decide)]
  rw [if_neg (show ¬ nI 22 = (3 : Int32) by decide)]
  rw [if_neg (show ¬ nI 22 = (4 : Int32) by decide)]
  rw [if_neg (show ¬ nI 22 = (5 : Int32) by decide)]
  rw [if_neg (show ¬ nI 22 = (6 : Int32) by decide)]
  rw [if_neg (show ¬ nI 22 = (7 : Int32) by decide)]
  rw [if_neg (show ¬ nI 22 = (8 : Int32) by decide)]
  rw [if_neg (show ¬ nI 22 = (9 : Int32) by decide)]
  rw [if_neg (show ¬ nI 22 = (10 : Int32) by decide)]
  rw [if_neg (show ¬ nI 22 = (11 : Int32) by decide)]
  rw [if_neg (show ¬ nI 22 = (12 : Int32) by decide)]
  rw [if_neg (show ¬ nI 22 = (13 : Int32) by decide)]
  rw [if_neg (show ¬ nI 22 = (14 : Int32) by decide)]
  rw [if_neg (show ¬ nI 22 = (15 : Int32) by decide)]
  rw [if_neg (show ¬ nI 22 = (16 : Int32) by decide)]
  rw [if_neg (show ¬ nI 22 = (17 : Int32) by decide)]
  rw [if_neg (show ¬ nI 22 = (18 : Int32) by decide)]
  rw [if_neg (show ¬ nI 22 = (19 : Int32) by decide)]
  rw [if_neg (show ¬ nI 22 = (20 : Int32) by decide)]
  rw [if_neg (show ¬ nI 22 = (21 : Int32) by decide)]
  rw [if_pos (show nI 22 = (22 : Int32) from rfl)]
  rw [ad1, ad2]
  rw [yxb hL (show i + 1 < L by omega), xgd_t, yxb hL (show i + 2 < L by omega), xgd_t]
  rw [nI_clamp (show i + 1 < 2 ^ 31 by omega), hS.2 (i + 1) (by omega), nI_clamp (show i + 2 < 2 ^ 31 by omega), hS.2 (i + 2) (by omega)]
  rw [h1, Option.bind_some]
  dsimp only
  rw [hS1.1, yxb hL (show i + 1 < L by omega), xgd_t, yxb hL (show i + 2 < L by omega), xgd_t]
  rw [hS1.2 (i + 1) (by omega), hS1.2 (i + 2) (by omega)]
  rw [h2, Option.bind_some]
  dsimp only
  rw [if_pos rfl, ad6]
  exact hz
theorem s_law_23 {L : Nat} {xs : Nat → Int32} (hL : L ≤ 3072) {i : Nat} (hi : i + 6 ≤ L) {m m1 m2 : xmm} (hS : yScr L xs m) (hk : xs i &&& (31 : Int32) = nI 23) {r : Int32} (h1 : fX11_colours_0 (xs (i + 1)) m = some (r, m1)) (hS1 : yScr L xs m1) (h2 : fX12_colours_144 (xs (i + 1)) m1 = some (r, m2)) {z : Int32 × xmm} (hz : bL_law_18 (nI (i + 6)) m2 = some z) : bL_law_18 (nI i) m = some z := by
  have ad1 : nI i + (1 : Int32) = nI (i + 1) := nI_add i 1
  have ad6 : nI i + (6 : Int32) = nI (i + 6) := nI_add i 6
  apply bL_law_18_i
  rw [hS.1, if_neg (ye0 hL hi), yxb hL (show i < L by omega), xgd_t, nI_clamp (show i < 2 ^ 31 by omega), hS.2 i (by omega), hk]
  rw [if_neg (show ¬ nI 23 = (0 : Int32) by decide)]
  rw [if_neg (show ¬ nI 23 = (1 : Int32) by decide)]
  rw [if_neg (show ¬ nI 23 = (2 : Int32) by decide)]
  rw [if_neg (show ¬ nI 23 = (3 : Int32) by decide)]
  rw [if_neg (show ¬ nI 23 = (4 : Int32) by decide)]
  rw [if_neg (show ¬ nI 23 = (5 : Int32) by decide)]
  rw [if_neg (show ¬ nI 23 = (6 : Int32) by decide)]
  rw [if_neg (show ¬ nI 23 = (7 : Int32) by decide)]
  rw [if_neg (show ¬ nI 23 = (8 : Int32) by decide)]
  rw [if_neg (show ¬ nI 23 = (9 : Int32) by decide)]
  rw [if_neg (show ¬ nI 23 = (10 : Int32) by decide)]
  rw [if_neg (show ¬ nI 23 = (11 : Int32) by decide)]
  rw [if_neg (show ¬ nI 23 = (12 : Int32) by decide)]
  rw [if_neg (show ¬ nI 23 = (13 : Int32) by decide)]
  rw [if_neg (show ¬ nI 23 = (14 : Int32) by decide)]
  rw [if_neg (show ¬ nI 23 = (15 : Int32) by decide)]
  rw [if_neg (show ¬ nI 23 = (16 : Int32) by decide)]
  rw [if_neg (show ¬ nI 23 = (17 : Int32) by decide)]
  rw [if_neg (show ¬ nI 23 = (18 : Int32) by decide)]
  rw [if_neg (show ¬ nI 23 = (19 : Int32) by decide)]
  rw [if_neg (show ¬ nI 23 = (20 : Int32) by decide)]
  rw [if_neg (show ¬ nI 23 = (21 : Int32) by decide)]
  rw [if_neg (show ¬ nI 23 = (22 : Int32) by decide)]
  rw [if_pos (show nI 23 = (23 : Int32) from rfl)]
  rw [ad1]
  rw [yxb hL (show i + 1 < L by omega), xgd_t]
  rw [nI_clamp (show i + 1 < 2 ^ 31 by omega), hS.2 (i + 1) (by omega)]
  rw [h1, Option.bind_some]
  dsimp only
  rw [hS1.1, yxb hL (show i + 1 < L by omega), xgd_t]
  rw [hS1.2 (i + 1) (by omega)]
  rw [h2, Option.bind_some]
  dsimp only
  rw [if_pos rfl, ad6]
  exact hz
theorem s_law_24 {L : Nat} {xs : Nat → Int32} (hL : L ≤ 3072) {i : Nat} (hi : i + 6 ≤ L) {m m1 m2 : xmm} (hS : yScr L xs m) (hk : xs i &&& (31 : Int32) = nI 24) {r : Int32} (h1 : fX11_set_0 (xs (i + 1)) (xs (i + 2)) m = some (r, m1)) (hS1 : yScr L xs m1) (h2 : fX12_set_144 (xs (i + 1)) (xs (i + 2)) m1 = some (r, m2)) {z : Int32 × xmm} (hz : bL_law_18 (nI (i + 6)) m2 = some z) : bL_law_18 (nI i) m = some z := by
  have ad1 : nI i + (1 : Int32) = nI (i + 1) := nI_add i 1
  have ad2 : nI i + (2 : Int32) = nI (i + 2) := nI_add i 2
  have ad6 : nI i + (6 : Int32) = nI (i + 6) := nI_add i 6
  apply bL_law_18_i
  rw [hS.1, if_neg (ye0 hL hi), yxb hL (show i < L by omega), xgd_t, nI_clamp (show i < 2 ^ 31 by omega), hS.2 i (by omega), hk]
  rw [if_neg (show ¬ nI 24 = (0 : Int32) by decide)]
  rw [if_neg (show ¬ nI 24 = (1 : Int32) by decide)]
  rw [if_neg (show ¬ nI 24 = (2 : Int32) by decide)]
  rw [if_neg (show ¬ nI 24 = (3 : Int32) by decide)]
  rw [if_neg (show ¬ nI 24 = (4 : Int32) by decide)]
  rw [if_neg (show ¬ nI 24 = (5 : Int32) by decide)]
  rw [if_neg (show ¬ nI 24 = (6 : Int32) by decide)]
  rw [if_neg (show ¬ nI 24 = (7 : Int32) by decide)]
  rw [if_neg (show ¬ nI 24 = (8 : Int32) by decide)]
  rw [if_neg (show ¬ nI 24 = (9 : Int32) by decide)]
  rw [if_neg (show ¬ nI 24 = (10 : Int32) by decide)]
  rw [if_neg (show ¬ nI 24 = (11 : Int32) by decide)]
  rw [if_neg (show ¬ nI 24 = (12 : Int32) by decide)]
  rw [if_neg (show ¬ nI 24 = (13 : Int32) by decide)]
  rw [if_neg (show ¬ nI 24 = (14 : Int32) by decide)]
  rw [if_neg (show ¬ nI 24 = (15 : Int32) by decide)]
  rw [if_neg (show ¬ nI 24 = (16 : Int32) by decide)]
  rw [if_neg (show ¬ nI 24 = (17 : Int32) by decide)]
  rw [if_neg (show ¬ nI 24 = (18 : Int32) by decide)]
  rw [if_neg (show ¬ nI 24 = (19 : Int32) by decide)]
  rw [if_neg (show ¬ nI 24 = (20 : Int32) by decide)]
  rw [if_neg (show ¬ nI 24 = (21 : Int32) by decide)]
  rw [if_neg (show ¬ nI 24 = (22 : Int32) by decide)]
  rw [if_neg (show ¬ nI 24 = (23 : Int32) by decide)]
  rw [if_pos (show nI 24 = (24 : Int32) from rfl)]
  rw [ad1, ad2]
  rw [yxb hL (show i + 1 < L by omega), xgd_t, yxb hL (show i + 2 < L by omega), xgd_t]
  rw [nI_clamp (show i + 1 < 2 ^ 31 by omega), hS.2 (i + 1) (by omega), nI_clamp (show i + 2 < 2 ^ 31 by omega), hS.2 (i + 2) (by omega)]
  rw [h1, Option.bind_some]
  dsimp only
  rw [hS1.1, yxb hL (show i + 1 < L by omega), xgd_t, yxb hL (show i + 2 < L by omega), xgd_t]
  rw [hS1.2 (i + 1) (by omega), hS1.2 (i + 2) (by omega)]
  rw [h2, Option.bind_some]
  dsimp only
  rw [if_pos rfl, ad6]
  exact hz
theorem s_law_25 {L : Nat} {xs : Nat → Int32} (hL : L ≤ 3072) {i : Nat} (hi : i + 6 ≤ L) {m m1 m2 : xmm} (hS : yScr L xs m) (hk : xs i &&& (31 : Int32) = nI 25) {r : Int32} (h1 : fX11_like_0 (xs (i + 1)) m = some (r, m1)) (hS1 : yScr L xs m1) (h2 : fX12_like_144 (xs (i + 1)) m1 = some (r, m2)) {z : Int32 × xmm} (hz : bL_law_18 (nI (i + 6)) m2 = some z) : bL_law_18 (nI i) m = some z := by
  have ad1 : nI i + (1 : Int32) = nI (i + 1) := nI_add i 1
  have ad6 : nI i + (6 : Int32) = nI (i + 6) := nI_add i 6
  apply bL_law_18_i
  rw [hS.1, if_neg (ye0 hL hi), yxb hL (show i < L by omega), xgd_t, nI_clamp (show i < 2 ^ 31 by omega), hS.2 i (by omega), hk]
  rw [if_neg (show ¬ nI 25 = (0 : Int32) by decide)]
  rw [if_neg (show ¬ nI 25 = (1 : Int32) by decide)]
  rw [if_neg (show ¬ nI 25 = (2 : Int32) by decide)]
  rw [if_neg (show ¬ nI 25 = (3 : Int32) by decide)]
  rw [if_neg (show ¬ nI 25 = (4 : Int32) by decide)]
  rw [if_neg (show ¬ nI 25 = (5 : Int32) by decide)]
  rw [if_neg (show ¬ nI 25 = (6 : Int32) by decide)]
  rw [if_neg (show ¬ nI 25 = (7 : Int32) by decide)]
  rw [if_neg (show ¬ nI 25 = (8 : Int32) by decide)]
  rw [if_neg (show ¬ nI 25 = (9 : Int32) by decide)]
  rw [if_neg (show ¬ nI 25 = (10 : Int32) by decide)]
  rw [if_neg (show ¬ nI 25 = (11 : Int32) by decide)]
  rw [if_neg (show ¬ nI 25 = (12 : Int32) by decide)]
  rw [if_neg (show ¬ nI 25 = (13 : Int32) by decide)]
  rw [if_neg (show ¬ nI 25 = (14 : Int32) by decide)]
  rw [if_neg (show ¬ nI 25 = (15 : Int32) by decide)]
  rw [if_neg (show ¬ nI 25 = (16 : Int32) by decide)]
  rw [if_neg (show ¬ nI 25 = (17 : Int32) by decide)]
  rw [if_neg (show ¬ nI 25 = (18 : Int32) by decide)]
  rw [if_neg (show ¬ nI 25 = (19 : Int32) by decide)]
  rw [if_neg (show ¬ nI 25 = (20 : Int32) by decide)]
  rw [if_neg (show ¬ nI 25 = (21 : Int32) by decide)]
  rw [if_neg (show ¬ nI 25 = (22 : Int32) by decide)]
  rw [if_neg (show ¬ nI 25 = (23 : Int32) by decide)]
  rw [if_neg (show ¬ nI 25 = (24 : Int32) by decide)]
  rw [if_pos (show nI 25 = (25 : Int32) from rfl)]
  rw [ad1]
  rw [yxb hL (show i + 1 < L by omega), xgd_t]
  rw [nI_clamp (show i + 1 < 2 ^ 31 by omega), hS.2 (i + 1) (by omega)]
  rw [h1, Option.bind_some]
  dsimp only
  rw [hS1.1, yxb hL (show i + 1 < L by omega), xgd_t]
  rw [hS1.2 (i + 1) (by omega)]
  rw [h2, Option.bind_some]
  dsimp only
  rw [if_pos rfl, ad6]
  exact hz
theorem s_law_26 {L : Nat} {xs : Nat → Int32} (hL : L ≤ 3072) {i : Nat} (hi : i + 6 ≤ L) {m m1 m2 : xmm} (hS : yScr L xs m) (hk : xs i &&& (31 : Int32) = nI 26) {r : Int32} (h1 : fX11_hold_0 (xs (i + 1)) m = some (r, m1)) (hS1 : yScr L xs m1) (h2 : fX12_hold_144 (xs (i + 1)) m1 = some (r, m2)) {z : Int32 × xmm} (hz : bL_law_18 (nI (i + 6)) m2 = some z) : bL_law_18 (nI i) m = some z := by
  have ad1 : nI i + (1 : Int32) = nI (i + 1) := nI_add i 1
  have ad6 : nI i + (6 : Int32) = nI (i + 6) := nI_add i 6
  apply bL_law_18_i
  rw [hS.1, if_neg (ye0 hL hi), yxb hL (show i < L by omega), xgd_t, nI_clamp (show i < 2 ^ 31 by omega), hS.2 i (by omega), hk]
  rw [if_neg (show ¬ nI 26 = (0 : Int32) by decide)]
  rw [if_neg (show ¬ nI 26 = (1 : Int32) by decide)]
  rw [if_neg (show ¬ nI 26 = (2 : Int32) by decide)]
  rw [if_neg (show ¬ nI 26 = (3 : Int32) by decide)]
  rw [if_neg (show ¬ nI 26 = (4 : Int32) by decide)]
  rw [if_neg (show ¬ nI 26 = (5 : Int32) by decide)]
  rw [if_neg (show ¬ nI 26 = (6 : Int32) by decide)]
  rw [if_neg (show ¬ nI 26 = (7 : Int32) by decide)]
  rw [if_neg (show ¬ nI 26 = (8 : Int32) by decide)]
  rw [if_neg (show ¬ nI 26 = (9 : Int32) by decide)]
  rw [if_neg (show ¬ nI 26 = (10 : Int32) by decide)]
  rw [if_neg (show ¬ nI 26 = (11 : Int32) by decide)]
  rw [if_neg (show ¬ nI 26 = (12 : Int32) by decide)]
  rw [if_neg (show ¬ nI 26 = (13 : Int32) by decide)]
  rw [if_neg (show ¬ nI 26 = (14 : Int32) by decide)]
  rw [if_neg (show ¬ nI 26 = (15 : Int32) by decide)]
  rw [if_neg (show ¬ nI 26 = (16 : Int32) by decide)]
  rw [if_neg (show ¬ nI 26 = (17 : Int32) by decide)]
  rw [if_neg (show ¬ nI 26 = (18 : Int32) by decide)]
  rw [if_neg (show ¬ nI 26 = (19 : Int32) by decide)]
  rw [if_neg (show ¬ nI 26 = (20 : Int32) by decide)]
  rw [if_neg (show ¬ nI 26 = (21 : Int32) by decide)]
  rw [if_neg (show ¬ nI 26 = (22 : Int32) by decide)]
  rw [if_neg (show ¬ nI 26 = (23 : Int32) by decide)]
  rw [if_neg (show ¬ nI 26 = (24 : Int32) by decide)]
  rw [if_neg (show ¬ nI 26 = (25 : Int32) by decide)]
  rw [if_pos (show nI 26 = (26 : Int32) from rfl)]
  rw [ad1]
  rw [yxb hL (show i + 1 < L by omega), xgd_t]
  rw [nI_clamp (show i + 1 < 2 ^ 31 by omega), hS.2 (i + 1) (by omega)]
  rw [h1, Option.bind_some]
  dsimp only
  rw [hS1.1, yxb hL (show i + 1 < L by omega), xgd_t]
  rw [hS1.2 (i + 1) (by omega)]
  rw [h2, Option.bind_some]
  dsimp only
  rw [if_pos rfl, ad6]
  exact hz
theorem s_law_27 {L : Nat} {xs : Nat → Int32} (hL : L ≤ 3072) {i : Nat} (hi : i + 6 ≤ L) {m m1 m2 : xmm} (hS : yScr L xs m) (hk : xs i &&& (31 : Int32) = nI 27) {r : Int32} (h1 : fX11_restore_0 (xs (i + 1)) m = some (r, m1)) (hS1 : yScr L xs m1) (h2 : fX12_restore_144 (xs (i + 1)) m1 = some (r, m2)) {z : Int32 × xmm} (hz : bL_law_18 (nI (i + 6)) m2 = some z) : bL_law_18 (nI i) m = some z := by
  have ad1 : nI i + (1 : Int32) = nI (i + 1) := nI_add i 1
  have ad6 : nI i + (6 : Int32) = nI (i + 6) := nI_add i 6
  apply bL_law_18_i
  rw [hS.1, if_neg (ye0 hL hi), yxb hL (show i < L by omega), xgd_t, nI_clamp (show i < 2 ^ 31 by omega), hS.2 i (by omega), hk]
  rw [if_neg (show ¬ nI 27 = (0 : Int32) by decide)]
  rw [if_neg (show ¬ nI 27 = (1 : Int32) by decide)]
  rw [if_neg (show ¬ nI 27 = (2 : Int32) by decide)]
  rw [if_neg (show ¬ nI 27 = (3 : Int32) by decide)]
  rw [if_neg (show ¬ nI 27 = (4 : Int32) by decide)]
  rw [if_neg (show ¬ nI 27 = (5 : Int32) by decide)]
  rw [if_neg (show ¬ nI 27 = (6 : Int32) by decide)]
  rw [if_neg (show ¬ nI 27 = (7 : Int32) by decide)]
  rw [if_neg (show ¬ nI 27 = (8 : Int32) by decide)]
  rw [if_neg (show ¬ nI 27 = (9 : Int32) by decide)]
  rw [if_neg (show ¬ nI 27 = (10 : Int32) by decide)]
  rw [if_neg (show ¬ nI 27 = (11 : Int32) by decide)]
  rw [if_neg (show ¬ nI 27 = (12 : Int32) by decide)]
  rw [if_neg (show ¬ nI 27 = (13 : Int32) by decide)]
  rw [if_neg (show ¬ nI 27 = (14 : Int32) by decide)]
  rw [if_neg (show ¬ nI 27 = (15 : Int32) by decide)]
  rw [if_neg (show ¬ nI 27 = (16 : Int32) by decide)]
  rw [if_neg (show ¬ nI 27 = (17 : Int32) by decide)]
  rw [if_neg (show ¬ nI 27 = (18 : Int32) by decide)]
  rw [if_neg (show ¬ nI 27 = (19 : Int32) by decide)]
  rw [if_neg (show ¬ nI 27 = (20 : Int32) by decide)]
  rw [if_neg (show ¬ nI 27 = (21 : Int32) by decide)]
  rw [if_neg (show ¬ nI 27 = (22 : Int32) by decide)]
  rw [if_neg (show ¬ nI 27 = (23 : Int32) by decide)]
  rw [if_neg (show ¬ nI 27 = (24 : Int32) by decide)]
  rw [if_neg (show ¬ nI 27 = (25 : Int32) by decide)]
  rw [if_neg (show ¬ nI 27 = (26 : Int32) by decide)]
  rw [if_pos (show nI 27 = (27 : Int32) from rfl)]
  rw [ad1]
  rw [yxb hL (show i + 1 < L by omega), xgd_t]
  rw [nI_clamp (show i + 1 < 2 ^ 31 by omega), hS.2 (i + 1) (by omega)]
  rw [h1, Option.bind_some]
  dsimp only
  rw [hS1.1, yxb hL (show i + 1 < L by omega), xgd_t]
  rw [hS1.2 (i + 1) (by omega)]
  rw [h2, Option.bind_some]
  dsimp only
  rw [if_pos rfl, ad6]
  exact hz
theorem s_law_28 {L : Nat} {xs : Nat → Int32} (hL : L ≤ 3072) {i : Nat} (hi : i + 6 ≤ L) {m m1 m2 : xmm} (hS : yScr L xs m) (hk : xs i &&& (31 : Int32) = nI 28) {r : Int32} (h1 : fX11_count_0 (xs (i + 1)) m = some (r, m1)) (hS1 : yScr L xs m1) (h2 : fX12_count_144 (xs (i + 1)) m1 = some (r, m2)) {z : Int32 × xmm} (hz : bL_law_18 (nI (i + 6)) m2 = some z) : bL_law_18 (nI i) m = some z := by
  have ad1 : nI i + (1 : Int32) = nI (i + 1) := nI_add i 1
  have ad6 : nI i + (6 : Int32) = nI (i + 6) := nI_add i 6
  apply bL_law_18_i
  rw [hS.1, if_neg (ye0 hL hi), yxb hL (show i < L by omega), xgd_t, nI_clamp (show i < 2 ^ 31 by omega), hS.2 i (by omega), hk]
  rw [if_neg (show ¬ nI 28 = (0 : Int32) by decide)]
  rw [if_neg (show ¬ nI 28 = (1 : Int32) by decide)]
  rw [if_neg (show ¬ nI 28 = (2 : Int32) by decide)]
  rw [if_neg (show ¬ nI 28 = (3 : Int32) by decide)]
  rw [if_neg (show ¬ nI 28 = (4 : Int32) by decide)]
  rw [if_neg (show ¬ nI 28 = (5 : Int32) by decide)]
  rw [if_neg (show ¬ nI 28 = (6 : Int32) by decide)]
  rw [if_neg (show ¬ nI 28 = (7 : Int32) by decide)]
  rw [if_neg (show ¬ nI 28 = (8 : Int32) by decide)]
  rw [if_neg (show ¬ nI 28 = (9 : Int32) by decide)]
  rw [if_neg (show ¬ nI 28 = (10 : Int32) by decide)]
  rw [if_neg (show ¬ nI 28 = (11 : Int32) by decide)]
  rw [if_neg (show ¬ nI 28 = (12 : Int32) by decide)]
  rw [if_neg (show ¬ nI 28 = (13 : Int32) by decide)]
  rw [if_neg (show ¬ nI 28 = (14 : Int32) by decide)]
  rw [if_neg (show ¬ nI 28 = (15 : Int32) by decide)]
  rw [if_neg (show ¬ nI 28 = (16 : Int32) by decide)]
  rw [if_neg (show ¬ nI 28 = (17 : Int32) by decide)]
  rw [if_neg (show ¬ nI 28 = (18 : Int32) by decide)]
  rw [if_neg (show ¬ nI 28 = (19 : Int32) by decide)]
  rw [if_neg (show ¬ nI 28 = (20 : Int32) by decide)]
  rw [if_neg (show ¬ nI 28 = (21 : Int32) by decide)]
  rw [if_neg (show ¬ nI 28 = (22 : Int32) by decide)]
  rw [if_neg (show ¬ nI 28 = (23 : Int32) by decide)]
  rw [if_neg (show ¬ nI 28 = (24 : Int32) by decide)]
  rw [if_neg (show ¬ nI 28 = (25 : Int32) by decide)]
  rw [if_neg (show ¬ nI 28 = (26 : Int32) by decide)]
  rw [if_neg (show ¬ nI 28 = (27 : Int32) by decide)]
  rw [if_pos (show nI 28 = (28 : Int32) from rfl)]
  rw [ad1]
  rw [yxb hL (show i + 1 < L by omega), xgd_t]
  rw [nI_clamp (show i + 1 < 2 ^ 31 by omega), hS.2 (i + 1) (by omega)]
  rw [h1, Option.bind_some]
  dsimp only
  rw [hS1.1, yxb hL (show i + 1 < L by omega), xgd_t]
  rw [hS1.2 (i + 1) (by omega)]
  rw [h2, Option.bind_some]
  dsimp only
  rw [if_pos rfl, ad6]
  exact hz
theorem s_law_x {L : Nat} {xs : Nat → Int32} (hL : L ≤ 3072) {i : Nat} (hi : i + 6 ≤ L) {m : xmm} (hS : yScr L xs m) {k : Nat} (hk : xs i &&& (31 : Int32) = nI k) (h29 : 29 ≤ k) (h32 : k < 32) {z : Int32 × xmm} (hz : bL_law_18 (nI (i + 6)) m = some z) : bL_law_18 (nI i) m = some z := by
  have ad6 : nI i + (6 : Int32) = nI (i + 6) := nI_add i 6
  apply bL_law_18_i
  rw [hS.1, if_neg (ye0 hL hi), yxb hL (show i < L by omega), xgd_t, nI_clamp (show i < 2 ^ 31 by omega), hS.2 i (by omega), hk]
  rw [if_neg (show ¬ nI k = (0 : Int32) from fun t => by have := (nI_eq (b := 0) (by omega) (by decide)).mp t; omega)]
  rw [if_neg (show ¬ nI k = (1 : Int32) from fun t => by have := (nI_eq (b := 1) (by omega) (by decide)).mp t; omega)]
  rw [if_neg (show ¬ nI k = (2 : Int32) from fun t => by have := (nI_eq (b := 2) (by omega) (by decide)).mp t; omega)]
  rw [if_neg (show ¬ nI k = (3 : Int32) from fun t => by have := (nI_eq (b := 3) (by omega) (by decide)).mp t; omega)]
  rw [if_neg (show ¬ nI k = (4 : Int32) from fun t => by have := (nI_eq (b := 4) (by omega) (by decide)).mp t; omega)]
  rw [if_neg (show ¬ nI k = (5 : Int32) from fun t => by have := (nI_eq (b := 5) (by omega) (by decide)).mp t; omega)]
  rw [if_neg (show ¬ nI k = (6 : Int32) from fun t => by have := (nI_eq (b := 6) (by omega) (by decide)).mp t; omega)]
  rw [if_neg (show ¬ nI k = (7 : Int32) from fun t => by have := (nI_eq (b := 7) (by omega) (by decide)).mp t; omega)]
  rw [if_neg (show ¬ nI k = (8 : Int32) from fun t => by have := (nI_eq (b := 8) (by omega) (by decide)).mp t; omega)]
  rw [if_neg (show ¬ nI k = (9 : Int32) from fun t => by have := (nI_eq (b := 9) (by omega) (by decide)).mp t; omega)]
  rw [if_neg (show ¬ nI k = (10 : Int32) from fun t => by have := (nI_eq (b := 10) (by omega) (by decide)).mp t; omega)]
  rw [if_neg (show ¬ nI k = (11 : Int32) from fun t => by have := (nI_eq (b := 11) (by omega) (by decide)).mp t; omega)]
  rw [if_neg (show ¬ nI k = (12 : Int32) from fun t => by have := (nI_eq (b := 12) (by omega) (by decide)).mp t; omega)]
  rw [if_neg (show ¬ nI k = (13 : Int32) from fun t => by have := (nI_eq (b := 13) (by omega) (by decide)).mp t; omega)]
  rw [if_neg (show ¬ nI k = (14 : Int32) from fun t => by have := (nI_eq (b := 14) (by omega) (by decide)).mp t; omega)]
  rw [if_neg (show ¬ nI k = (15 : Int32) from fun t => by have := (nI_eq (b := 15) (by omega) (by decide)).mp t; omega)]
  rw [if_neg (show ¬ nI k = (16 : Int32) from fun t => by have := (nI_eq (b := 16) (by omega) (by decide)).mp t; omega)]
  rw [if_neg (show ¬ nI k = (17 : Int32) from fun t => by have := (nI_eq (b := 17) (by omega) (by decide)).mp t; omega)]
  rw [if_neg (show ¬ nI k = (18 : Int32) from fun t => by have := (nI_eq (b := 18) (by omega) (by decide)).mp t; omega)]
  rw [if_neg (show ¬ nI k = (19 : Int32) from fun t => by have := (nI_eq (b := 19) (by omega) (by decide)).mp t; omega)]
  rw [if_neg (show ¬ nI k = (20 : Int32) from fun t => by have := (nI_eq (b := 20) (by omega) (by decide)).mp t; omega)]
  rw [if_neg (show ¬ nI k = (21 : Int32) from fun t => by have := (nI_eq (b := 21) (by omega) (by decide)).mp t; omega)]
  rw [if_neg (show ¬ nI k = (22 : Int32) from fun t => by have := (nI_eq (b := 22) (by omega) (by decide)).mp t; omega)]
  rw [if_neg (show ¬ nI k = (23 : Int32) from fun t => by have := (nI_eq (b := 23) (by omega) (by decide)).mp t; omega)]
  rw [if_neg (show ¬ nI k = (24 : Int32) from fun t => by have := (nI_eq (b := 24) (by omega) (by decide)).mp t; omega)]
  rw [if_neg (show ¬ nI k = (25 : Int32) from fun t => by have := (nI_eq (b := 25) (by omega) (by decide)).mp t; omega)]
  rw [if_neg (show ¬ nI k = (26 : Int32) from fun t => by have := (nI_eq (b := 26) (by omega) (by decide)).mp t; omega)]
  rw [if_neg (show ¬ nI k = (27 : Int32) from fun t => by have := (nI_eq (b := 27) (by omega) (by decide)).mp t; omega)]
  rw [if_neg (show ¬ nI k = (28 : Int32) from fun t => by have := (nI_eq (b := 28) (by omega) (by decide)).mp t; omega)]
  rw [ad6]
  exact hz
theorem s_law_end {L : Nat} {xs : Nat → Int32} (hL : L ≤ 3072) {i : Nat} (hi : ¬ i + 6 ≤ L) (hi2 : i < 4000) {m : xmm} (hS : yScr L xs m) : bL_law_18 (nI i) m = some (1, m) := by
  apply bL_law_18_i
  have c : nI L - (6 : Int32) < nI i := by
    rcases Nat.lt_or_ge L 6 with g | g
    · have a : nI L - nI 6 < 0 := pk_sneg (by decide) g
      have b : (0 : Int32) ≤ nI i := nI_pos' (by omega)
      exact Int32.lt_of_lt_of_le a b
    · have e : nI L - (6 : Int32) = nI (L - 6) := pk_sub (b := 6) g
      rw [e, nI_ltI (by omega) (by omega)]
      omega
  rw [hS.1, if_pos c]
