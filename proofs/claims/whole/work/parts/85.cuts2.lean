/-! the tokens: the model cuts the text -/
theorem s_appends {c b : Nat} (hb : yLe b) (m : xmm) : fX12_appends (lN c) (nI b) m = some (lN (27 * c + (b - 96)), m) := by
  unfold yLe at hb
  apply fX12_appends_i
  have e : (27 : Int64) = lN 27 := rfl
  rw [if_neg (nI_ne0 (by omega) (by omega)), yl97, pk_sub (by omega), nI_1, nI_l (by omega), e, lN_mul, lN_add]
  rw [show b - 97 + 1 = b - 96 by omega]
theorem s_cut_85 {B : Nat → Nat} {len : Nat} (hB : yBk B len) {s e : Nat} (hr : yzr (fun k => yLe (B k)) s e) (he : e ≤ 2000) {m : xmm} (h : ySM B len m) : ∀ (d n : Nat) (x : Int64), s + n + d = e → (n ≤ 8 → x = lN (y27 B s n)) → ∃ y : Int64, (e - s ≤ 8 → y = lN (y27 B s (e - s))) ∧ ∀ {z : xmm}, bX12_cutsText_144_135 (nI s) (nI (e - s)) y (nI (if e - s ≤ 8 then 1 else 3)) m = some z → bX12_cutsText_144_85 (nI s) (nI n) x m = some z := by
  intro d
  induction d with
  | zero =>
    intro n x hd hx
    have e1 : e - s = n := by omega
    rw [e1]
    refine ⟨x, hx, fun {z} hz' => ?_⟩
    apply bX12_cutsText_144_85_i
    rw [nI_add, s_mByte hB h (by omega), Option.bind_some]
    dsimp only
    rw [s_mLetter (hB.2.1 _), Option.bind_some, yP_f (by rw [show s + n = e by omega]; exact hr.2.2), if_pos rfl]
    dsimp only
    by_cases g : n ≤ 8
    · rw [if_pos g] at hz'
      rw [if_pos (by rw [yl8, nI_leI (by omega) (by decide)]; exact g)]
      exact hz'
    · rw [if_neg g] at hz'
      rw [if_neg (by rw [yl8, nI_leI (by omega) (by decide)]; exact g)]
      exact hz'
  | succ d ih =>
    intro n x hd hx
    have L := hr.2.1 (s + n) (by omega) (by omega)
    have nx : n + 1 ≤ 2001 := by omega
    by_cases g : 8 ≤ n
    · obtain ⟨y, y1, y2⟩ := ih (n + 1) x (by omega) (fun t => by omega)
      refine ⟨y, y1, fun {z} hz => ?_⟩
      apply bX12_cutsText_144_85_i
      rw [nI_add, s_mByte hB h (by omega), Option.bind_some]
      dsimp only
      rw [s_mLetter (hB.2.1 _), Option.bind_some, yP_t L, if_neg yn10]
      dsimp only
      rw [if_pos (by rw [yl8, nI_leI (by decide) (by omega)]; exact g), nI_1]
      exact y2 hz
    · obtain ⟨y, y1, y2⟩ := ih (n + 1) _ (by omega) (fun _ => rfl)
      refine ⟨y, y1, fun {z} hz => ?_⟩
      apply bX12_cutsText_144_85_i
      rw [nI_add, s_mByte hB h (by omega), Option.bind_some]
      dsimp only
      rw [s_mLetter (hB.2.1 _), Option.bind_some, yP_t L, if_neg yn10]
      dsimp only
      rw [if_neg (by rw [yl8, nI_leI (by decide) (by omega)]; exact g), s_mByte hB h (by omega), Option.bind_some]
      dsimp only
      rw [hx (by omega), s_appends L, Option.bind_some]
      dsimp only
      rw [nI_1]
      exact y2 hz
theorem s_cut_207 {B : Nat → Nat} {len : Nat} (hB : yBk B len) {s e : Nat} (hr : yzr (fun k => yDi (B k)) s e) (he : e ≤ 2000) {m : xmm} (h : ySM B len m) : ∀ (d n : Nat) (x : Int32), s + n + d = e → (n ≤ 4 → x = nI (y10 B s n)) → ∃ y : Int32, (e - s ≤ 4 → y = nI (y10 B s (e - s))) ∧ ∀ {z : xmm}, bX12_cutsText_144_260 (nI s) (nI (e - s)) y (nI (if e - s ≤ 4 then 2 else 3)) m = some z → bX12_cutsText_144_207 (nI s) (nI n) x m = some z := by
  intro d
  induction d with
  | zero =>
    intro n x hd hx
    have e1 : e - s = n := by omega
    rw [e1]
    refine ⟨x, hx, fun {z} hz' => ?_⟩
    apply bX12_cutsText_144_207_i
    rw [nI_add, s_mByte hB h (by omega), Option.bind_some]
    dsimp only
    rw [s_mDigit (hB.2.1 _), Option.bind_some, yP_f (by rw [show s + n = e by omega]; exact hr.2.2), if_pos rfl]
    dsimp only
    by_cases g : n ≤ 4
    · rw [if_pos g] at hz'
      rw [if_pos (by rw [yl4, nI_leI (by omega) (by decide)]; exact g)]
      exact hz'
    · rw [if_neg g] at hz'
      rw [if_neg (by rw [yl4, nI_leI (by omega) (by decide)]; exact g)]
      exact hz'
  | succ d ih =>
    intro n x hd hx
    have L := hr.2.1 (s + n) (by omega) (by omega)
    have nx : n + 1 ≤ 2001 := by omega
    by_cases g : 4 ≤ n
    · obtain ⟨y, y1, y2⟩ := ih (n + 1) x (by omega) (fun t => by omega)
      refine ⟨y, y1, fun {z} hz => ?_⟩
      apply bX12_cutsText_144_207_i
      rw [nI_add, s_mByte hB h (by omega), Option.bind_some]
      dsimp only
      rw [s_mDigit (hB.2.1 _), Option.bind_some, yP_t L, if_neg yn10]
      dsimp only
      rw [if_pos (by rw [yl4, nI_leI (by decide) (by omega)]; exact g), nI_1]
      exact y2 hz
    · obtain ⟨y, y1, y2⟩ := ih (n + 1) _ (by omega) (fun _ => rfl)
      refine ⟨y, y1, fun {z} hz => ?_⟩
      have L' : yDi (B (s + n)) := L
      unfold yDi at L'
      apply bX12_cutsText_144_207_i
      rw [nI_add, s_mByte hB h (by omega), Option.bind_some]
      dsimp only
      rw [s_mDigit (hB.2.1 _), Option.bind_some, yP_t L, if_neg yn10]
      dsimp only
      rw [if_neg (by rw [yl4, nI_leI (by decide) (by omega)]; exact g), s_mByte hB h (by omega), Option.bind_some]
      dsimp only
      rw [hx (by omega), yl10, pk_mul, nI_add, yl48, pk_sub (by omega), nI_1]
      exact y2 hz
theorem yzi_b {b : Nat} (hb : b < 256) {α : Type} {x y : α} : (if nI b = (9 : Int32) then x else if nI b = (10 : Int32) then x else if nI b = (13 : Int32) then x else if nI b = (32 : Int32) then x else y) = yif (ywB b) x y := by
  have e9 : nI b = (9 : Int32) ↔ b = 9 := by rw [yl9]; exact nI_eq (by omega) (by decide)
  have e10 : nI b = (10 : Int32) ↔ b = 10 := by rw [yl10]; exact nI_eq (by omega) (by decide)
  have e13 : nI b = (13 : Int32) ↔ b = 13 := by rw [yl13]; exact nI_eq (by omega) (by decide)
  have e32 : nI b = (32 : Int32) ↔ b = 32 := by rw [yl32]; exact nI_eq (by omega) (by decide)
  simp only [e9, e10, e13, e32]
  by_cases c1 : b = 9
  · rw [if_pos c1, yif_t (show ywB b from (Or.inl c1))]
  by_cases c2 : b = 10
  · rw [if_neg c1, if_pos c2, yif_t (show ywB b from (Or.inr (Or.inl c2)))]
  by_cases c3 : b = 13
  · rw [if_neg c1, if_neg c2, if_pos c3, yif_t (show ywB b from (Or.inr (Or.inr (Or.inl c3))))]
  by_cases c4 : b = 32
  · rw [if_neg c1, if_neg c2, if_neg c3, if_pos c4, yif_t (show ywB b from (Or.inr (Or.inr (Or.inr c4))))]
  rw [if_neg c1, if_neg c2, if_neg c3, if_neg c4, yif_f]
  rintro (t | t | t | t)
  · exact c1 t
  · exact c2 t
  · exact c3 t
  · exact c4 t
theorem s_cut_bl {B : Nat → Nat} {len : Nat} (hB : yBk B len) {m : xmm} (h : ySM B len m) {k : Nat} (hk : k ≤ 400) (hT : m.1 144 10 = nI k) {e : Nat} (he : e ≤ len) {z : xmm} (hz : bX12_cutsText_144_7 (nI e) m = some z) : ∀ (d i : Nat), i + d = e → (∀ j, i ≤ j → j < e → ywB (B j)) → bX12_cutsText_144_7 (nI i) m = some z := by
  have b2 := hB.1
  intro d
  induction d with
  | zero =>
    intro i hd _
    have e' : i = e := by omega
    rw [e']
    exact hz
  | succ d ih =>
    intro i hd hw
    have W := hw i (Nat.le_refl i) (by omega)
    have e := ih (i + 1) (by omega) (fun j a b => hw j (by omega) b)
    apply bX12_cutsText_144_7_i
    rw [hT, if_neg (by rw [yl400, nI_ltI (by decide) (by omega)]; omega), s_mByte hB h (by omega), Option.bind_some]
    dsimp only
    rw [h.1, if_pos (nI_lt (by omega) (by omega)), yzi_b (hB.2.1 i), yif_t W, nI_1]
    exact e
theorem s_cuts {B : Nat → Nat} {len : Nat} (hB : yBk B len) : ∀ (f k : Nat) (m : xmm), k + f = 401 → ySM B len m → yKy m → yMT (yzd B len) (yzt B len) (yzvl B len) (yzg B len) k m → ∃ m' K', bX12_cutsText_144_7 (nI (yzp B len k)) m = some m' ∧ yMT (yzd B len) (yzt B len) (yzvl B len) (yzg B len) K' m' ∧ k ≤ K' ∧ K' ≤ 401 ∧ (∀ j, k ≤ j → j < K' → yzd B len j = 9 → j + 1 = K') ∧ (K' = 401 ∨ ∃ j, j + 1 = K' ∧ yzd B len j = 9) ∧ yfm [147, 148, 149, 150] [10] m m' := by
  have b2 := hB.1
  intro f
  induction f with
  | zero =>
    intro k m hk h hK hT
    have e : k = 401 := by omega
    subst e
    refine ⟨m, 401, ?_, hT, Nat.le_refl _, Nat.le_refl _, fun j a b => by omega, Or.inl rfl, yfm_r⟩
    apply bX12_cutsText_144_7_i
    rw [hT.1, if_pos (by decide)]
  | succ f ih =>
    intro k m hk h hK hT
    have tl := yzt_l hB k
    have pl := yzp_l hB k
    have rs : yzr (fun k => ywB (B k)) (yzp B len k) (yzt B len k) := (yzs_s hB pl).1
    have kb : 1 ≤ yzd B len k ∧ yzd B len k ≤ 9 := yzk_b B len (yzt B len k)
    have bb := hB.2.1 (yzt B len k)
    have mm : yzm B len k = yze B len (yzt B len k) - yzt B len k := rfl
    have kd : yzd B len k = yzk B len (yzt B len k) := rfl
    have pn : yzp B len (k + 1) = yze B len (yzt B len k) := rfl
    have sk : ∀ {z : xmm}, bX12_cutsText_144_7 (nI (yzt B len k)) m = some z → bX12_cutsText_144_7 (nI (yzp B len k)) m = some z := fun {z} hz => s_cut_bl hB h (by omega) hT.1 tl.2.1 hz (yzt B len k - yzp B len k) (yzp B len k) (by omega) rs.2.1
    have n4 : ¬ (400 : Int32) < nI k := by rw [yl400, nI_ltI (by decide) (by omega)]; omega
    have goon : ∀ m1, yMT (yzd B len) (yzt B len) (yzvl B len) (yzg B len) (k + 1) m1 → yfm [147, 148, 149, 150] [10] m m1 → yzd B len k ≠ 9 → (∀ {z : xmm}, bX12_cutsText_144_7 (nI (yzp B len (k + 1))) m1 = some z → bX12_cutsText_144_7 (nI (yzp B len k)) m = some z) → ∃ m' K', bX12_cutsText_144_7 (nI (yzp B len k)) m = some m' ∧ yMT (yzd B len) (yzt B len) (yzvl B len) (yzg B len) K' m' ∧ k ≤ K' ∧ K' ≤ 401 ∧ (∀ j, k ≤ j → j < K' → yzd B len j = 9 → j + 1 = K') ∧ (K' = 401 ∨ ∃ j, j + 1 = K' ∧ yzd B len j = 9) ∧ yfm [147, 148, 149, 150] [10] m m' := by
      intro m1 t1 f1 n9 st
      obtain ⟨m', K', a1, a2, a3, a4, a5, a6, a7⟩ := ih (k + 1) m1 (by omega) (ySM_k h f1 (by decide) (by decide)) (fun j hj => by rw [yfr_2 f1.1 151 j (by decide)]; exact hK j hj) t1
      refine ⟨m', K', st a1, a2, by omega, a4, fun j j1 j2 j3 => ?_, a6, yfm_t f1 a7⟩
      by_cases e : j = k
      · exact absurd (by rw [← e]; exact j3) n9
      · exact a5 j (by omega) j2 j3
    by_cases g : yzt B len k < len
    · have hd : ∀ {z : xmm}, ((fX12_isLetter (nI (B (yzt B len k))) m).bind fun (w3 : Int32 × xmm) => if w3.1 = 0 then (fX12_isDigit (nI (B (yzt B len k))) w3.2).bind fun (w5 : Int32 × xmm) => if w5.1 = 0 then (fX12_signAt_144 (nI (yzt B len k)) (nI (B (yzt B len k))) w5.2).bind fun (w7 : Int32 × xmm) => bX12_cutsText_144_7 (nI (yzt B len k) + w7.1) w7.2 else bX12_cutsText_144_207 (nI (yzt B len k)) (0 : Int32) (0 : Int32) w5.2 else bX12_cutsText_144_85 (nI (yzt B len k)) (0 : Int32) (0 : Int64) w3.2) = some z → bX12_cutsText_144_7 (nI (yzp B len k)) m = some z := by
        intro z hz
        apply sk
        apply bX12_cutsText_144_7_i
        rw [hT.1, if_neg n4, s_mByte hB h (by omega), Option.bind_some]
        dsimp only
        rw [h.1, if_pos (nI_lt g (by omega)), yzi_b bb, yif_f rs.2.2]
        exact hz
      rcases yzk_c B len (yzt B len k) with t | t | t | t | t | t | t
      · exact absurd g t.1
      · obtain ⟨_, c1, c2, c3⟩ := t
        obtain ⟨r, e1, e2, _⟩ := yze_l hB tl.2.1 c1
        have LL : ∀ i, i < yzm B len k → yLe (B (yzt B len k + i)) := fun i hi => r.2.1 _ (by omega) (by omega)
        obtain ⟨y, y1, y2⟩ := s_cut_85 hB r (by omega) h (yze B len (yzt B len k) - yzt B len k) 0 0 (by omega) (fun _ => rfl)
        rw [if_pos c2] at y2
        have q := yzq_c B (yzt B len k) (yze B len (yzt B len k) - yzt B len k)
        obtain ⟨m1, d1, d2, d3⟩ := s_token (a := nI (ymk (yzq B (yzt B len k) (yze B len (yzt B len k) - yzt B len k)))) (b := nI (yzt B len k)) (c := 0) (d := y) (show k < 403 by omega) hT (by rw [kd, c3]) rfl (fun u => by omega) (fun _ => y1 c2)
        refine goon m1 d2 d3 (by omega) (fun {z} hz => ?_)
        apply hd
        rw [s_mLetter bb, Option.bind_some, yP_t c1, if_neg yn10]
        apply y2
        rw [y1 c2] at d1 ⊢
        apply bX12_cutsText_144_135_i
        rw [if_neg (by rw [yl8, nI_ltI (by decide) (by omega)]; omega)]
        refine s_keys hK LL c2 _ _ ?_
        apply bX12_cutsText_144_178_i
        rw [mm, d1, Option.bind_some, nI_add, show yzt B len k + (yze B len (yzt B len k) - yzt B len k) = yzp B len (k + 1) by omega]
        exact hz
      · obtain ⟨_, c1, c2, c3⟩ := t
        obtain ⟨r, e1, e2, _⟩ := yze_l hB tl.2.1 c1
        obtain ⟨y, y1, y2⟩ := s_cut_85 hB r (by omega) h (yze B len (yzt B len k) - yzt B len k) 0 0 (by omega) (fun _ => rfl)
        rw [if_neg c2] at y2
        obtain ⟨m1, d1, d2, d3⟩ := s_token (a := nI 3) (b := nI (yzt B len k)) (c := 0) (d := y) (show k < 403 by omega) hT (by rw [kd, c3]; rfl) rfl (fun u => by omega) (fun u => by omega)
        refine goon m1 d2 d3 (by omega) (fun {z} hz => ?_)
        apply hd
        rw [s_mLetter bb, Option.bind_some, yP_t c1, if_neg yn10]
        apply y2
        apply bX12_cutsText_144_135_i
        rw [if_pos (by rw [yl8, nI_ltI (by decide) (by omega)]; omega)]
        apply bX12_cutsText_144_178_i
        rw [d1, Option.bind_some, nI_add, show yzt B len k + (yze B len (yzt B len k) - yzt B len k) = yzp B len (k + 1) by omega]
        exact hz
      · obtain ⟨_, c0, c1, c2, c3⟩ := t
        obtain ⟨r, e1, e2, _⟩ := yze_d hB tl.2.1 c1
        obtain ⟨y, y1, y2⟩ := s_cut_207 hB r (by omega) h (yze B len (yzt B len k) - yzt B len k) 0 0 (by omega) (fun _ => rfl)
        rw [if_pos c2] at y2
        obtain ⟨m1, d1, d2, d3⟩ := s_token (a := nI 2) (b := nI (yzt B len k)) (c := y) (d := 0) (show k < 403 by omega) hT (by rw [kd, c3]; rfl) rfl (fun _ => y1 c2) (fun u => by omega)
        refine goon m1 d2 d3 (by omega) (fun {z} hz => ?_)
        apply hd
        rw [s_mLetter bb, Option.bind_some, yP_f c0, if_pos rfl]
        dsimp only
        rw [s_mDigit bb, Option.bind_some, yP_t c1, if_neg yn10]
        apply y2
        apply bX12_cutsText_144_260_i
        rw [d1, Option.bind_some, nI_add, show yzt B len k + (yze B len (yzt B len k) - yzt B len k) = yzp B len (k + 1) by omega]
        exact hz
      · obtain ⟨_, c0, c1, c2, c3⟩ := t
        obtain ⟨r, e1, e2, _⟩ := yze_d hB tl.2.1 c1
        obtain ⟨y, y1, y2⟩ := s_cut_207 hB r (by omega) h (yze B len (yzt B len k) - yzt B len k) 0 0 (by omega) (fun _ => rfl)
        rw [if_neg c2] at y2
        obtain ⟨m1, d1, d2, d3⟩ := s_token (a := nI 3) (b := nI (yzt B len k)) (c := y) (d := 0) (show k < 403 by omega) hT (by rw [kd, c3]; rfl) rfl (fun u => by omega) (fun u => by omega)
        refine goon m1 d2 d3 (by omega) (fun {z} hz => ?_)
        apply hd
        rw [s_mLetter bb, Option.bind_some, yP_f c0, if_pos rfl]
        dsimp only
        rw [s_mDigit bb, Option.bind_some, yP_t c1, if_neg yn10]
        apply y2
        apply bX12_cutsText_144_260_i
        rw [d1, Option.bind_some, nI_add, show yzt B len k + (yze B len (yzt B len k) - yzt B len k) = yzp B len (k + 1) by omega]
        exact hz
      · obtain ⟨_, c0, c1, c2, c3⟩ := t
        obtain ⟨m1, d1, d2, d3⟩ := s_token (a := nI 4) (b := nI (yzt B len k)) (c := 0) (d := 0) (show k < 403 by omega) hT (by rw [kd, c3]; rfl) rfl (fun u => by omega) (fun u => by omega)
        have d1' : fX12_token_144 (4 : Int32) (nI (yzt B len k)) (0 : Int32) (0 : Int64) m = some m1 := d1
        refine goon m1 d2 d3 (by omega) (fun {z} hz => ?_)
        apply hd
        rw [s_mLetter bb, Option.bind_some, yP_f c0, if_pos rfl]
        dsimp only
        rw [s_mDigit bb, Option.bind_some, yP_f c1, if_pos rfl]
        have sg : fX12_signAt_144 (nI (yzt B len k)) (nI (B (yzt B len k))) m = some (1, m1) := by
          apply fX12_signAt_144_i
          rw [if_pos (by rw [c2]; rfl)]
          apply bX12_signAt_144_12_i
          rw [d1']
          rfl
        dsimp only
        rw [sg, Option.bind_some]
        dsimp only
        rw [nI_1, show yzt B len k + 1 = yzp B len (k + 1) by rw [pn, yze_o c0 c1, yif_t g]]
        exact hz
      · obtain ⟨_, c0, c1, c2, c3⟩ := t
        obtain ⟨m1, d1, d2, d3⟩ := s_token (a := nI 3) (b := nI (yzt B len k)) (c := 0) (d := 0) (show k < 403 by omega) hT (by rw [kd, c3]; rfl) rfl (fun u => by omega) (fun u => by omega)
        have d1' : fX12_token_144 (3 : Int32) (nI (yzt B len k)) (0 : Int32) (0 : Int64) m = some m1 := d1
        refine goon m1 d2 d3 (by omega) (fun {z} hz => ?_)
        apply hd
        rw [s_mLetter bb, Option.bind_some, yP_f c0, if_pos rfl]
        dsimp only
        rw [s_mDigit bb, Option.bind_some, yP_f c1, if_pos rfl]
        have sg : fX12_signAt_144 (nI (yzt B len k)) (nI (B (yzt B len k))) m = some (1, m1) := by
          apply fX12_signAt_144_i
          rw [if_neg (fun u => c2 (by rw [yl59, nI_eq (by omega) (by decide)] at u; exact u))]
          apply bX12_signAt_144_12_i
          rw [d1']
          rfl
        dsimp only
        rw [sg, Option.bind_some]
        dsimp only
        rw [nI_1, show yzt B len k + 1 = yzp B len (k + 1) by rw [pn, yze_o c0 c1, yif_t g]]
        exact hz
    · have e9 : yzd B len k = 9 := by
        rcases yzk_c B len (yzt B len k) with t | t | t | t | t | t | t
        · exact t.2
        all_goals exact absurd t.1 g
      obtain ⟨m1, d1, d2, d3⟩ := s_token (a := nI 0) (b := nI (yzt B len k)) (c := 0) (d := 0) (show k < 403 by omega) hT (by rw [e9]; rfl) rfl (fun u => by omega) (fun u => by omega)
      have d1' : fX12_token_144 (0 : Int32) (nI (yzt B len k)) (0 : Int32) (0 : Int64) m = some m1 := d1
      refine ⟨m1, k + 1, sk ?_, d2, by omega, by omega, fun j j1 j2 _ => by omega, Or.inr ⟨k, rfl, e9⟩, d3⟩
      apply bX12_cutsText_144_7_i
      rw [hT.1, if_neg n4, s_mByte hB h (by omega), Option.bind_some]
      dsimp only
      rw [h.1, if_neg (by rw [nI_ltI (by omega) (by omega)]; exact g), show nI len = nI (yzt B len k) by rw [show yzt B len k = len by omega], d1']
      rfl
