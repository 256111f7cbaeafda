/-! the QUESTIONS: third part -/
theorem ysg_0 {n : Nat} {T : yG} {a p : Nat} (h1 : a ≠ p) (h2 : ¬ T a p) : ysg n T a p = 0 := by
  unfold ysg
  cases n with
  | zero => exact yif_f fun e => h1 e.symm
  | succ k => rw [ysgf_s, yif_f (fun e => h1 e.symm), yif_f h2]
/-! order -/
noncomputable def yaOrd (n : Nat) (N : yNW) (x : Int32) : Int32 := yif (yInK 9 x) (yif (yord (yad N.1)) (if x = 0 then nI (yW n (yT N.1 N.2) 0) else if x = 1 then nI (yncv n (yT N.1 N.2)) else if x = 2 then nI (ypp (ygs (ychn N.1) (2 ^ n))) else if x = 3 then nI (ygs (ychn N.1) (2 ^ n)) else if x = 4 then nI (ypp (ygs (yap N.1) (2 ^ n))) else if x = 5 then nI (ygs (yap N.1) (2 ^ n)) else if x = 6 then nI (ync N.1 n) else if x = 7 then ygl n (yT N.1 N.2) else if x = 8 then nI (yct (fun S => ydw (yT N.1 N.2) S) (2 ^ n)) else nI (yJF n (yT N.1 N.2))) (-2)) (-1)
theorem ygs_8 {P : Nat → Prop} {n : Nat} (hn : n ≤ 8) : ygs P (2 ^ n) < 256 := by
  have h8 := y2p8 hn
  rcases ygs_lt P (2 ^ n) with h | h <;> omega
theorem s_cOrd {n : Nat} {N : yNW} {h : Nat} {H : Nat → yNW} {hd : Nat → Prop} {K : Nat → yNW} {m : xmm} (hc : yCI n N h H hd K m) (x : Int32) : yCA n N h H hd K (yaOrd n N x) (fX11_order_0 x m) m := by
  have hG := hc.1.1
  have hn := hG.1
  have e9 : (9 : Int32) = nI 9 := rfl
  unfold yaOrd
  rcases s_inKc (k := 9) (by omega) x with ⟨k1, k2⟩ | ⟨i, i1, i2, i3, i4, i5⟩ | ⟨k1, k2, k3, k4⟩
  · refine ⟨m, ?_, hc, yCk_r m⟩
    apply fX11_order_0_i
    rw [if_pos k1, yif_f k2]
  · obtain ⟨m', a1, a2, a3, a4, a5⟩ := s_cArr hc
    rw [yif_t ⟨i, i1, i2⟩]
    by_cases ho : yord (yad N.1)
    · have hT := yT_po hG ho N.2
      have rk := (a3.2.2.2.1 ho).2
      have x11 := yx11 hG a4.2.1
      have x13 := yx13 hG a3
      have ga := s_gApart x13 hn
      rw [ygs_c fun k hk => yap_op hk] at ga
      have gb := s_gApart x11 hn
      have ev := s_evp ynet10 hn a4.2.1.1
      have p1 := ygs_8 (P := ychn N.1) hn
      have p2 := ygs_8 (P := yap N.1) hn
      rw [yif_t ho]
      have st : ∀ {z : Int32 × xmm} {A B C : Option (Int32 × xmm)}, A = some z → (if x < 0 then C else if x ≤ (9 : Int32) then A else B) = some z := fun hz => by rw [if_neg i3, if_pos (show x ≤ (9 : Int32) from i4)]; exact hz
      by_cases e0 : x = 0
      · refine ⟨m', ?_, a4, a5⟩
        apply fX11_order_0_i
        apply st
        rw [a1, Option.bind_some, a2, yP_t ho, Option.bind_some, if_neg yn10]
        simp only [if_pos e0]
        have q : fX5_countStraight_123 m' = some (nI (yW n (yT N.1 N.2) 0), m') := by
          apply fX5_countStraight_123_i
          rw [rk.2.2 0 (Nat.two_pow_pos n)]
        rw [q]; rfl
      by_cases e1 : x = 1
      · refine ⟨m', ?_, a4, a5⟩
        apply fX11_order_0_i
        apply st
        rw [a1, Option.bind_some, a2, yP_t ho, Option.bind_some, if_neg yn10]
        simp only [if_neg e0, if_pos e1]
        rw [s_countCovers hT hn rk.1]; rfl
      by_cases e2 : x = 2
      · refine ⟨m', ?_, a4, a5⟩
        apply fX11_order_0_i
        apply st
        rw [a1, Option.bind_some, a2, yP_t ho, Option.bind_some, if_neg yn10]
        simp only [if_neg e0, if_neg e1, if_pos e2]
        rw [ev, Option.bind_some, ga, Option.bind_some, s_bitCount p1]; rfl
      by_cases e3 : x = 3
      · refine ⟨m', ?_, a4, a5⟩
        apply fX11_order_0_i
        apply st
        rw [a1, Option.bind_some, a2, yP_t ho, Option.bind_some, if_neg yn10]
        simp only [if_neg e0, if_neg e1, if_neg e2, if_pos e3]
        rw [ev, Option.bind_some, ga]; rfl
      by_cases e4 : x = 4
      · refine ⟨m', ?_, a4, a5⟩
        apply fX11_order_0_i
        apply st
        rw [a1, Option.bind_some, a2, yP_t ho, Option.bind_some, if_neg yn10]
        simp only [if_neg e0, if_neg e1, if_neg e2, if_neg e3, if_pos e4]
        rw [ev, Option.bind_some, gb, Option.bind_some, s_bitCount p2]; rfl
      by_cases e5 : x = 5
      · refine ⟨m', ?_, a4, a5⟩
        apply fX11_order_0_i
        apply st
        rw [a1, Option.bind_some, a2, yP_t ho, Option.bind_some, if_neg yn10]
        simp only [if_neg e0, if_neg e1, if_neg e2, if_neg e3, if_neg e4, if_pos e5]
        rw [ev, Option.bind_some, gb]; rfl
      by_cases e6 : x = 6
      · obtain ⟨m2, b1, b2, b3⟩ := s_share hG a4.2.1.2.2 a4.2.1.1
        refine ⟨m2, ?_, yCI_r a4 (yfr_m b3 (by decide)), yCk_t a5 (yCk_of b3 (by decide))⟩
        apply fX11_order_0_i
        apply st
        rw [a1, Option.bind_some, a2, yP_t ho, Option.bind_some, if_neg yn10]
        simp only [if_neg e0, if_neg e1, if_neg e2, if_neg e3, if_neg e4, if_neg e5, if_pos e6]
        rw [b1]; rfl
      by_cases e7 : x = 7
      · refine ⟨m', ?_, a4, a5⟩
        apply fX11_order_0_i
        apply st
        rw [a1, Option.bind_some, a2, yP_t ho, Option.bind_some, if_neg yn10]
        simp only [if_neg e0, if_neg e1, if_neg e2, if_neg e3, if_neg e4, if_neg e5, if_neg e6, if_pos e7]
        rw [s_greatestLevel hT hn rk]; rfl
      by_cases e8 : x = 8
      · refine ⟨m', ?_, a4, a5⟩
        apply fX11_order_0_i
        apply st
        rw [a1, Option.bind_some, a2, yP_t ho, Option.bind_some, if_neg yn10]
        simp only [if_neg e0, if_neg e1, if_neg e2, if_neg e3, if_neg e4, if_neg e5, if_neg e6, if_neg e7, if_pos e8]
        rw [s_countDown hT hn rk.1]; rfl
      · obtain ⟨m2, b1, b2⟩ := s_fewestJumps hT hn rk.1
        refine ⟨m2, ?_, yCI_r a4 (yfr_m b2 (by decide)), yCk_t a5 (yCk_of b2 (by decide))⟩
        apply fX11_order_0_i
        apply st
        rw [a1, Option.bind_some, a2, yP_t ho, Option.bind_some, if_neg yn10]
        simp only [if_neg e0, if_neg e1, if_neg e2, if_neg e3, if_neg e4, if_neg e5, if_neg e6, if_neg e7, if_neg e8]
        rw [b1]; rfl
    · refine ⟨m', ?_, a4, a5⟩
      apply fX11_order_0_i
      have i4' : x ≤ (9 : Int32) := i4
      rw [if_neg i3, if_pos i4', a1, Option.bind_some, a2, yP_f ho, Option.bind_some, if_pos rfl, yif_f ho]
  · refine ⟨m, ?_, hc, yCk_r m⟩
    apply fX11_order_0_i
    have k3' : ¬ x ≤ (9 : Int32) := k3
    rw [if_neg k2, if_neg k3', yif_f k1]
/-! count -/
noncomputable def yaCnt (n : Nat) (N : yNW) (h : Nat) (hd : Nat → Prop) (len : Nat) (x : Int32) : Int32 := if x = 0 then nI n else if x = 1 then nI (yln N.1) else if x = 2 then nI (ycnt (ymo (yad N.1) (2 ^ n - 1)) n) else if x = 3 then nI (ycnt (yrd N.1) n) else if x = 4 then nI (ycnt (ychn N.1) n) else if x = 5 then nI (ycnt (yap N.1) n) else if x = 6 then nI (yLk N.1 N.1 n) else if x = 7 then nI N.2 else if x = 8 then nI len else if x = 9 then nI h else if x = 10 then nI (ypp (ybs hd 3)) else -1
theorem s_cCnt {n : Nat} {N : yNW} {h : Nat} {H : Nat → yNW} {hd : Nat → Prop} {K : Nat → yNW} {m : xmm} (hc : yCI n N h H hd K m) {len : Nat} (hl : m.1 1 1 = nI len) (x : Int32) : yCA n N h H hd K (yaCnt n N h hd len x) (fX11_count_0 x m) m := by
  have hG := hc.1.1
  have hn := hG.1
  obtain ⟨m', a1, a2, a3, a4⟩ := s_study hc
  have x11 := yx11 hG a2.2.1
  have x13 := yx13 hG a3
  have ev := s_evp ynet10 hn a2.2.1.1
  have st : ∀ {z : Int32 × xmm} {A : Int32 × xmm → Option (Int32 × xmm)}, A (nI (2 ^ n - 1), m') = some z → ((fX11_study_0 m).bind fun (w1 : xmm) => (fX3_everyPost 10 w1).bind fun (w3 : Int32 × xmm) => A w3) = some z := fun {z A} hz => by
    rw [a1, Option.bind_some, ev, Option.bind_some]; exact hz
  unfold yaCnt
  by_cases e6 : x = 6
  · obtain ⟨m2, b1, b2⟩ := s_cLike0 hG a2.2.1.2.2 a2.2.1.1
    refine ⟨m2, ?_, yCI_r a2 (yfr_m b2 (by decide)), yCk_t a4 (yCk_of b2 (by decide))⟩
    apply fX11_count_0_i
    refine st ?_
    subst e6
    simp only [show ¬ (6 : Int32) = 0 by decide, show ¬ (6 : Int32) = 1 by decide, show ¬ (6 : Int32) = 2 by decide, show ¬ (6 : Int32) = 3 by decide, show ¬ (6 : Int32) = 4 by decide, show ¬ (6 : Int32) = 5 by decide, if_false, if_true]
    rw [b1]; rfl
  refine ⟨m', ?_, a2, a4⟩
  apply fX11_count_0_i
  refine st ?_
  by_cases e0 : x = 0
  · simp only [if_pos e0]
    rw [a2.2.1.1]
  by_cases e1 : x = 1
  · simp only [if_neg e0, if_pos e1]
    rw [s_countLines ynet10 hG a2.2.1.2.2]; rfl
  by_cases e2 : x = 2
  · simp only [if_neg e0, if_neg e1, if_pos e2]
    rw [s_cAlike x11 hG]; rfl
  by_cases e3 : x = 3
  · simp only [if_neg e0, if_neg e1, if_neg e2, if_pos e3]
    rw [s_cRounds x11 hG]; rfl
  by_cases e4 : x = 4
  · simp only [if_neg e0, if_neg e1, if_neg e2, if_neg e3, if_pos e4]
    have q : ycnt (yap (yop n N.1)) n = ycnt (ychn N.1) n := yct_c fun S hS => and_congr_right fun _ => yap_op hS
    rw [s_cApart x13 (yop_gr hG), q]; rfl
  by_cases e5 : x = 5
  · simp only [if_neg e0, if_neg e1, if_neg e2, if_neg e3, if_neg e4, if_pos e5]
    rw [s_cApart x11 hG]; rfl
  by_cases e7 : x = 7
  · simp only [if_neg e0, if_neg e1, if_neg e2, if_neg e3, if_neg e4, if_neg e5, if_neg e6, if_pos e7]
    have q : nI N.2 = yP (N.2 = 1) := by
      have hb := hc.1.2
      have : N.2 = 0 ∨ N.2 = 1 := by omega
      rcases this with e | e
      · rw [e, yP_f (by decide)]; rfl
      · rw [e, yP_t rfl]; rfl
    rw [a2.2.1.2.1, q, s_bit]; rfl
  by_cases e8 : x = 8
  · simp only [if_neg e0, if_neg e1, if_neg e2, if_neg e3, if_neg e4, if_neg e5, if_neg e6, if_neg e7, if_pos e8]
    rw [(a4.2 1 (by decide) (by decide)).1 1, hl]
  by_cases e9 : x = 9
  · simp only [if_neg e0, if_neg e1, if_neg e2, if_neg e3, if_neg e4, if_neg e5, if_neg e6, if_neg e7, if_neg e8, if_pos e9]
    obtain ⟨nx, _, p2, _⟩ := a2.2.2.1
    rw [p2]
  by_cases e10 : x = 10
  · simp only [if_neg e0, if_neg e1, if_neg e2, if_neg e3, if_neg e4, if_neg e5, if_neg e6, if_neg e7, if_neg e8, if_neg e9, if_pos e10]
    have bl := ybs_lt hd 3
    rw [a2.2.2.2.1.1, s_bitCount (by omega)]; rfl
  · simp only [if_neg e0, if_neg e1, if_neg e2, if_neg e3, if_neg e4, if_neg e5, if_neg e6, if_neg e7, if_neg e8, if_neg e9, if_neg e10]
theorem yheld (hd : Nat → Prop) : ypp (ybs hd 3) = yif (hd 0) 1 0 + yif (hd 1) 1 0 + yif (hd 2) 1 0 := by
  have e1 : ypp (ybs hd 3) = yct (fun a => a < 3 ∧ hd a) 8 := yct_c fun k _ => yb_bs
  have e2 : yct (fun a => a < 3 ∧ hd a) 8 = yct (fun a => a < 3 ∧ hd a) 3 := yct_ext (by decide) fun k h1 _ t => by omega
  have e3 : yct (fun a => a < 3 ∧ hd a) 3 = yct hd 3 := yct_c fun k hk => ⟨fun t => t.2, fun t => ⟨hk, t⟩⟩
  rw [e1, e2, e3, yct_s, yct_s, yct_s]
  have : yct hd 0 = 0 := rfl
  rw [this, Nat.zero_add]
