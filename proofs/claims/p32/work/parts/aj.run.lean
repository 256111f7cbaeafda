/-! from the law's entry to its end -/
theorem zA_e : zA = some (none, zMA) ∧ zMA.2.2.2 = 145 := by
  have h := zA_ok
  unfold zMA
  generalize zA = o at h ⊢
  rcases o with _ | ⟨v, M⟩
  · cases h
  · cases v with
    | none => exact ⟨rfl, Nat.eq_of_beq_eq_true h⟩
    | some v => cases h
theorem zA_x (b : Nat → Nat → Int32) : xex 1000 (xini (114, [.ref 0], zpt b zN0)) = some (none, zpt b zMA) := by
  have h : zxk 1000 (114, xrk 114 [.ref 0], 0, xnm 114 0 (xargs [.ref 0]), [], zN0, 0, 0) = some (none, zMA) := zA_e.1
  exact zxk_p b _ _ _ _ _ _ _ _ _ _ _ h
theorem zMA_r : ∀ k i, k < 144 → i < 64 → zMA.2.2.1 k i = xR0 k i := by
  intro k i hk hi
  have d : k % 16 < 16 := Nat.mod_lt _ (by decide)
  have c : k / 16 = 0 ∨ k / 16 = 1 ∨ k / 16 = 2 ∨ k / 16 = 3 ∨ k / 16 = 4 ∨ k / 16 = 5 ∨ k / 16 = 6 ∨ k / 16 = 7 ∨ k / 16 = 8 := by omega
  rcases c with c | c | c | c | c | c | c | c | c
  · have t := zMA_r0 (k % 16) d i hi
    rw [show 0 + k % 16 = k by omega] at t
    exact t
  · have t := zMA_r1 (k % 16) d i hi
    rw [show 16 + k % 16 = k by omega] at t
    exact t
  · have t := zMA_r2 (k % 16) d i hi
    rw [show 32 + k % 16 = k by omega] at t
    exact t
  · have t := zMA_r3 (k % 16) d i hi
    rw [show 48 + k % 16 = k by omega] at t
    exact t
  · have t := zMA_r4 (k % 16) d i hi
    rw [show 64 + k % 16 = k by omega] at t
    exact t
  · have t := zMA_r5 (k % 16) d i hi
    rw [show 80 + k % 16 = k by omega] at t
    exact t
  · have t := zMA_r6 (k % 16) d i hi
    rw [show 96 + k % 16 = k by omega] at t
    exact t
  · have t := zMA_r7 (k % 16) d i hi
    rw [show 112 + k % 16 = k by omega] at t
    exact t
  · have t := zMA_r8 (k % 16) d i hi
    rw [show 128 + k % 16 = k by omega] at t
    exact t
/-- the memory behind the constructor -/
def zm (b : Nat → Nat → Int32) (MA : xM) : xmm := ((zpt b MA).1, (zpt b MA).2.1)
section
variable {b : Nat → Nat → Int32} {MA : xM} {L : Nat} {xs r : Nat → Int32}
theorem zm_1 {k i : Nat} (hk : k < 900) : (zm b MA).1 k i = MA.1 k i := by
  show (if 900 ≤ k ∧ ¬ k = 1995 ∧ (¬ k = 1996 ∨ i = 999) then b k i else MA.1 k i) = _
  rw [if_neg (fun t => by omega)]
theorem zm_5 : (zm b MA).1 1995 0 = MA.1 1995 0 := by
  show (if 900 ≤ 1995 ∧ ¬ 1995 = 1995 ∧ (¬ 1995 = 1996 ∨ 0 = 999) then b 1995 0 else MA.1 1995 0) = _
  rw [if_neg (fun t => t.2.1 rfl)]
theorem zm_9 {k i : Nat} (h1 : 900 ≤ k) (h2 : ¬ k = 1995) (h3 : ¬ k = 1996 ∨ i = 999) : (zm b MA).1 k i = b k i := by
  show (if 900 ≤ k ∧ ¬ k = 1995 ∧ (¬ k = 1996 ∨ i = 999) then b k i else MA.1 k i) = _
  rw [if_pos ⟨h1, h2, h3⟩]
theorem zm_c (h : MA.1 1995 0 = 0) : xctm (zm b MA) = 145 := by
  unfold xctm
  rw [zm_5, h]
  rfl
theorem zm_ag (h0 : MA.1 1995 0 = 0) (h1 : MA.2.2.2 = 145) (h2 : ∀ k i, k < 144 → i < 64 → MA.2.2.1 k i = xR0 k i) : xag (zpt b MA) (zm b MA) := ⟨rfl, rfl, by rw [zm_c h0]; exact h1, fun k i hk hi => h2 k i hk hi⟩
theorem zm_I (h : (MA.1 10 0 == 0 && MA.1 10 1 == 0 && MA.1 14 1 == 0 && MA.1 14 2 == 0 && MA.1 0 5 == 0 && MA.1 0 6 == 0 && MA.1 1 1 == 0 && MA.1 1995 0 == 0) = true) (h11 : ∀ p, p < 8 → MA.1 11 p = 0) : MA.1 1995 0 = 0 ∧ wI 0 (fun _ => 0, 0) 0 (fun _ => (fun _ => 0, 0)) (fun _ => False) (fun _ => (fun _ => 0, 0)) 0 (wZs r 145) (zm (zbs r L xs) MA) := by
  simp only [Bool.and_eq_true, beq_iff_eq] at h
  obtain ⟨⟨⟨⟨⟨⟨⟨a1, a2⟩, a3⟩, a4⟩, a5⟩, a6⟩, a7⟩, a8⟩ := h
  have G : yGr 0 (fun _ => 0) := ⟨by decide, fun p => Nat.two_pow_pos _, fun p _ => rfl, ⟨fun a b t => absurd t yb_0, fun a t => absurd t yb_0⟩⟩
  have V : yNv 0 ((fun _ => 0, 0) : yNW) := ⟨G, (show (0 : Nat) < 2 by decide)⟩
  refine ⟨a8, ⟨V, ⟨?_, ?_, fun p hp => ?_⟩, ⟨0, ?_, ?_, by decide, by decide, fun i hi => absurd hi (Nat.not_lt_zero i)⟩, ⟨?_, fun i _ t => absurd t id⟩, Or.inl ?_⟩, ?_, ⟨⟨by decide, ?_, ?_, fun i hi => ?_⟩, ?_⟩, fun m m' => wZs_lo m m'⟩
  · rw [zm_1 (by decide)]; exact a1
  · rw [zm_1 (by decide)]; exact a2
  · rw [zm_1 (by decide)]; exact h11 p hp
  · rw [zm_1 (by decide)]; exact a3
  · rw [zm_1 (by decide)]; exact a4
  · rw [zm_1 (by decide), ybs_0 (fun a t => t)]; exact a5
  · rw [zm_1 (by decide)]; exact a6
  · rw [zm_1 (by decide)]; exact a7
  · rw [zm_c a8]; decide
  · rw [zm_9 (by decide) (by decide) (Or.inr rfl)]
    unfold zbs
    rw [if_neg (by decide), if_pos ⟨rfl, rfl⟩]
    rfl
  · rw [zm_9 (by decide) (by decide) (Or.inl (by decide))]
    exact if_pos rfl
  · rw [zm_c a8]; decide
theorem zna {l : xL} {st : List Value} {M : xM} {c s : Nat} {x : Int32} : xdo 171 20 2 l (.int x :: st) M c s (.newarray .int) = if xatag .int < 9 ∧ (xkd (xnu M.2.2.2) = (xatag .int, x.toNatClampNeg) ∨ (144 ≤ xnu M.2.2.2 ∧ xatag .int = 1 ∧ M.2.2.2 < 900)) ∧ ¬ x < 0 ∧ c + 1 ≤ xmc 171 ∧ s + x.toNatClampNeg ≤ xms 171 ∧ x.toNatClampNeg ≤ 10000 then xgo 171 20 4 l (.ref (xnu M.2.2.2) :: st) (xpush M x.toNatClampNeg) (c + 1) (s + x.toNatClampNeg) else none := rfl
theorem zas1 {l : xL} {st : List Value} {M : xM} {c s k : Nat} : xdo 171 20 4 l (.ref k :: st) M c s (.astore_n 1) = if 1 < xml 171 ∧ ¬ k = 1999 then xgo 171 20 5 (xst l 1 (.ref k)) st M c s else none := rfl
theorem zas2 {l : xL} {st : List Value} {M : xM} {c s k : Nat} : xdo 171 20 38 l (.ref k :: st) M c s (.astore_n 2) = if 2 < xml 171 ∧ ¬ k = 1999 then xgo 171 20 39 (xst l 2 (.ref k)) st M c s else none := rfl
theorem zis2 {l : xL} {st : List Value} {M : xM} {c s : Nat} {x : Int32} : xdo 171 20 6 l (.int x :: st) M c s (.istore_n 2) = if 2 < xml 171 then xgo 171 20 7 (xst l 2 (.int x)) st M c s else none := rfl
theorem zdu {l : xL} {st : List Value} {M : xM} {c s k : Nat} : xdo 171 20 34 l (.ref k :: st) M c s .dup = if (1 : Nat) = 1 then xgo 171 20 35 l (.ref k :: .ref k :: st) M c s else none := rfl
theorem z19 : 2 < xml 171 := by decide +kernel
theorem zcs : 1 + 1 + xmc 114 ≤ 145 ∧ 20 + xnsl 11 + xms 114 ≤ 70 * 145 := by decide +kernel
theorem zlaw_g (hL : L ≤ 260) (h : (MA.1 10 0 == 0 && MA.1 10 1 == 0 && MA.1 14 1 == 0 && MA.1 14 2 == 0 && MA.1 0 5 == 0 && MA.1 0 6 == 0 && MA.1 1 1 == 0 && MA.1 1995 0 == 0) = true) (h11 : ∀ p, p < 8 → MA.1 11 p = 0) (cA : MA.2.2.2 = 145) (hA : ∀ b, xex 1000 (xini (114, [.ref 0], zpt b zN0)) = some (none, zpt b MA)) (hr : ∀ k i, k < 144 → i < 64 → MA.2.2.1 k i = xR0 k i) : zG (171, 20, 0, [(0, .ref 1998)], [], xM0 L xs, 0, 0) := by
  refine zG_o (op := .bipush 20) (n := 2) (pc' := 2) (l1 := [(0, .ref 1998)]) (l2 := [(0, .ref 1998)]) (st' := [.int (Int8.ofInt 20).toInt32]) (M' := xM0 L xs) (c' := 0) (s' := 0) rfl rfl rfl rfl ?_
  rw [z20]
  refine zG_o (op := .newarray .int) (n := 2) (pc' := 4) (l1 := [(0, .ref 1998)]) (l2 := [(0, .ref 1998)]) (st' := [.ref 999]) (M' := zW (fun _ => 0) L xs) (c' := 1) (s' := 20) rfl rfl ?_ rfl ?_
  · have hx : xnu (xM0 L xs).2.2.2 = 999 := rfl
    rw [zna, yI_cl (by decide), hx, zW_0, if_pos ⟨by decide, Or.inr ⟨by decide, rfl, Nat.zero_lt_succ _⟩, yI_ltz (by decide), by decide +kernel, by decide +kernel, by decide⟩]
  refine zG_o (op := .astore_n 1) (n := 1) (pc' := 5) (l1 := [(1, .ref 999), (0, .ref 1998)]) (l2 := [(1, .ref 999), (0, .ref 1998)]) (st' := []) (M' := zW (fun _ => 0) L xs) (c' := 1) (s' := 20) rfl rfl (zas1.trans (if_pos ⟨by decide +kernel, by decide⟩)) rfl ?_
  refine zG_o (op := .iconst 0) (n := 1) (pc' := 6) (l1 := [(1, .ref 999), (0, .ref 1998)]) (l2 := [(1, .ref 999), (0, .ref 1998)]) (st' := [.int (nI 0)]) (M' := zW (fun _ => 0) L xs) (c' := 1) (s' := 20) rfl rfl rfl rfl ?_
  refine zG_o (op := .istore_n 2) (n := 1) (pc' := 7) (l1 := [(2, .int (nI 0)), (1, .ref 999), (0, .ref 1998)]) (l2 := zL (nI 0)) (st' := []) (M' := zW (fun _ => 0) L xs) (c' := 1) (s' := 20) rfl rfl (zis2.trans (if_pos z19)) rfl ?_
  rw [← zr_0 (xs := xs)]
  refine zloop hL (fun k _ => ?_) 20 0 rfl
  generalize zr xs k = r
  refine zG_s (zl_new (q := 8) (ci := 11) (l2 := zL (nI k)) rfl (by decide +kernel) ⟨rfl, by decide +kernel, by decide +kernel⟩ rfl) ?_
  rw [zW_n, show xnu (zW r L xs).2.2.2 = 0 from rfl]
  refine zG_o (op := .dup) (n := 1) (pc' := 35) (l1 := zL (nI k)) (l2 := zL (nI k)) (st' := [.ref 0, .ref 0]) (M' := zpt (zbs r L xs) zN0) (c' := 1 + 1) (s' := 20 + xnsl 11) rfl rfl (zdu.trans (if_pos rfl)) rfl ?_
  refine zG_c (zl_init (q := 90) (j := 114) (k := 0) rfl (by decide +kernel) rfl (by decide +kernel) (by decide +kernel) (by decide) ⟨by decide +kernel, by decide, by decide +kernel, by decide +kernel⟩) (show xokc 114 [.ref 0] = true by decide +kernel) (hA _) (show xrok (xrt 114) none = true by decide +kernel) rfl ?_
  refine zG_o (op := .astore_n 2) (n := 1) (pc' := 39) (l1 := [(2, .ref 0), (0, .ref 1998), (1, .ref 999)]) (l2 := [(1, .ref 999), (2, .ref 0)]) (st' := []) (M' := zpt (zbs r L xs) MA) (c' := 1 + 1 + xmc 114) (s' := 20 + xnsl 11 + xms 114) rfl rfl (zas2.trans (if_pos ⟨z19, by decide⟩)) rfl ?_
  obtain ⟨h0, hI⟩ := zm_I (r := r) (L := L) (xs := xs) h h11
  obtain ⟨m', hb, -⟩ := s_l39 (cc := 1 + 1 + xmc 114) (ss := 20 + xnsl 11 + xms 114) hI ⟨by decide, zcs.1, zcs.2⟩
  have hv := xHw_iff.mp (xtI_some.mp hb)
  obtain ⟨n, M', h1, -⟩ := hv (zpt (zbs r L xs) MA) (zm_ag h0 cA hr)
  exact ⟨n, M', h1⟩
theorem zlaw (hL : L ≤ 260) (xs : Nat → Int32) : ∃ n M', xex n (xJL, 20, 0, [(0, .ref 1998)], [], xM0 L xs, 0, 0) = some (some (.int 1), M') := zlaw_g hL zMA_i zMA_11 zA_e.2 zA_x zMA_r
end
