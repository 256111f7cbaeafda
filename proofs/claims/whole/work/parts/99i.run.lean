/-! from the law's entry to its end -/
theorem zA_e : zA = some (none, zMA) ∧ zMA.2.2.2 = 144 := by
  have h := zA_ok
  unfold zMA
  generalize zA = o at h ⊢
  rcases o with _ | ⟨v, M⟩
  · cases h
  · cases v with
    | none => exact ⟨rfl, Nat.eq_of_beq_eq_true h⟩
    | some v => cases h
theorem zB_e : zB = some (none, zMB) ∧ zMB.2.2.2 = 184 := by
  have h := zB_ok
  unfold zMB
  generalize zB = o at h ⊢
  rcases o with _ | ⟨v, M⟩
  · cases h
  · cases v with
    | none => exact ⟨rfl, Nat.eq_of_beq_eq_true h⟩
    | some v => cases h
def zbs (L : Nat) (xs : Nat → Int32) : Nat → Nat → Int32 := fun k i => if k = 1998 then xs i else if k = 1997 then nI L else 0
theorem zM0_e (L : Nat) (xs : Nat → Int32) : xM0 L xs = zpt (zbs L xs) zM0 := by
  refine Prod.ext ?_ rfl
  funext k i
  show (if k = 1998 then xs i else if k = 1997 then nI L else 0) = if 1900 ≤ k then (if k = 1998 then xs i else if k = 1997 then nI L else 0) else 0
  by_cases h : 1900 ≤ k
  · rw [if_pos h]
  · rw [if_neg h, if_neg (by omega), if_neg (by omega)]
theorem zA_x (b : Nat → Nat → Int32) : xex 1000 (xini (114, [.ref 0], xpush (zpt b zM0))) = some (none, zpt b zMA) := by
  have h : zxk 1000 (114, xrk 114 [.ref 0], 0, xnm 114 0 (xargs [.ref 0]), [], xpush zM0, 0, 0) = some (none, zMA) := zA_e.1
  have r := zxk_p b _ _ _ _ _ _ _ _ _ _ _ h
  rw [zpush (show zM0.2.2.2 ≤ 1000 by decide)]
  exact r
theorem zB_x (b : Nat → Nat → Int32) : xex 1000 (xini (154, [.ref 144], xpush (zpt b zMA))) = some (none, zpt b zMB) := by
  have h : zxk 1000 (154, xrk 154 [.ref 144], 0, xnm 154 0 (xargs [.ref 144]), [], xpush zMA, 0, 0) = some (none, zMB) := zB_e.1
  have r := zxk_p b _ _ _ _ _ _ _ _ _ _ _ h
  rw [zpush (show zMA.2.2.2 ≤ 1000 by rw [zA_e.2]; decide)]
  exact r
theorem zMB_r : ∀ k i, k < 184 → i < 64 → zMB.2.2.1 k i = xR0 k i := by
  intro k i hk hi
  have e : k = 16 * (k / 16) + k % 16 := by omega
  have d : k % 16 < 16 := Nat.mod_lt _ (by decide)
  have c : k / 16 = 0 ∨ k / 16 = 1 ∨ k / 16 = 2 ∨ k / 16 = 3 ∨ k / 16 = 4 ∨ k / 16 = 5 ∨ k / 16 = 6 ∨ k / 16 = 7 ∨ k / 16 = 8 ∨ k / 16 = 9 ∨ k / 16 = 10 ∨ k / 16 = 11 := by omega
  rcases c with c | c | c | c | c | c | c | c | c | c | c | c
  · have t := zMB_r0 (k % 16) d i hi
    rw [show 0 + k % 16 = k by omega] at t
    exact t
  · have t := zMB_r1 (k % 16) d i hi
    rw [show 16 + k % 16 = k by omega] at t
    exact t
  · have t := zMB_r2 (k % 16) d i hi
    rw [show 32 + k % 16 = k by omega] at t
    exact t
  · have t := zMB_r3 (k % 16) d i hi
    rw [show 48 + k % 16 = k by omega] at t
    exact t
  · have t := zMB_r4 (k % 16) d i hi
    rw [show 64 + k % 16 = k by omega] at t
    exact t
  · have t := zMB_r5 (k % 16) d i hi
    rw [show 80 + k % 16 = k by omega] at t
    exact t
  · have t := zMB_r6 (k % 16) d i hi
    rw [show 96 + k % 16 = k by omega] at t
    exact t
  · have t := zMB_r7 (k % 16) d i hi
    rw [show 112 + k % 16 = k by omega] at t
    exact t
  · have t := zMB_r8 (k % 16) d i hi
    rw [show 128 + k % 16 = k by omega] at t
    exact t
  · have t := zMB_r9 (k % 16) d i hi
    rw [show 144 + k % 16 = k by omega] at t
    exact t
  · have t := zMB_r10 (k % 16) d i hi
    rw [show 160 + k % 16 = k by omega] at t
    exact t
  · have t := zMB_r11 (k % 16) (by omega) i hi
    rw [show 176 + k % 16 = k by omega] at t
    exact t
/-- the memory behind the constructors -/
def zm (b : Nat → Nat → Int32) (MB : xM) : xmm := ((zpt b MB).1, (zpt b MB).2.1)
theorem zm_ag (b : Nat → Nat → Int32) {MB : xM} (h1 : MB.2.2.2 = 184) (h2 : ∀ k i, k < 184 → i < 64 → MB.2.2.1 k i = xR0 k i) : xag (zpt b MB) (zm b MB) := ⟨rfl, rfl, h1, fun k i hk hi => h2 k i hk hi⟩
theorem zm_1 {b : Nat → Nat → Int32} {MB : xM} {k i : Nat} (hk : k < 1900) : (zm b MB).1 k i = MB.1 k i := by
  show (if 1900 ≤ k then b k i else MB.1 k i) = _
  rw [if_neg (by omega)]
theorem zm_Z (L : Nat) (xs : Nat → Int32) {MB : xM} (h : (MB.1 10 0 == 0 && MB.1 10 1 == 0 && MB.1 14 1 == 0 && MB.1 14 2 == 0 && MB.1 0 5 == 0 && MB.1 0 6 == 0 && MB.1 1 1 == 0 && MB.1 1 3 == -1 && MB.1 144 16 == -1 && MB.1 144 17 == 0 && MB.1 144 24 == 0 && MB.1 144 25 == 0 && MB.1 144 2 == 0) = true) (h11 : ∀ p, p < 8 → MB.1 11 p = 0) (h152 : ∀ p, p < 9 → MB.1 152 p = 0) (h158 : ∀ p, p < 3 → MB.1 158 p = 0) (h151 : ∀ k, k < 4 → MB.2.1 151 k = lN (yzK k)) : yZe L xs (zm (zbs L xs) MB) := by
  simp only [Bool.and_eq_true, beq_iff_eq] at h
  obtain ⟨⟨⟨⟨⟨⟨⟨⟨⟨⟨⟨⟨a1, a2⟩, a3⟩, a4⟩, a5⟩, a6⟩, a7⟩, a8⟩, a9⟩, a10⟩, a11⟩, a12⟩, a13⟩ := h
  have G : yGr 0 (fun _ => 0) := ⟨by decide, fun p => Nat.two_pow_pos _, fun p _ => rfl, ⟨fun a b t => absurd t yb_0, fun a t => absurd t yb_0⟩⟩
  have V : yNv 0 ((fun _ => 0, 0) : yNW) := ⟨G, (show (0 : Nat) < 2 by decide)⟩
  refine ⟨0, (fun _ => 0, 0), 0, fun _ => (fun _ => 0, 0), fun _ => False, fun _ => (fun _ => 0, 0), 0, fun _ => 0, -1, ⟨⟨V, ⟨?_, ?_, fun p hp => ?_⟩, ⟨0, ?_, ?_, by decide, by decide, fun i hi => absurd hi (Nat.not_lt_zero i)⟩, ⟨?_, fun i _ t => absurd t id⟩, Or.inl ?_⟩, ⟨?_, by decide, fun i hi => absurd hi (Nat.not_lt_zero i)⟩, ?_⟩, ⟨⟨?_, fun r hr => ?_, ⟨0, by decide, by decide, ?_, ?_, fun i hi => absurd hi (Nat.not_lt_zero i)⟩, fun i hi => ⟨?_, fun t => absurd t id⟩⟩, ⟨?_, by decide, fun i hi => absurd hi (Nat.not_lt_zero i)⟩, ?_, fun k hk => ?_⟩, ⟨?_, fun i _ => ?_⟩⟩
  · rw [zm_1 (by decide)]; exact a1
  · rw [zm_1 (by decide)]; exact a2
  · rw [zm_1 (by decide)]; exact h11 p hp
  · rw [zm_1 (by decide)]; exact a3
  · rw [zm_1 (by decide)]; exact a4
  · rw [zm_1 (by decide), ybs_0 (fun a t => t)]; exact a5
  · rw [zm_1 (by decide)]; exact a6
  · rw [zm_1 (by decide)]; exact a7
  · rw [zm_1 (by decide)]; exact a8
  · rw [zm_1 (by decide)]; exact a10
  · rw [zm_1 (by decide), Nat.zero_add, h152 r hr]
    unfold yNc
    split <;> rfl
  · rw [zm_1 (by decide)]; exact a11
  · rw [zm_1 (by decide)]; exact a12
  · rw [zm_1 (by decide), h158 i hi, yP_f id]
  · rw [zm_1 (by decide)]; exact a13
  · rw [zm_1 (by decide)]; exact a9
  · exact h151 k hk
  · show (if 1900 ≤ 1997 then zbs L xs 1997 0 else MB.1 1997 0) = nI L
    rw [if_pos (by decide)]
    rfl
  · show (if 1900 ≤ 1998 then zbs L xs 1998 i else MB.1 1998 i) = xs i
    rw [if_pos (by decide)]
    rfl
theorem zlaw_g {L : Nat} (hL : L ≤ 3072) (xs : Nat → Int32) {MA MB : xM} (cA : MA.2.2.2 = 144) (hA : xex 1000 (xini (114, [.ref 0], xpush (zpt (zbs L xs) zM0))) = some (none, zpt (zbs L xs) MA)) (hB : xex 1000 (xini (154, [.ref 144], xpush (zpt (zbs L xs) MA))) = some (none, zpt (zbs L xs) MB)) (hag : xag (zpt (zbs L xs) MB) (zm (zbs L xs) MB)) (hZ : yZe L xs (zm (zbs L xs) MB)) : ∃ n M', xex n (xJL, 20, 0, [(0, .ref 1998)], [], xM0 L xs, 0, 0) = some (some (.int 1), M') := by
  obtain ⟨m', hb⟩ := s_lawLoop hL 512 0 (zm (zbs L xs) MB) (by omega) (by decide) hZ
  have hv : xHv 266 20 18 [(0, .ref 1998), (1, .ref 0), (2, .ref 144), (3, .int (nI 0))] [] (zm (zbs L xs) MB) = some (some (.int 1), m') := xtI_some.mp hb
  obtain ⟨n, M', h1, _⟩ := xHv_iff.mp hv (zpt (zbs L xs) MB) hag
  have h2 := xex_le h1 (Nat.le_max_left n 1000)
  have N1 : 1000 ≤ max n 1000 := Nat.le_max_right n 1000
  generalize max n 1000 = N at h2 N1
  have cA' : (zpt (zbs L xs) MA).2.2.2 = 144 := cA
  have h3 := zsex (C := 0 + 1 + xmc 114 + 1 + xmc 154) (S := 0 + xnsl 11 + xms 114 + xnsl 12 + xms 154) (by decide +kernel) (by decide +kernel) N 20 18 _ _ _ _ (by decide) (by decide) h2
  refine ⟨N + 10, M', ?_⟩
  rw [zM0_e]
  refine zst (zl_new (q := 7) (ci := 11) (l2 := [(0, .ref 1998)]) rfl (by decide +kernel) ⟨rfl, by decide +kernel, by decide +kernel⟩ rfl) ?_
  have c0 : (zpt (zbs L xs) zM0).2.2.2 = 0 := rfl
  rw [c0]
  refine zst (zl_dup (l2 := [(0, .ref 1998)]) rfl rfl) ?_
  refine zsc (zl_init (q := 9) (j := 114) (k := 0) rfl (by decide +kernel) rfl (by decide +kernel) (by decide +kernel) (by decide) ⟨by decide +kernel, by decide, by decide +kernel, by decide +kernel⟩) (show xokc 114 [.ref 0] = true by decide +kernel) (xex_le hA (by omega)) (show xrok (xrt 114) none = true by decide +kernel) rfl ?_
  refine zst (zl_astore (i := 1) (l2 := [(1, .ref 0), (0, .ref 1998)]) rfl ⟨by decide +kernel, by decide⟩ rfl) ?_
  refine zst (zl_new (q := 10) (ci := 12) (l2 := [(1, .ref 0), (0, .ref 1998)]) rfl (by decide +kernel) ⟨by rw [cA']; rfl, by decide +kernel, by decide +kernel⟩ rfl) ?_
  rw [cA']
  refine zst (zl_dup (l2 := [(1, .ref 0), (0, .ref 1998)]) rfl rfl) ?_
  refine zsc (zl_init (q := 12) (j := 154) (k := 144) rfl (by decide +kernel) rfl (by decide +kernel) (by decide +kernel) (by decide) ⟨by decide +kernel, by decide, by decide +kernel, by decide +kernel⟩) (show xokc 154 [.ref 144] = true by decide +kernel) (xex_le hB (by omega)) (show xrok (xrt 154) none = true by decide +kernel) rfl ?_
  refine zst (zl_astore (i := 2) (l2 := [(2, .ref 144), (1, .ref 0), (0, .ref 1998)]) rfl ⟨by decide +kernel, by decide⟩ rfl) ?_
  refine zst (zl_iconst (v := 0) (l2 := [(2, .ref 144), (1, .ref 0), (0, .ref 1998)]) rfl rfl) ?_
  refine zst (zl_istore (i := 3) (l2 := [(0, .ref 1998), (1, .ref 0), (2, .ref 144), (3, .int 0)]) rfl (by decide +kernel) rfl) ?_
  exact h3
theorem zlaw {L : Nat} (hL : L ≤ 3072) (xs : Nat → Int32) : ∃ n M', xex n (xJL, 20, 0, [(0, .ref 1998)], [], xM0 L xs, 0, 0) = some (some (.int 1), M') := zlaw_g hL xs (MA := zMA) (MB := zMB) zA_e.2 (zA_x _) (zB_x _) (zm_ag _ zB_e.2 zMB_r) (zm_Z L xs zMB_i zMB_11 zMB_152 zMB_158 zMB_151)
