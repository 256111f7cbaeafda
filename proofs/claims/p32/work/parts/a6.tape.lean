/-! the text that the law feeds, byte by byte -/
theorem wCI_lo {n : Nat} {N : yNW} {h : Nat} {H : Nat → yNW} {hd : Nat → Prop} {K : Nat → yNW} {m m' : xmm} (hc : yCI n N h H hd K m) (hf : yfr [1, 2] m m') : yCI n N h H hd K m' := by
  obtain ⟨c1, c2, ⟨nx, p1, p2, p3, p4, p5⟩, ⟨d1, d2⟩, c5⟩ := hc
  have o : ∀ k, k = 0 ∨ 10 ≤ k → k ∉ [1, 2] := fun k h1 t => by
    rcases List.mem_cons.mp t with e | e
    · omega
    · have := List.mem_singleton.mp e; omega
  refine ⟨c1, yNt_r c2 hf (o _ (by decide)) (o _ (by decide)), ⟨nx, by rw [yfr_1 hf 14 1 (o _ (by decide))]; exact p1, by rw [yfr_1 hf 14 2 (o _ (by decide))]; exact p2, p3, p4, fun i hi => ⟨yNt_r (p5 i hi).1 hf (o _ (by omega)) (o _ (by omega)), (p5 i hi).2⟩⟩, ⟨by rw [yfr_1 hf 0 5 (o _ (by decide))]; exact d1, fun i hi h2 => ⟨yNt_r (d2 i hi h2).1 hf (o _ (by omega)) (o _ (by omega)), (d2 i hi h2).2⟩⟩, ?_⟩
  rw [yfr_1 hf 0 6 (o _ (by decide))]
  refine c5.imp id fun t => ⟨t.1, yKc_r t.2 hf fun k hk => o k ?_⟩
  have : ∀ k, k ∈ yKL → 10 ≤ k := by decide
  exact Or.inr (this k hk)
theorem wgD1 {α : Type} {l w : List α} {d : α} {i : Nat} (h : i < l.length) : (l ++ w).getD i d = l.getD i d := by rw [List.getD_eq_getElem?_getD, List.getD_eq_getElem?_getD, List.getElem?_append_left h]
theorem wgD2 {α : Type} {l w : List α} {d : α} {i : Nat} : (l ++ w).getD (l.length + i) d = w.getD i d := by rw [List.getD_eq_getElem?_getD, List.getD_eq_getElem?_getD, List.getElem?_append_right (Nat.le_add_right _ _), Nat.add_sub_cancel_left]
/-- the bytes of a list -/
def wbl (l : List Nat) (i : Nat) : Int32 := nI (l.getD i 0)
def wTp (n : Nat) (N : yNW) (h : Nat) (H : Nat → yNW) (hd : Nat → Prop) (K : Nat → yNW) (Z : xmm → Prop) (l : List Nat) (m : xmm) : Prop := yCI n N h H hd K m ∧ yTC l.length (wbl l) m ∧ Z m ∧ ∀ m m', yLo m m' → Z m → Z m'
def wV (J : xmm → Prop) (o : Option xmm) : Prop := ∃ m', o = some m' ∧ J m'
theorem wv {o : Option xmm} {F : xmm → Option xmm} {I J : xmm → Prop} (h1 : wV I o) (h2 : ∀ m', I m' → wV J (F m')) : wV J (o.bind F) := by
  obtain ⟨m', e, c⟩ := h1
  rw [e]
  exact h2 m' c
theorem wvt {J : xmm → Prop} {c : Prop} {hc0 : Decidable c} {A B : Option xmm} (hc : c) (h : wV J A) : wV J (@ite _ c hc0 A B) := by rw [if_pos hc]; exact h
theorem wvf {J : xmm → Prop} {c : Prop} {hc0 : Decidable c} {A B : Option xmm} (hc : ¬ c) (h : wV J B) : wV J (@ite _ c hc0 A B) := by rw [if_neg hc]; exact h
theorem wvg {J : xmm → Prop} {b : Bool} {o : Option xmm} (hb : b = true) (h : wV J o) : wV J (xgd b o) := by rw [hb]; exact h
theorem wvb {J : xmm → Prop} {A B : Option xmm} (hX : ∀ z, A = some z → B = some z) (h : wV J A) : wV J B := by
  obtain ⟨m', e, c⟩ := h
  exact ⟨m', hX _ e, c⟩
theorem ybp_e (bt : Nat → Int32) (len : Nat) (b : Int32) : ybp bt len b len = b := if_pos rfl
theorem ybp_n {bt : Nat → Int32} {len i : Nat} {b : Int32} (h : i ≠ len) : ybp bt len b i = bt i := if_neg h
theorem yb4_lo {bt : Nat → Int32} {len i : Nat} {v : Int32} (h : i < len) : yb4 bt len v i = bt i := by
  unfold yb4
  rw [ybp_n (by omega), ybp_n (by omega), ybp_n (by omega), ybp_n (by omega)]
theorem yb4_0 {bt : Nat → Int32} {len : Nat} {v : Int32} : yb4 bt len v len = yby v 24 := by
  unfold yb4
  rw [ybp_n (by omega), ybp_n (by omega), ybp_n (by omega), ybp_e]
theorem yb4_1 {bt : Nat → Int32} {len : Nat} {v : Int32} : yb4 bt len v (len + 1) = yby v 16 := by
  unfold yb4
  rw [ybp_n (by omega), ybp_n (by omega), ybp_e]
theorem yb4_2 {bt : Nat → Int32} {len : Nat} {v : Int32} : yb4 bt len v (len + 2) = yby v 8 := by
  unfold yb4
  rw [ybp_n (by omega), ybp_e]
theorem yb4_3 {bt : Nat → Int32} {len : Nat} {v : Int32} : yb4 bt len v (len + 3) = yby v 0 := by
  unfold yb4
  rw [ybp_e]
theorem yb20_4 {bt : Nat → Int32} {len i : Nat} {v1 v2 v3 v4 v5 : Int32} (h : i < len + 4) : yb20 bt len v1 v2 v3 v4 v5 i = yb4 bt len v1 i := by
  unfold yb20
  rw [yb4_lo (by omega), yb4_lo (by omega), yb4_lo (by omega), yb4_lo (by omega)]
theorem yb20_e {bt : Nat → Int32} {len : Nat} {v1 v2 v3 v4 v5 : Int32} : yb20 bt len v1 v2 v3 v4 v5 (len + 4) = yby v2 24 := by
  unfold yb20
  rw [yb4_lo (by omega), yb4_lo (by omega), yb4_lo (by omega), yb4_0]
section
variable {n : Nat} {N : yNW} {h : Nat} {H : Nat → yNW} {hd : Nat → Prop} {K : Nat → yNW} {Z : xmm → Prop} {l : List Nat} {m : xmm}
theorem wTp_len (hT : wTp n N h H hd K Z l m) : l.length ≤ 2000 := hT.2.1.2.1
/-- w bytes of twenty are kept -/
theorem q_feed (hT : wTp n N h H hd K Z l m) {w : List Nat} (hl : l.length + 20 ≤ 2000) (hw : w.length ≤ 20) {v1 v2 v3 v4 v5 : Int32} (hb : ∀ i, i < w.length → yb20 (wbl l) l.length v1 v2 v3 v4 v5 (l.length + i) = nI (w.getD i 0)) {x : Int32} (hx : x = nI (20 - w.length)) : wV (wTp n N h H hd K Z (l ++ w)) ((fX11_feed_0 v1 v2 v3 v4 v5 m).bind fun w1 => (fX11_back_0 x w1.2).bind fun w3 => some w3.2) := by
  obtain ⟨c, t, z, hZ⟩ := hT
  obtain ⟨m1, e1, t1, f1⟩ := (s_cFeed t v1 v2 v3 v4 v5).1 hl
  have e2 : fX11_back_0 x m1 = some (nI (l.length + w.length), xwi m1 1 1 (nI (l.length + w.length))) := by
    apply fX11_back_0_i
    rw [hx, if_neg (yI_ltz (by omega)), t1.1, if_pos (nI_le (by omega) (by omega)), pk_sub (by omega), show l.length + 20 - (20 - w.length) = l.length + w.length by omega]
    show some ((xwi m1 1 1 (nI (l.length + w.length))).1 1 1, _) = _
    rw [xwi_e]
  refine ⟨xwi m1 1 1 (nI (l.length + w.length)), ?_, ?_⟩
  · rw [e1]
    show (fX11_back_0 x m1).bind _ = _
    rw [e2]
    rfl
  · have f2 : yfr [1, 2] m (xwi m1 1 1 (nI (l.length + w.length))) := yfr_w f1.1 (by decide)
    refine ⟨wCI_lo c f2, ⟨?_, ?_, fun i hi => ?_⟩, hZ m _ (yLo_of f2 fun k hk => ?_) z, hZ⟩
    · rw [List.length_append, xwi_e]
    · rw [List.length_append]; omega
    · rw [List.length_append] at hi
      rw [xwi_k (by decide), t1.2.2 i (by omega)]
      show _ = nI ((l ++ w).getD i 0)
      by_cases c1 : i < l.length
      · rw [yb20_4 (by omega), yb4_lo c1, wgD1 c1]
        rfl
      · obtain ⟨j, ej⟩ : ∃ j, i = l.length + j := ⟨i - l.length, by omega⟩
        subst ej
        rw [hb j (by omega), wgD2]
    · rcases List.mem_cons.mp hk with e | e
      · omega
      · have := List.mem_singleton.mp e; omega
theorem wby_c : ∀ c, c < 128 → yby (nI c <<< ((24 : Int32) &&& 31)) 24 = nI c := by decide +kernel
theorem q_sgn (hT : wTp n N h H hd K Z l m) {c : Nat} (hl : l.length + 20 ≤ 2000) (hc : c < 128) : wV (wTp n N h H hd K Z (l ++ [c])) (fL_sign_0 (nI c) m) := by
  refine wvb (fun _ e => fL_sign_0_i _ _ e) (q_feed hT (w := [c]) hl (show 1 ≤ 20 by decide) (fun i hi => ?_) rfl)
  have hi : i < 1 := hi
  have e : i = 0 := by omega
  subst e
  rw [Nat.add_zero, yb20_4 (by omega), yb4_0, wby_c c hc]
  rfl
theorem q_put {w : List Nat} (hT : wTp n N h H hd K Z l m) (hl : l.length + 20 ≤ 2000) {v1 v2 v3 : Int32} (hw : w.length ≤ 20) (hv : v1 = nI w.length) (hb : ∀ i, i < w.length → yb20 (wbl l) l.length v2 v3 0 0 0 (l.length + i) = nI (w.getD i 0)) : wV (wTp n N h H hd K Z (l ++ w)) (fL_put_0 v1 v2 v3 0 0 0 m) := by
  refine wvb (fun _ e => fL_put_0_i _ _ _ _ _ _ _ e) (q_feed hT (w := w) hl hw hb ?_)
  rw [hv]
  exact pk_sub (a := 20) hw
theorem q_posts (hT : wTp n N h H hd K Z l m) (hl : l.length + 20 ≤ 2000) : wV (wTp n N h H hd K Z (l ++ [112, 111, 115, 116, 115])) (fL_put_0 5 1886352244 1929379840 0 0 0 m) := by
  refine q_put hT hl (by decide) rfl fun i hi => ?_
  have hi : i < 5 := hi
  rcases (show i = 0 ∨ i = 1 ∨ i = 2 ∨ i = 3 ∨ i = 4 by omega) with rfl | rfl | rfl | rfl | rfl
  · rw [Nat.add_zero, yb20_4 (by omega), yb4_0]; decide +kernel
  · rw [yb20_4 (by omega), yb4_1]; decide +kernel
  · rw [yb20_4 (by omega), yb4_2]; decide +kernel
  · rw [yb20_4 (by omega), yb4_3]; decide +kernel
  · rw [yb20_e]; decide +kernel
theorem q_cross (hT : wTp n N h H hd K Z l m) (hl : l.length + 20 ≤ 2000) : wV (wTp n N h H hd K Z (l ++ [99, 114, 111, 115, 115])) (fL_put_0 5 1668444019 1929379840 0 0 0 m) := by
  refine q_put hT hl (by decide) rfl fun i hi => ?_
  have hi : i < 5 := hi
  rcases (show i = 0 ∨ i = 1 ∨ i = 2 ∨ i = 3 ∨ i = 4 by omega) with rfl | rfl | rfl | rfl | rfl
  · rw [Nat.add_zero, yb20_4 (by omega), yb4_0]; decide +kernel
  · rw [yb20_4 (by omega), yb4_1]; decide +kernel
  · rw [yb20_4 (by omega), yb4_2]; decide +kernel
  · rw [yb20_4 (by omega), yb4_3]; decide +kernel
  · rw [yb20_e]; decide +kernel
theorem q_way (hT : wTp n N h H hd K Z l m) (hl : l.length + 20 ≤ 2000) : wV (wTp n N h H hd K Z (l ++ [119, 97, 121])) (fL_put_0 3 2002876672 0 0 0 0 m) := by
  refine q_put hT hl (by decide) rfl fun i hi => ?_
  have hi : i < 3 := hi
  rcases (show i = 0 ∨ i = 1 ∨ i = 2 by omega) with rfl | rfl | rfl
  · rw [Nat.add_zero, yb20_4 (by omega), yb4_0]; decide +kernel
  · rw [yb20_4 (by omega), yb4_1]; decide +kernel
  · rw [yb20_4 (by omega), yb4_2]; decide +kernel
theorem q_heap (hT : wTp n N h H hd K Z l m) (hl : l.length + 20 ≤ 2000) : wV (wTp n N h H hd K Z (l ++ [104, 101, 97, 112])) (fL_put_0 4 1751474544 0 0 0 0 m) := by
  refine q_put hT hl (by decide) rfl fun i hi => ?_
  have hi : i < 4 := hi
  rcases (show i = 0 ∨ i = 1 ∨ i = 2 ∨ i = 3 by omega) with rfl | rfl | rfl | rfl
  · rw [Nat.add_zero, yb20_4 (by omega), yb4_0]; decide +kernel
  · rw [yb20_4 (by omega), yb4_1]; decide +kernel
  · rw [yb20_4 (by omega), yb4_2]; decide +kernel
  · rw [yb20_4 (by omega), yb4_3]; decide +kernel
theorem q_r (hT : wTp n N h H hd K Z l m) (hl : l.length + 20 ≤ 2000) : wV (wTp n N h H hd K Z (l ++ [32, 114])) (fL_put_0 2 544342016 0 0 0 0 m) := by
  refine q_put hT hl (by decide) rfl fun i hi => ?_
  have hi : i < 2 := hi
  rcases (show i = 0 ∨ i = 1 by omega) with rfl | rfl
  · rw [Nat.add_zero, yb20_4 (by omega), yb4_0]; decide +kernel
  · rw [yb20_4 (by omega), yb4_1]; decide +kernel
theorem q_num (hT : wTp n N h H hd K Z l m) (hl : l.length + 20 ≤ 2000) {v : Nat} (hv : v < 10) : wV (wTp n N h H hd K Z (l ++ [48 + v])) (fL_number_0 (nI v) m) := by
  refine wvb (fun _ e => fL_number_0_i _ _ e) (wvb (fun _ e => bL_number_0_2_i _ _ _ e) (wvt ?_ (wvb (fun _ e => bL_number_0_18_i _ _ _ e) (wvf (by decide) (wvg (by decide) ?_)))))
  · rw [show (10 : Int32) = nI 10 from rfl, pk_div (by omega) (by decide) (by decide), Nat.div_eq_of_lt hv]
    decide
  have e1 : nI v / (1 : Int32) = nI v := by rw [show (1 : Int32) = nI 1 from rfl, pk_div (by omega) (by decide) (by decide), Nat.div_one]
  have e2 : nI v - nI v / (10 : Int32) * (10 : Int32) = nI v := (pk_rem (d := 10) (by omega) (by decide) (by decide)).trans (by rw [Nat.mod_eq_of_lt hv])
  rw [e1, e2, show (48 : Int32) = nI 48 from rfl, nI_add]
  refine wv (q_sgn hT hl (by omega)) fun m' hm => ?_
  exact wvb (fun _ e => bL_number_0_18_i _ _ _ e) (wvt (by decide) ⟨m', rfl, hm⟩)
end
