/-! the law's questions: an answer, and the state stays *-/
/-- a run ends with r, in a memory of J -/
def wR {α : Type} (r : α) (J : xmm → Prop) (o : Option (α × xmm)) : Prop := ∃ m', o = some (r, m') ∧ J m'
theorem wq {α β : Type} {o : Option (α × xmm)} {a : α} {r : β} {F : α × xmm → Option (β × xmm)} {I J : xmm → Prop} (h1 : wR a I o) (h2 : ∀ m', I m' → wR r J (F (a, m'))) : wR r J (o.bind F) := by
  obtain ⟨m', e, c⟩ := h1
  rw [e]
  exact h2 m' c
theorem wt {α : Type} {r : α} {J : xmm → Prop} {c : Prop} {hc0 : Decidable c} {A B : Option (α × xmm)} (hc : c) (h : wR r J A) : wR r J (@ite _ c hc0 A B) := by rw [if_pos hc]; exact h
theorem wno {α : Type} {r : α} {J : xmm → Prop} {c : Prop} {hc0 : Decidable c} {A B : Option (α × xmm)} (hc : ¬ c) (h : wR r J B) : wR r J (@ite _ c hc0 A B) := by rw [if_neg hc]; exact h
theorem wg {α : Type} {r : α} {J : xmm → Prop} {b : Bool} {o : Option (α × xmm)} (hb : b = true) (h : wR r J o) : wR r J (xgd b o) := by rw [hb]; exact h
theorem wl {α β : Type} {r : α} {J : xmm → Prop} {a : β} {f : β → Option (α × xmm)} (h : wR r J (f a)) : wR r J (xlt a f) := h
theorem wb {α : Type} {r : α} {J : xmm → Prop} {A B : Option (α × xmm)} (hX : ∀ z, A = some z → B = some z) (h : wR r J A) : wR r J B := by
  obtain ⟨m', e, c⟩ := h
  exact ⟨m', hX _ e, c⟩
theorem we {α : Type} {r : α} {J : xmm → Prop} {m : xmm} (h : J m) : wR r J (some (r, m)) := ⟨m, rfl, h⟩
theorem wJ {α : Type} {r : α} {I J : xmm → Prop} {o : Option (α × xmm)} (h : wR r I o) (h2 : ∀ m, I m → J m) : wR r J o := by
  obtain ⟨m', e, c⟩ := h
  exact ⟨m', e, h2 m' c⟩
theorem wre {α : Type} {r r' : α} {J : xmm → Prop} {o : Option (α × xmm)} (h : wR r J o) (e : r = r') : wR r' J o := by rw [← e]; exact h
def wI (n : Nat) (N : yNW) (h : Nat) (H : Nat → yNW) (hd : Nat → Prop) (K : Nat → yNW) (len : Nat) (Z : xmm → Prop) (m : xmm) : Prop := yCI n N h H hd K m ∧ m.1 1 1 = nI len ∧ Z m ∧ ∀ m m', yLo m m' → Z m → Z m'
section
variable {n : Nat} {N : yNW} {h : Nat} {H : Nat → yNW} {hd : Nat → Prop} {K : Nat → yNW} {len : Nat} {Z : xmm → Prop} {m : xmm}
theorem wI_k {n' : Nat} {N' : yNW} {h' : Nat} {H' : Nat → yNW} {hd' : Nat → Prop} {K' : Nat → yNW} {m' : xmm} (hI : wI n N h H hd K len Z m) (c : yCI n' N' h' H' hd' K' m') (k : yCk m m') : wI n' N' h' H' hd' K' len Z m' := ⟨c, ((k.2 1 (by decide) (by decide)).1 1).trans hI.2.1, hI.2.2.2 _ _ k.1 hI.2.2.1, hI.2.2.2⟩
theorem wI_A {r : Int32} {o : Option (Int32 × xmm)} (hI : wI n N h H hd K len Z m) (hA : yCA n N h H hd K r o m) : wR r (wI n N h H hd K len Z) o := by
  obtain ⟨m', e, c, k⟩ := hA
  exact ⟨m', e, wI_k hI c k⟩
theorem wI_G (hI : wI n N h H hd K len Z m) : yGr n N.1 := hI.1.1.1
theorem q_net (hI : wI n N h H hd K len Z m) (x : Int32) : wR (yaNet n N x) (wI n N h H hd K len Z) (fX11_network_0 x m) := wI_A hI (s_cNet hI.1 x)
theorem q_cnt (hI : wI n N h H hd K len Z m) (x : Int32) : wR (yaCnt n N h hd len x) (wI n N h H hd K len Z) (fX11_count_0 x m) := wI_A hI (s_cCnt hI.1 hI.2.1 x)
theorem q_near (hI : wI n N h H hd K len Z m) (x : Int32) : wR (yaNear n N x) (wI n N h H hd K len Z) (fX11_near_0 x m) := wI_A hI (s_cNear hI.1 x)
theorem q_far (hI : wI n N h H hd K len Z m) (x y : Int32) : wR (yaFar n N x y) (wI n N h H hd K len Z) (fX11_far_0 x y m) := wI_A hI (s_cFar hI.1 x y)
theorem q_under (hI : wI n N h H hd K len Z m) (x y : Int32) : wR (yaUnder n N x y) (wI n N h H hd K len Z) (fX11_under_0 x y m) := wI_A hI (s_cUnder hI.1 x y)
theorem q_str (hI : wI n N h H hd K len Z m) (x y : Int32) : wR (yaStr n N x y) (wI n N h H hd K len Z) (fX11_straight_0 x y m) := wI_A hI (s_cStr hI.1 x y)
theorem q_chain (hI : wI n N h H hd K len Z m) (x : Int32) : wR (yaChain n N x) (wI n N h H hd K len Z) (fX11_chain_0 x m) := wI_A hI (s_cChain hI.1 x)
theorem q_col (hI : wI n N h H hd K len Z m) (x : Int32) : wR (yaCol n N x) (wI n N h H hd K len Z) (fX11_colours_0 x m) := wI_A hI (s_cColQ hI.1 x)
theorem q_like (hI : wI n N h H hd K len Z m) (x : Int32) : wR (yaLike n N hd K x) (wI n N h H hd K len Z) (fX11_like_0 x m) := wI_A hI (s_cLikeQ hI.1 x)
theorem q_set (hI : wI n N h H hd K len Z m) (x w : Int32) : wR (yaSet n N x w) (wI n N h H hd K len Z) (fX11_set_0 x w m) := wI_A hI (s_cSet hI.1 x w)
theorem q_sign (hI : wI n N h H hd K len Z m) (x y : Int32) : wR (yaSign n N x y) (wI n N h H hd K len Z) (fX11_sign_0 x y m) := wI_A hI (s_cSign hI.1 x y)
theorem q_ord (hI : wI n N h H hd K len Z m) (x : Int32) : wR (yaOrd n N x) (wI n N h H hd K len Z) (fX11_order_0 x m) := wI_A hI (s_cOrd hI.1 x)
theorem q_force (hI : wI n N h H hd K len Z m) (x y z w : Int32) : wR (yaForce n N x y z w) (wI n N h H hd K len Z) (fX11_forces_0 x y z w m) := wI_A hI (s_cForce hI.1 x y z w)
theorem q_post (hI : wI n N h H hd K len Z m) (x w : Int32) : wR (yaPost n N x w) (wI n N h H hd K len Z) (fX11_post_0 x w m) := wI_A hI (s_cPost hI.1 x w)
theorem q_walk (hI : wI n N h H hd K len Z m) (x y w : Int32) : wR (yaWalk n N x y w) (wI n N h H hd K len Z) (fX11_walk_0 x y w m) := wI_A hI (s_cWalk hI.1 x y w)
theorem q_of (hI : wI n N h H hd K len Z m) (x w : Int32) : wR (yaOf n N x w) (wI n N h H hd K len Z) (fX11_of_0 x w m) := wI_A hI (s_cOf hI.1 x w)
theorem q_kl (hI : wI n N h H hd K len Z m) (x y w : Int32) : wR (yaKl n N x y w) (wI n N h H hd K len Z) (fX11_klass_0 x y w m) := wI_A hI (s_cKl hI.1 x y w)
theorem q_bc {I : xmm → Prop} (hI : I m) {k : Nat} (hk : k < 256) : wR (nI (ypp k)) I (fJ6_bitCount (nI k) m) := ⟨m, s_bitCount hk m, hI⟩
/-! changes -/
theorem q_undo0 (hI : wI n N 0 H hd K len Z m) : wR 0 (wI n N 0 H hd K len Z) (fX11_undo_0 m) := by
  obtain ⟨m', e, c1, -, k⟩ := s_cUndo hI.1
  exact ⟨m', by rw [e, yP_f (fun t => t rfl)], wI_k hI (c1 rfl) k⟩
theorem q_undo (hI : wI n N (h + 1) H hd K len Z m) : wR 1 (wI n (H 0) h (fun i => H (i + 1)) hd K len Z) (fX11_undo_0 m) := by
  obtain ⟨m', e, -, c2, k⟩ := s_cUndo hI.1
  exact ⟨m', by rw [e, yP_t (Nat.succ_ne_zero h)], wI_k hI (c2 (Nat.succ_ne_zero h)) k⟩
theorem q_hold (hI : wI n N h H hd K len Z m) {i : Nat} (hi : i < 3) : wR 1 (wI n N h H (yhu hd i) (yku K i N) len Z) (fX11_hold_0 (nI i) m) := by
  obtain ⟨m', e, c, -, k⟩ := s_cHold hI.1 (nI i)
  exact ⟨m', by rw [e, yP_t ⟨i, hi, rfl⟩], wI_k hI (c i hi rfl) k⟩
theorem q_holdn (hI : wI n N h H hd K len Z m) : wR 0 (wI n N h H hd K len Z) (fX11_hold_0 (-1) m) := by
  have hn : ¬ ySl (-1) := by
    rintro ⟨i, hi, e⟩
    rcases (show i = 0 ∨ i = 1 ∨ i = 2 by omega) with rfl | rfl | rfl <;> exact absurd e (by decide)
  obtain ⟨m', e, -, c, k⟩ := s_cHold hI.1 (-1)
  exact ⟨m', by rw [e, yP_f hn], by rw [c hn]; exact hI⟩
theorem q_rest (hI : wI n N h H hd K len Z m) {i : Nat} (hi : i < 3) (hh : hd i) : wR 1 (wI n (K i) 0 H hd K len Z) (fX11_restore_0 (nI i) m) := by
  obtain ⟨m', e, c, -, k⟩ := s_cRestore hI.1 (nI i)
  exact ⟨m', by rw [e, yP_t ⟨i, hi, rfl, hh⟩], wI_k hI (c i hi rfl hh) k⟩
theorem q_restn (hI : wI n N h H hd K len Z m) : wR 0 (wI n N h H hd K len Z) (fX11_restore_0 3 m) := by
  have hn : ¬ yIsH hd 3 := by
    rintro ⟨i, hi, e, -⟩
    rcases (show i = 0 ∨ i = 1 ∨ i = 2 by omega) with rfl | rfl | rfl <;> exact absurd e (by decide)
  obtain ⟨m', e, -, c, k⟩ := s_cRestore hI.1 3
  exact ⟨m', by rw [e, yP_f hn], by rw [c hn]; exact hI⟩
theorem q_line (hI : wI n N h H hd K len Z m) {a b : Nat} (ha : a < n) (hb : b < n) (hab : a ≠ b) : wR 1 (wI n (yfp N.1 a b, N.2) (yhn h) (ypu N H) hd K len Z) (fX11_line_0 (nI a) (nI b) m) := by
  obtain ⟨m', e, c, -, k⟩ := s_cLine hI.1 (nI a) (nI b)
  exact ⟨m', by rw [e, yP_t ⟨a, b, ha, hb, hab, rfl, rfl⟩], wI_k hI (c a b ha hb hab rfl rfl) k⟩
theorem q_linen (hI : wI n N h H hd K len Z m) {x y : Int32} (hn : ¬ yPr2 n x y) : wR 0 (wI n N h H hd K len Z) (fX11_line_0 x y m) := by
  obtain ⟨m', e, -, c, k⟩ := s_cLine hI.1 x y
  exact ⟨m', by rw [e, yP_f hn], by rw [c hn]; exact hI⟩
theorem q_exch (hI : wI n N h H hd K len Z m) {a b : Nat} (ha : a < n) (hb : b < n) (hab : a ≠ b) : wR 1 (wI n (yex N.1 n a b, N.2) (yhn h) (ypu N H) hd K len Z) (fX11_exchange_0 (nI a) (nI b) m) := by
  obtain ⟨m', e, c, -, k⟩ := s_cExchange hI.1 (nI a) (nI b)
  exact ⟨m', by rw [e, yP_t ⟨a, b, ha, hb, hab, rfl, rfl⟩], wI_k hI (c a b ha hb hab rfl rfl) k⟩
theorem q_exchn (hI : wI n N h H hd K len Z m) {x y : Int32} (hn : ¬ yPr2 n x y) : wR 0 (wI n N h H hd K len Z) (fX11_exchange_0 x y m) := by
  obtain ⟨m', e, -, c, k⟩ := s_cExchange hI.1 x y
  exact ⟨m', by rw [e, yP_f hn], by rw [c hn]; exact hI⟩
theorem q_other (hI : wI n N h H hd K len Z m) : wR (nI (yln (yop n N.1))) (wI n (yop n N.1, N.2) (yhn h) (ypu N H) hd K len Z) (fX11_other_0 m) := by
  obtain ⟨m', e, c, k⟩ := s_cOther hI.1
  exact ⟨m', e, wI_k hI c k⟩
theorem q_begin (hI : wI n N h H hd K len Z m) : wR (nI (1 - N.2)) (wI n (N.1, 1 - N.2) (yhn h) (ypu N H) hd K len Z) (fX11_begin_0 m) := by
  obtain ⟨m', e, c, k⟩ := s_cBegin hI.1
  exact ⟨m', e, wI_k hI c k⟩
theorem q_bare (hI : wI n N h H hd K len Z m) {a : Nat} (ha : a < n) (h0 : N.1 a ≠ 0) : wR (nI (ypp (N.1 a))) (wI n (ysp1 N.1 a, N.2) (yhn h) (ypu N H) hd K len Z) (fX11_bare_0 (nI a) m) := by
  obtain ⟨m', e, c, -, k⟩ := s_cBare hI.1 (nI a)
  have hn := (wI_G hI).1
  refine ⟨m', ?_, wI_k hI (c a ha rfl h0) k⟩
  rw [e]
  unfold ybr
  rw [yif_t ⟨a, ha, rfl⟩, yI_cl (by omega)]
theorem q_bare0 (hI : wI n N h H hd K len Z m) {a : Nat} (ha : a < n) (h0 : N.1 a = 0) : wR 0 (wI n N h H hd K len Z) (fX11_bare_0 (nI a) m) := by
  obtain ⟨m', e, -, c, k⟩ := s_cBare hI.1 (nI a)
  have hn := (wI_G hI).1
  have hno : ¬ ∃ b, b < n ∧ nI a = nI b ∧ N.1 b ≠ 0 := by
    rintro ⟨b, hb, eb, h1⟩
    have : a = b := (nI_eq (by omega) (by omega)).mp eb
    subst this
    exact h1 h0
  refine ⟨m', ?_, by rw [c hno]; exact hI⟩
  rw [e]
  unfold ybr
  rw [yif_t ⟨a, ha, rfl⟩, yI_cl (by omega), h0, ypp_0 (fun _ => yb_0)]
  rfl
theorem q_baren (hI : wI 0 N h H hd K len Z m) (x : Int32) : wR (-1) (wI 0 N h H hd K len Z) (fX11_bare_0 x m) := by
  obtain ⟨m', e, -, c, k⟩ := s_cBare hI.1 x
  have hno : ¬ ∃ b, b < 0 ∧ x = nI b ∧ N.1 b ≠ 0 := fun ⟨b, hb, _⟩ => absurd hb (Nat.not_lt_zero b)
  refine ⟨m', ?_, by rw [c hno]; exact hI⟩
  rw [e]
  unfold ybr
  rw [yif_f (fun ⟨b, hb, _⟩ => absurd hb (Nat.not_lt_zero b))]
end
/-! what the answers are -/
section
variable {n : Nat} {N : yNW} {h : Nat} {hd : Nat → Prop} {K : Nat → yNW} {len : Nat}
theorem wPp {p : Nat} (hp : p < n) : yIsP n (nI p) := ⟨p, hp, rfl⟩
theorem e_near' (hn : n ≤ 8) {p : Nat} (hp : p < n) : yaNear n N (nI p) = nI (N.1 p) := by
  unfold yaNear
  rw [yif_t (wPp hp), yI_cl (by omega)]
theorem e_far' (hn : n ≤ 8) {p q : Nat} (hp : p < n) (hq : q < n) : yaFar n N (nI p) (nI q) = yfd N.1 p q := by
  unfold yaFar
  rw [yif_t ⟨wPp hp, wPp hq⟩, yI_cl (by omega), yI_cl (by omega)]
theorem e_under' (hn : n ≤ 8) (ho : yord (yad N.1)) {p q : Nat} (hp : p < n) (hq : q < n) : yaUnder n N (nI p) (nI q) = yP (yT N.1 N.2 p q) := by
  unfold yaUnder
  rw [yif_t ⟨wPp hp, wPp hq⟩, yif_t ho, yI_cl (by omega), yI_cl (by omega)]
theorem e_str' (hn : n ≤ 8) (ho : yord (yad N.1)) {i k : Nat} (hi : i < yW n (yT N.1 N.2) 0) (hk : k < n) : yaStr n N (nI i) (nI k) = nI (ypk n (yT N.1 N.2) i k) := by
  have := yW_le hn (yT N.1 N.2) 0
  unfold yaStr
  rw [yif_t ⟨yI_ltz (by omega), wPp hk⟩, yif_t ho, yI_cl (by omega), yI_cl (by omega), yif_t hi]
theorem e_chain' (hn : n ≤ 8) (ho : yord (yad N.1)) {p : Nat} (hp : p < n) : yaChain n N (nI p) = nI (ycq N.1 n p) := by
  unfold yaChain
  rw [yif_t (wPp hp), yif_t ho, yI_cl (by omega)]
theorem e_col' {k : Nat} (hk : k < 10) : yaCol n N (nI k) = nI (yck N.1 k (2 ^ n - 1)) := by
  unfold yaCol
  rw [yif_t ⟨k, hk, rfl⟩, yI_cl (by omega)]
theorem e_like' {i : Nat} (hi : i < 3) (hh : hd i) : yaLike n N hd K (nI i) = nI (yLk N.1 (K i).1 n) := by
  unfold yaLike
  rw [yif_t ⟨i, hi, rfl, hh⟩, yI_cl (by omega)]
theorem e_set' (hn : n ≤ 8) {S : Nat} (hS : S < 2 ^ n) (w : Int32) : yaSet n N (nI S) w = if w = 0 then yP (ychn N.1 S) else if w = 1 then yP (yap N.1 S) else if w = 2 then yP (ymo (yad N.1) (2 ^ n - 1) S) else if w = 3 then yP (yrd N.1 S) else -1 := by
  have := y2p8 hn
  unfold yaSet
  rw [yif_t ⟨S, by omega, rfl⟩, yI_cl (by omega)]
theorem e_sign' (hn : n ≤ 8) (ho : yord (yad N.1)) {p q : Nat} (hp : p < n) (hq : q < n) : yaSign n N (nI p) (nI q) = ysg n (yT N.1 N.2) p q := by
  unfold yaSign
  rw [yif_t ⟨wPp hp, wPp hq⟩, yif_t ho, yI_cl (by omega), yI_cl (by omega)]
theorem e_ord' (ho : yord (yad N.1)) {i : Nat} (hi : i ≤ 9) : yaOrd n N (nI i) = (if nI i = 0 then nI (yW n (yT N.1 N.2) 0) else if nI i = 1 then nI (yncv n (yT N.1 N.2)) else if nI i = 2 then nI (ypp (ygs (ychn N.1) (2 ^ n))) else if nI i = 3 then nI (ygs (ychn N.1) (2 ^ n)) else if nI i = 4 then nI (ypp (ygs (yap N.1) (2 ^ n))) else if nI i = 5 then nI (ygs (yap N.1) (2 ^ n)) else if nI i = 6 then nI (ync N.1 n) else if nI i = 7 then ygl n (yT N.1 N.2) else if nI i = 8 then nI (yct (fun S => ydw (yT N.1 N.2) S) (2 ^ n)) else nI (yJF n (yT N.1 N.2))) := by
  unfold yaOrd
  rw [yif_t ⟨i, hi, rfl⟩, yif_t ho]
theorem e_ord0 (ho : yord (yad N.1)) : yaOrd n N 0 = nI (yW n (yT N.1 N.2) 0) := e_ord' (i := 0) ho (by decide)
theorem e_ord2 (ho : yord (yad N.1)) : yaOrd n N 2 = nI (ypp (ygs (ychn N.1) (2 ^ n))) := e_ord' (i := 2) ho (by decide)
theorem e_ord3 (ho : yord (yad N.1)) : yaOrd n N 3 = nI (ygs (ychn N.1) (2 ^ n)) := e_ord' (i := 3) ho (by decide)
theorem e_ord4 (ho : yord (yad N.1)) : yaOrd n N 4 = nI (ypp (ygs (yap N.1) (2 ^ n))) := e_ord' (i := 4) ho (by decide)
theorem e_ord5 (ho : yord (yad N.1)) : yaOrd n N 5 = nI (ygs (yap N.1) (2 ^ n)) := e_ord' (i := 5) ho (by decide)
theorem e_ord6 (ho : yord (yad N.1)) : yaOrd n N 6 = nI (ync N.1 n) := e_ord' (i := 6) ho (by decide)
theorem e_ord7 (ho : yord (yad N.1)) : yaOrd n N 7 = ygl n (yT N.1 N.2) := e_ord' (i := 7) ho (by decide)
theorem e_ord8 (ho : yord (yad N.1)) : yaOrd n N 8 = nI (yct (fun S => ydw (yT N.1 N.2) S) (2 ^ n)) := e_ord' (i := 8) ho (by decide)
theorem e_ord9 (ho : yord (yad N.1)) : yaOrd n N 9 = nI (yJF n (yT N.1 N.2)) := e_ord' (i := 9) ho (by decide)
theorem e_ordn (ho : ¬ yord (yad N.1)) {i : Nat} (hi : i ≤ 9) : yaOrd n N (nI i) = -2 := by
  unfold yaOrd
  rw [yif_t ⟨i, hi, rfl⟩, yif_f ho]
theorem e_post' (hn : n ≤ 8) (ho : yord (yad N.1)) {p i : Nat} (hp : p < n) (hi : i ≤ 6) : yaPost n N (nI p) (nI i) = (if nI i = 0 then nI (ylev n (yT N.1 N.2) p) else if nI i = 1 then nI (yci (yT N.1 N.2) p) else if nI i = 2 then nI (yro (yT N.1 N.2) p) else if nI i = 3 then nI (ycv n (yT N.1 N.2) p) else if nI i = 4 then nI (ypl n (yT N.1 N.2) p) else yif (yord (yad (yop n N.1))) (if nI i = 5 then nI (ycp n N p 0) else nI (ycp n N p 1)) (-2)) := by
  unfold yaPost
  rw [yif_t (wPp hp), yif_t ⟨i, hi, rfl⟩, yif_t ho, yI_cl (by omega)]
theorem e_post0 (hn : n ≤ 8) (ho : yord (yad N.1)) {p : Nat} (hp : p < n) : yaPost n N (nI p) 0 = nI (ylev n (yT N.1 N.2) p) := e_post' (i := 0) hn ho hp (by decide)
theorem e_post1 (hn : n ≤ 8) (ho : yord (yad N.1)) {p : Nat} (hp : p < n) : yaPost n N (nI p) 1 = nI (yci (yT N.1 N.2) p) := e_post' (i := 1) hn ho hp (by decide)
theorem e_post2 (hn : n ≤ 8) (ho : yord (yad N.1)) {p : Nat} (hp : p < n) : yaPost n N (nI p) 2 = nI (yro (yT N.1 N.2) p) := e_post' (i := 2) hn ho hp (by decide)
theorem e_post3 (hn : n ≤ 8) (ho : yord (yad N.1)) {p : Nat} (hp : p < n) : yaPost n N (nI p) 3 = nI (ycv n (yT N.1 N.2) p) := e_post' (i := 3) hn ho hp (by decide)
theorem e_post4 (hn : n ≤ 8) (ho : yord (yad N.1)) {p : Nat} (hp : p < n) : yaPost n N (nI p) 4 = nI (ypl n (yT N.1 N.2) p) := e_post' (i := 4) hn ho hp (by decide)
theorem e_post5 (hn : n ≤ 8) (ho : yord (yad N.1)) (ho2 : yord (yad (yop n N.1))) {p : Nat} (hp : p < n) : yaPost n N (nI p) 5 = nI (ycp n N p 0) := (e_post' (i := 5) hn ho hp (by decide)).trans (yif_t ho2)
theorem e_post6 (hn : n ≤ 8) (ho : yord (yad N.1)) (ho2 : yord (yad (yop n N.1))) {p : Nat} (hp : p < n) : yaPost n N (nI p) 6 = nI (ycp n N p 1) := (e_post' (i := 6) hn ho hp (by decide)).trans (yif_t ho2)
theorem e_line (hn : n ≤ 8) {a b : Nat} (ha : a < n) (hb : b < n) (hl : yad N.1 a b) : yLP n N.1 (nI a) (nI b) := (yLP_i hn ha hb).mpr hl
theorem e_force' (hn : n ≤ 8) {a b c d : Nat} (ha : a < n) (hb : b < n) (hc : c < n) (hd' : d < n) (h1 : yad N.1 a b) (h2 : yad N.1 c d) : yaForce n N (nI a) (nI b) (nI c) (nI d) = yP (yfc (yad N.1) (a, b) (c, d)) := by
  unfold yaForce
  rw [yif_t ⟨e_line hn ha hb h1, e_line hn hc hd' h2⟩, yI_cl (by omega), yI_cl (by omega), yI_cl (by omega), yI_cl (by omega)]
theorem e_kl' (hn : n ≤ 8) {a b : Nat} (ha : a < n) (hb : b < n) (h1 : yad N.1 a b) (w : Int32) : yaKl n N (nI a) (nI b) w = if w = 0 then nI (ycz N.1 (8 * a + b)) else if w = 1 then yP (yodd (yad N.1) (yan (8 * a + b))) else if w = 2 then nI (ylm N.1 (8 * a + b) 64) else if w = 3 then nI (ywl N.1 (8 * a + b)) else -1 := by
  unfold yaKl
  rw [yif_t (e_line hn ha hb h1), yI_cl (by omega), yI_cl (by omega)]
theorem e_walk' (hn : n ≤ 8) {a b : Nat} (ha : a < n) (hb : b < n) (h1 : yad N.1 a b) (w : Int32) : yaWalk n N (nI a) (nI b) w = ywa N.1 (8 * a + b) w := by
  unfold yaWalk
  rw [yif_t (e_line hn ha hb h1), yI_cl (by omega), yI_cl (by omega)]
theorem e_of' (hG : yGd N.1) {i k : Nat} (hi : i < yln N.1) (hk : yLI N.1 i k) : yaOf n N (nI i) 0 = nI (k / 8) ∧ yaOf n N (nI i) 1 = nI (k % 8) ∧ (yord (yad N.1) → yaOf n N (nI i) 2 = nI (yse N.1 N.2 k) ∧ yaOf n N (nI i) 3 = yP (yT N.1 N.2 (k / 8) (k % 8))) := by
  have hP : yOP N.1 (nI i) := (yOP_tot hG).mpr ⟨i, hi, rfl⟩
  have h28 : i < 64 := by
    obtain ⟨k', j, hj, e, hk'⟩ := hP
    have hb : yli N.1 k ≤ 28 := yli_b N.1 (Nat.le_of_lt hk.1)
    have := hk.2.2
    omega
  have hON : yON N.1 (nI i) = k := by
    obtain ⟨j, hj, e, hk'⟩ := yON_s hP
    have : i = j := (nI_eq (by omega) (by omega)).mp e
    subst this
    exact yLI_u hk' hk
  have e0 : ∀ w, yInK 3 w → yaOf n N (nI i) w = (if w = 0 then nI (k / 8) else if w = 1 then nI (k % 8) else yif (yord (yad N.1)) (if w = 2 then nI (yse N.1 N.2 k) else yP (yT N.1 N.2 (k / 8) (k % 8))) (-2)) := fun w hw => by
    unfold yaOf
    rw [yif_t hP, yif_t hw, hON]
  refine ⟨e0 0 ⟨0, by decide, rfl⟩, e0 1 ⟨1, by decide, rfl⟩, fun ho => ⟨(e0 2 ⟨2, by decide, rfl⟩).trans (yif_t ho), (e0 3 ⟨3, by decide, rfl⟩).trans (yif_t ho)⟩⟩
end
