/-! the calls of the LAW, both sides -/
theorem q_of {n : Nat} {N : yNW} {h : Nat} {H : Nat → yNW} {hd : Nat → Prop} {K : Nat → yNW} {len : Nat} {bt : Nat → Int32} {pl : Int32} {L : Nat} {xs : Nat → Int32} {m : xmm} (hC : yZC n N h H hd K len bt pl m) (hM : yZM n N h H hd K len bt pl m) (hS : yScr L xs m) (x y : Int32) : ∃ r m1 m2, fX11_of_0 x y m = some (r, m1) ∧ yScr L xs m1 ∧ fX12_of_144 x y m1 = some (r, m2) ∧ yZe L xs m2 := yz_qu (F := fun m => fX11_of_0 x y m) (G := fun m => fX12_of_144 x y m) hC hM hS (s_cOf hC.1 x y) fun m1 h1 _ => s_mOf hC.1.1 h1 x y
theorem q_far {n : Nat} {N : yNW} {h : Nat} {H : Nat → yNW} {hd : Nat → Prop} {K : Nat → yNW} {len : Nat} {bt : Nat → Int32} {pl : Int32} {L : Nat} {xs : Nat → Int32} {m : xmm} (hC : yZC n N h H hd K len bt pl m) (hM : yZM n N h H hd K len bt pl m) (hS : yScr L xs m) (x y : Int32) : ∃ r m1 m2, fX11_far_0 x y m = some (r, m1) ∧ yScr L xs m1 ∧ fX12_far_144 x y m1 = some (r, m2) ∧ yZe L xs m2 := yz_qu (F := fun m => fX11_far_0 x y m) (G := fun m => fX12_far_144 x y m) hC hM hS (s_cFar hC.1 x y) fun m1 h1 _ => s_mFar hC.1.1 h1 x y
theorem q_near {n : Nat} {N : yNW} {h : Nat} {H : Nat → yNW} {hd : Nat → Prop} {K : Nat → yNW} {len : Nat} {bt : Nat → Int32} {pl : Int32} {L : Nat} {xs : Nat → Int32} {m : xmm} (hC : yZC n N h H hd K len bt pl m) (hM : yZM n N h H hd K len bt pl m) (hS : yScr L xs m) (x : Int32) : ∃ r m1 m2, fX11_near_0 x m = some (r, m1) ∧ yScr L xs m1 ∧ fX12_near_144 x m1 = some (r, m2) ∧ yZe L xs m2 := yz_qu (F := fun m => fX11_near_0 x m) (G := fun m => fX12_near_144 x m) hC hM hS (s_cNear hC.1 x) fun m1 h1 _ => s_mNear hC.1.1 h1 x
theorem q_forces {n : Nat} {N : yNW} {h : Nat} {H : Nat → yNW} {hd : Nat → Prop} {K : Nat → yNW} {len : Nat} {bt : Nat → Int32} {pl : Int32} {L : Nat} {xs : Nat → Int32} {m : xmm} (hC : yZC n N h H hd K len bt pl m) (hM : yZM n N h H hd K len bt pl m) (hS : yScr L xs m) (x y z w : Int32) : ∃ r m1 m2, fX11_forces_0 x y z w m = some (r, m1) ∧ yScr L xs m1 ∧ fX12_forces_144 x y z w m1 = some (r, m2) ∧ yZe L xs m2 := yz_qu (F := fun m => fX11_forces_0 x y z w m) (G := fun m => fX12_forces_144 x y z w m) hC hM hS (s_cForce hC.1 x y z w) fun m1 h1 _ => s_mForce hC.1.1 h1 x y z w
theorem q_klass {n : Nat} {N : yNW} {h : Nat} {H : Nat → yNW} {hd : Nat → Prop} {K : Nat → yNW} {len : Nat} {bt : Nat → Int32} {pl : Int32} {L : Nat} {xs : Nat → Int32} {m : xmm} (hC : yZC n N h H hd K len bt pl m) (hM : yZM n N h H hd K len bt pl m) (hS : yScr L xs m) (x y z : Int32) : ∃ r m1 m2, fX11_klass_0 x y z m = some (r, m1) ∧ yScr L xs m1 ∧ fX12_klass_144 x y z m1 = some (r, m2) ∧ yZe L xs m2 := yz_qu (F := fun m => fX11_klass_0 x y z m) (G := fun m => fX12_klass_144 x y z m) hC hM hS (s_cKl hC.1 x y z) fun m1 h1 _ => s_mKl hC.1.1 h1 x y z
theorem q_walk {n : Nat} {N : yNW} {h : Nat} {H : Nat → yNW} {hd : Nat → Prop} {K : Nat → yNW} {len : Nat} {bt : Nat → Int32} {pl : Int32} {L : Nat} {xs : Nat → Int32} {m : xmm} (hC : yZC n N h H hd K len bt pl m) (hM : yZM n N h H hd K len bt pl m) (hS : yScr L xs m) (x y z : Int32) : ∃ r m1 m2, fX11_walk_0 x y z m = some (r, m1) ∧ yScr L xs m1 ∧ fX12_walk_144 x y z m1 = some (r, m2) ∧ yZe L xs m2 := yz_qu (F := fun m => fX11_walk_0 x y z m) (G := fun m => fX12_walk_144 x y z m) hC hM hS (s_cWalk hC.1 x y z) fun m1 h1 _ => s_mWalk hC.1.1 h1 x y z
theorem q_network {n : Nat} {N : yNW} {h : Nat} {H : Nat → yNW} {hd : Nat → Prop} {K : Nat → yNW} {len : Nat} {bt : Nat → Int32} {pl : Int32} {L : Nat} {xs : Nat → Int32} {m : xmm} (hC : yZC n N h H hd K len bt pl m) (hM : yZM n N h H hd K len bt pl m) (hS : yScr L xs m) (x : Int32) : ∃ r m1 m2, fX11_network_0 x m = some (r, m1) ∧ yScr L xs m1 ∧ fX12_network_144 x m1 = some (r, m2) ∧ yZe L xs m2 := yz_qu (F := fun m => fX11_network_0 x m) (G := fun m => fX12_network_144 x m) hC hM hS (s_cNet hC.1 x) fun m1 h1 _ => s_mNet hC.1.1 h1 x
theorem q_under {n : Nat} {N : yNW} {h : Nat} {H : Nat → yNW} {hd : Nat → Prop} {K : Nat → yNW} {len : Nat} {bt : Nat → Int32} {pl : Int32} {L : Nat} {xs : Nat → Int32} {m : xmm} (hC : yZC n N h H hd K len bt pl m) (hM : yZM n N h H hd K len bt pl m) (hS : yScr L xs m) (x y : Int32) : ∃ r m1 m2, fX11_under_0 x y m = some (r, m1) ∧ yScr L xs m1 ∧ fX12_under_144 x y m1 = some (r, m2) ∧ yZe L xs m2 := yz_qu (F := fun m => fX11_under_0 x y m) (G := fun m => fX12_under_144 x y m) hC hM hS (s_cUnder hC.1 x y) fun m1 h1 _ => s_mUnder hC.1.1 h1 x y
theorem q_post {n : Nat} {N : yNW} {h : Nat} {H : Nat → yNW} {hd : Nat → Prop} {K : Nat → yNW} {len : Nat} {bt : Nat → Int32} {pl : Int32} {L : Nat} {xs : Nat → Int32} {m : xmm} (hC : yZC n N h H hd K len bt pl m) (hM : yZM n N h H hd K len bt pl m) (hS : yScr L xs m) (x y : Int32) : ∃ r m1 m2, fX11_post_0 x y m = some (r, m1) ∧ yScr L xs m1 ∧ fX12_post_144 x y m1 = some (r, m2) ∧ yZe L xs m2 := yz_qu (F := fun m => fX11_post_0 x y m) (G := fun m => fX12_post_144 x y m) hC hM hS (s_cPost hC.1 x y) fun m1 h1 _ => s_mPost hC.1.1 h1 x y
theorem q_order {n : Nat} {N : yNW} {h : Nat} {H : Nat → yNW} {hd : Nat → Prop} {K : Nat → yNW} {len : Nat} {bt : Nat → Int32} {pl : Int32} {L : Nat} {xs : Nat → Int32} {m : xmm} (hC : yZC n N h H hd K len bt pl m) (hM : yZM n N h H hd K len bt pl m) (hS : yScr L xs m) (x : Int32) : ∃ r m1 m2, fX11_order_0 x m = some (r, m1) ∧ yScr L xs m1 ∧ fX12_order_144 x m1 = some (r, m2) ∧ yZe L xs m2 := yz_qu (F := fun m => fX11_order_0 x m) (G := fun m => fX12_order_144 x m) hC hM hS (s_cOrd hC.1 x) fun m1 h1 _ => s_mOrdQ hC.1.1 h1 x
theorem q_chain {n : Nat} {N : yNW} {h : Nat} {H : Nat → yNW} {hd : Nat → Prop} {K : Nat → yNW} {len : Nat} {bt : Nat → Int32} {pl : Int32} {L : Nat} {xs : Nat → Int32} {m : xmm} (hC : yZC n N h H hd K len bt pl m) (hM : yZM n N h H hd K len bt pl m) (hS : yScr L xs m) (x : Int32) : ∃ r m1 m2, fX11_chain_0 x m = some (r, m1) ∧ yScr L xs m1 ∧ fX12_chain_144 x m1 = some (r, m2) ∧ yZe L xs m2 := yz_qu (F := fun m => fX11_chain_0 x m) (G := fun m => fX12_chain_144 x m) hC hM hS (s_cChain hC.1 x) fun m1 h1 _ => s_mChainQ hC.1.1 h1 x
theorem q_straight {n : Nat} {N : yNW} {h : Nat} {H : Nat → yNW} {hd : Nat → Prop} {K : Nat → yNW} {len : Nat} {bt : Nat → Int32} {pl : Int32} {L : Nat} {xs : Nat → Int32} {m : xmm} (hC : yZC n N h H hd K len bt pl m) (hM : yZM n N h H hd K len bt pl m) (hS : yScr L xs m) (x y : Int32) : ∃ r m1 m2, fX11_straight_0 x y m = some (r, m1) ∧ yScr L xs m1 ∧ fX12_straight_144 x y m1 = some (r, m2) ∧ yZe L xs m2 := yz_qu (F := fun m => fX11_straight_0 x y m) (G := fun m => fX12_straight_144 x y m) hC hM hS (s_cStr hC.1 x y) fun m1 h1 _ => s_mStr hC.1.1 h1 x y
theorem q_sign {n : Nat} {N : yNW} {h : Nat} {H : Nat → yNW} {hd : Nat → Prop} {K : Nat → yNW} {len : Nat} {bt : Nat → Int32} {pl : Int32} {L : Nat} {xs : Nat → Int32} {m : xmm} (hC : yZC n N h H hd K len bt pl m) (hM : yZM n N h H hd K len bt pl m) (hS : yScr L xs m) (x y : Int32) : ∃ r m1 m2, fX11_sign_0 x y m = some (r, m1) ∧ yScr L xs m1 ∧ fX12_sign_144 x y m1 = some (r, m2) ∧ yZe L xs m2 := yz_qu (F := fun m => fX11_sign_0 x y m) (G := fun m => fX12_sign_144 x y m) hC hM hS (s_cSign hC.1 x y) fun m1 h1 _ => s_mSign hC.1.1 h1 x y
theorem q_colours {n : Nat} {N : yNW} {h : Nat} {H : Nat → yNW} {hd : Nat → Prop} {K : Nat → yNW} {len : Nat} {bt : Nat → Int32} {pl : Int32} {L : Nat} {xs : Nat → Int32} {m : xmm} (hC : yZC n N h H hd K len bt pl m) (hM : yZM n N h H hd K len bt pl m) (hS : yScr L xs m) (x : Int32) : ∃ r m1 m2, fX11_colours_0 x m = some (r, m1) ∧ yScr L xs m1 ∧ fX12_colours_144 x m1 = some (r, m2) ∧ yZe L xs m2 := yz_qu (F := fun m => fX11_colours_0 x m) (G := fun m => fX12_colours_144 x m) hC hM hS (s_cColQ hC.1 x) fun m1 h1 _ => s_mColQ hC.1.1 h1 x
theorem q_set {n : Nat} {N : yNW} {h : Nat} {H : Nat → yNW} {hd : Nat → Prop} {K : Nat → yNW} {len : Nat} {bt : Nat → Int32} {pl : Int32} {L : Nat} {xs : Nat → Int32} {m : xmm} (hC : yZC n N h H hd K len bt pl m) (hM : yZM n N h H hd K len bt pl m) (hS : yScr L xs m) (x y : Int32) : ∃ r m1 m2, fX11_set_0 x y m = some (r, m1) ∧ yScr L xs m1 ∧ fX12_set_144 x y m1 = some (r, m2) ∧ yZe L xs m2 := yz_qu (F := fun m => fX11_set_0 x y m) (G := fun m => fX12_set_144 x y m) hC hM hS (s_cSet hC.1 x y) fun m1 h1 _ => s_mSet hC.1.1 h1 x y
theorem q_like {n : Nat} {N : yNW} {h : Nat} {H : Nat → yNW} {hd : Nat → Prop} {K : Nat → yNW} {len : Nat} {bt : Nat → Int32} {pl : Int32} {L : Nat} {xs : Nat → Int32} {m : xmm} (hC : yZC n N h H hd K len bt pl m) (hM : yZM n N h H hd K len bt pl m) (hS : yScr L xs m) (x : Int32) : ∃ r m1 m2, fX11_like_0 x m = some (r, m1) ∧ yScr L xs m1 ∧ fX12_like_144 x m1 = some (r, m2) ∧ yZe L xs m2 := yz_qu (F := fun m => fX11_like_0 x m) (G := fun m => fX12_like_144 x m) hC hM hS (s_cLikeQ hC.1 x) fun m1 h1 _ => s_mLikeQ hC.1.1 h1 (fun i hi t => (hC.1.2.2.2.1.2 i hi t).2) x
theorem q_count {n : Nat} {N : yNW} {h : Nat} {H : Nat → yNW} {hd : Nat → Prop} {K : Nat → yNW} {len : Nat} {bt : Nat → Int32} {pl : Int32} {L : Nat} {xs : Nat → Int32} {m : xmm} (hC : yZC n N h H hd K len bt pl m) (hM : yZM n N h H hd K len bt pl m) (hS : yScr L xs m) (x : Int32) : ∃ r m1 m2, fX11_count_0 x m = some (r, m1) ∧ yScr L xs m1 ∧ fX12_count_144 x m1 = some (r, m2) ∧ yZe L xs m2 := yz_qu (F := fun m => fX11_count_0 x m) (G := fun m => fX12_count_144 x m) hC hM hS (s_cCnt hC.1 hC.2.1.1 x) fun m1 h1 t1 => s_mCnt hC.1.1 h1 t1.1 x
theorem q_line {n : Nat} {N : yNW} {h : Nat} {H : Nat → yNW} {hd : Nat → Prop} {K : Nat → yNW} {len : Nat} {bt : Nat → Int32} {pl : Int32} {L : Nat} {xs : Nat → Int32} {m : xmm} (hC : yZC n N h H hd K len bt pl m) (hM : yZM n N h H hd K len bt pl m) (hS : yScr L xs m) (x y : Int32) : ∃ r m1 m2, fX11_line_0 x y m = some (r, m1) ∧ yScr L xs m1 ∧ fX12_line_144 x y m1 = some (r, m2) ∧ yZe L xs m2 := by
  by_cases hp : yPr2 n x y
  · obtain ⟨a, b, ha, hb, hab, ex, ey⟩ := hp
    exact yz_ch (F := fun m => fX11_line_0 x y m) (G := fun m => fX12_line_144 x y m) hC hM hS (by
      obtain ⟨m1, a1, a2, _, a4⟩ := s_cLine hC.1 x y
      exact ⟨m1, a1, a2 a b ha hb hab ex ey, a4⟩) fun m1 h1 => by
      obtain ⟨m2, b1, b2, _, b4⟩ := s_mLine hC.1.1 h1 x y
      exact ⟨m2, b1, b2 a b ha hb hab ex ey, b4⟩
  · exact yz_ch (F := fun m => fX11_line_0 x y m) (G := fun m => fX12_line_144 x y m) hC hM hS (by
      obtain ⟨m1, a1, _, a3, a4⟩ := s_cLine hC.1 x y
      exact ⟨m1, a1, by rw [a3 hp]; exact hC.1, a4⟩) fun m1 h1 => by
      obtain ⟨m2, b1, _, b3, b4⟩ := s_mLine hC.1.1 h1 x y
      exact ⟨m2, b1, by rw [b3 hp]; exact h1, b4⟩
theorem q_exchange {n : Nat} {N : yNW} {h : Nat} {H : Nat → yNW} {hd : Nat → Prop} {K : Nat → yNW} {len : Nat} {bt : Nat → Int32} {pl : Int32} {L : Nat} {xs : Nat → Int32} {m : xmm} (hC : yZC n N h H hd K len bt pl m) (hM : yZM n N h H hd K len bt pl m) (hS : yScr L xs m) (x y : Int32) : ∃ r m1 m2, fX11_exchange_0 x y m = some (r, m1) ∧ yScr L xs m1 ∧ fX12_exchange_144 x y m1 = some (r, m2) ∧ yZe L xs m2 := by
  by_cases hp : yPr2 n x y
  · obtain ⟨a, b, ha, hb, hab, ex, ey⟩ := hp
    exact yz_ch (F := fun m => fX11_exchange_0 x y m) (G := fun m => fX12_exchange_144 x y m) hC hM hS (by
      obtain ⟨m1, a1, a2, _, a4⟩ := s_cExchange hC.1 x y
      exact ⟨m1, a1, a2 a b ha hb hab ex ey, a4⟩) fun m1 h1 => by
      obtain ⟨m2, b1, b2, _, b4⟩ := s_mExchange hC.1.1 h1 x y
      exact ⟨m2, b1, b2 a b ha hb hab ex ey, b4⟩
  · exact yz_ch (F := fun m => fX11_exchange_0 x y m) (G := fun m => fX12_exchange_144 x y m) hC hM hS (by
      obtain ⟨m1, a1, _, a3, a4⟩ := s_cExchange hC.1 x y
      exact ⟨m1, a1, by rw [a3 hp]; exact hC.1, a4⟩) fun m1 h1 => by
      obtain ⟨m2, b1, _, b3, b4⟩ := s_mExchange hC.1.1 h1 x y
      exact ⟨m2, b1, by rw [b3 hp]; exact h1, b4⟩
theorem q_other {n : Nat} {N : yNW} {h : Nat} {H : Nat → yNW} {hd : Nat → Prop} {K : Nat → yNW} {len : Nat} {bt : Nat → Int32} {pl : Int32} {L : Nat} {xs : Nat → Int32} {m : xmm} (hC : yZC n N h H hd K len bt pl m) (hM : yZM n N h H hd K len bt pl m) (hS : yScr L xs m) : ∃ r m1 m2, fX11_other_0 m = some (r, m1) ∧ yScr L xs m1 ∧ fX12_other_144 m1 = some (r, m2) ∧ yZe L xs m2 := yz_ch (F := fun m => fX11_other_0 m) (G := fun m => fX12_other_144 m) hC hM hS (s_cOther hC.1) fun m1 h1 => s_mOther hC.1.1 h1
theorem q_begin {n : Nat} {N : yNW} {h : Nat} {H : Nat → yNW} {hd : Nat → Prop} {K : Nat → yNW} {len : Nat} {bt : Nat → Int32} {pl : Int32} {L : Nat} {xs : Nat → Int32} {m : xmm} (hC : yZC n N h H hd K len bt pl m) (hM : yZM n N h H hd K len bt pl m) (hS : yScr L xs m) : ∃ r m1 m2, fX11_begin_0 m = some (r, m1) ∧ yScr L xs m1 ∧ fX12_begin_144 m1 = some (r, m2) ∧ yZe L xs m2 := yz_ch (F := fun m => fX11_begin_0 m) (G := fun m => fX12_begin_144 m) hC hM hS (s_cBegin hC.1) fun m1 h1 => s_mBegin hC.1.1 h1
theorem q_bare {n : Nat} {N : yNW} {h : Nat} {H : Nat → yNW} {hd : Nat → Prop} {K : Nat → yNW} {len : Nat} {bt : Nat → Int32} {pl : Int32} {L : Nat} {xs : Nat → Int32} {m : xmm} (hC : yZC n N h H hd K len bt pl m) (hM : yZM n N h H hd K len bt pl m) (hS : yScr L xs m) (x : Int32) : ∃ r m1 m2, fX11_bare_0 x m = some (r, m1) ∧ yScr L xs m1 ∧ fX12_bare_144 x m1 = some (r, m2) ∧ yZe L xs m2 := by
  by_cases hp : ∃ a, a < n ∧ x = nI a ∧ N.1 a ≠ 0
  · obtain ⟨a, ha, ex, h0⟩ := hp
    exact yz_ch (F := fun m => fX11_bare_0 x m) (G := fun m => fX12_bare_144 x m) hC hM hS (by
      obtain ⟨m1, a1, a2, _, a4⟩ := s_cBare hC.1 x
      exact ⟨m1, a1, a2 a ha ex h0, a4⟩) fun m1 h1 => by
      obtain ⟨m2, b1, b2, _, b4⟩ := s_mBare hC.1.1 h1 x
      exact ⟨m2, b1, b2 a ha ex h0, b4⟩
  · exact yz_ch (F := fun m => fX11_bare_0 x m) (G := fun m => fX12_bare_144 x m) hC hM hS (by
      obtain ⟨m1, a1, _, a3, a4⟩ := s_cBare hC.1 x
      exact ⟨m1, a1, by rw [a3 hp]; exact hC.1, a4⟩) fun m1 h1 => by
      obtain ⟨m2, b1, _, b3, b4⟩ := s_mBare hC.1.1 h1 x
      exact ⟨m2, b1, by rw [b3 hp]; exact h1, b4⟩
theorem q_undo {n : Nat} {N : yNW} {h : Nat} {H : Nat → yNW} {hd : Nat → Prop} {K : Nat → yNW} {len : Nat} {bt : Nat → Int32} {pl : Int32} {L : Nat} {xs : Nat → Int32} {m : xmm} (hC : yZC n N h H hd K len bt pl m) (hM : yZM n N h H hd K len bt pl m) (hS : yScr L xs m) : ∃ r m1 m2, fX11_undo_0 m = some (r, m1) ∧ yScr L xs m1 ∧ fX12_undo_144 m1 = some (r, m2) ∧ yZe L xs m2 := by
  by_cases hp : h = 0
  · exact yz_ch (F := fun m => fX11_undo_0 m) (G := fun m => fX12_undo_144 m) hC hM hS (by
      obtain ⟨m1, a1, a2, _, a4⟩ := s_cUndo hC.1
      exact ⟨m1, a1, a2 hp, a4⟩) fun m1 h1 => by
      obtain ⟨m2, b1, b2, _, b4⟩ := s_mUndo h1
      exact ⟨m2, b1, by rw [b2 hp]; exact h1, b4⟩
  · exact yz_ch (F := fun m => fX11_undo_0 m) (G := fun m => fX12_undo_144 m) hC hM hS (by
      obtain ⟨m1, a1, _, a3, a4⟩ := s_cUndo hC.1
      exact ⟨m1, a1, a3 hp, a4⟩) fun m1 h1 => by
      obtain ⟨m2, b1, _, b3, b4⟩ := s_mUndo h1
      exact ⟨m2, b1, b3 hp, b4⟩
theorem q_hold {n : Nat} {N : yNW} {h : Nat} {H : Nat → yNW} {hd : Nat → Prop} {K : Nat → yNW} {len : Nat} {bt : Nat → Int32} {pl : Int32} {L : Nat} {xs : Nat → Int32} {m : xmm} (hC : yZC n N h H hd K len bt pl m) (hM : yZM n N h H hd K len bt pl m) (hS : yScr L xs m) (x : Int32) : ∃ r m1 m2, fX11_hold_0 x m = some (r, m1) ∧ yScr L xs m1 ∧ fX12_hold_144 x m1 = some (r, m2) ∧ yZe L xs m2 := by
  by_cases hp : ySl x
  · obtain ⟨i, hi, ex⟩ := hp
    exact yz_ch (F := fun m => fX11_hold_0 x m) (G := fun m => fX12_hold_144 x m) hC hM hS (by
      obtain ⟨m1, a1, a2, _, a4⟩ := s_cHold hC.1 x
      exact ⟨m1, a1, a2 i hi ex, a4⟩) fun m1 h1 => by
      obtain ⟨m2, b1, b2, _, b4⟩ := s_mHold h1 x
      exact ⟨m2, b1, b2 i hi ex, b4⟩
  · exact yz_ch (F := fun m => fX11_hold_0 x m) (G := fun m => fX12_hold_144 x m) hC hM hS (by
      obtain ⟨m1, a1, _, a3, a4⟩ := s_cHold hC.1 x
      exact ⟨m1, a1, by rw [a3 hp]; exact hC.1, a4⟩) fun m1 h1 => by
      obtain ⟨m2, b1, _, b3, b4⟩ := s_mHold h1 x
      exact ⟨m2, b1, by rw [b3 hp]; exact h1, b4⟩
theorem q_restore {n : Nat} {N : yNW} {h : Nat} {H : Nat → yNW} {hd : Nat → Prop} {K : Nat → yNW} {len : Nat} {bt : Nat → Int32} {pl : Int32} {L : Nat} {xs : Nat → Int32} {m : xmm} (hC : yZC n N h H hd K len bt pl m) (hM : yZM n N h H hd K len bt pl m) (hS : yScr L xs m) (x : Int32) : ∃ r m1 m2, fX11_restore_0 x m = some (r, m1) ∧ yScr L xs m1 ∧ fX12_restore_144 x m1 = some (r, m2) ∧ yZe L xs m2 := by
  by_cases hp : yIsH hd x
  · obtain ⟨i, hi, ex, hh⟩ := hp
    exact yz_ch (F := fun m => fX11_restore_0 x m) (G := fun m => fX12_restore_144 x m) hC hM hS (by
      obtain ⟨m1, a1, a2, _, a4⟩ := s_cRestore hC.1 x
      exact ⟨m1, a1, a2 i hi ex hh, a4⟩) fun m1 h1 => by
      obtain ⟨m2, b1, b2, _, b4⟩ := s_mRestore h1 x
      exact ⟨m2, b1, b2 i hi ex hh, b4⟩
  · exact yz_ch (F := fun m => fX11_restore_0 x m) (G := fun m => fX12_restore_144 x m) hC hM hS (by
      obtain ⟨m1, a1, _, a3, a4⟩ := s_cRestore hC.1 x
      exact ⟨m1, a1, by rw [a3 hp]; exact hC.1, a4⟩) fun m1 h1 => by
      obtain ⟨m2, b1, _, b3, b4⟩ := s_mRestore h1 x
      exact ⟨m2, b1, by rw [b3 hp]; exact h1, b4⟩
theorem q_place {n : Nat} {N : yNW} {h : Nat} {H : Nat → yNW} {hd : Nat → Prop} {K : Nat → yNW} {len : Nat} {bt : Nat → Int32} {pl : Int32} {L : Nat} {xs : Nat → Int32} {m : xmm} (hC : yZC n N h H hd K len bt pl m) (hM : yZM n N h H hd K len bt pl m) (hS : yScr L xs m) : ∃ r m1 m2, fX11_place_0 m = some (r, m1) ∧ yScr L xs m1 ∧ fX12_place_144 m1 = some (r, m2) ∧ yZe L xs m2 := by
  refine yz_go (r := pl) (F := fun m => fX11_place_0 m) (G := fun m => fX12_place_144 m) hM hS ⟨m, ?_, hC, yLo_r m⟩ fun m1 h1 => ⟨m1, ?_, h1, yHi_r m1⟩
  · apply fX11_place_0_i
    rw [hC.2.2]
  · apply fX12_place_144_i
    rw [h1.2.2.1]
theorem yZC_t {n : Nat} {N : yNW} {h : Nat} {H : Nat → yNW} {hd : Nat → Prop} {K : Nat → yNW} {len : Nat} {bt : Nat → Int32} {pl : Int32} {m m' : xmm} (hC : yZC n N h H hd K len bt pl m) {L J : List Nat} (hf : yfr L m m') (hL : ∀ k, k ∈ L → 1 ≤ k ∧ k ≤ 9) {len' : Nat} {bt' : Nat → Int32} (hT : yTC len' bt' m') {pl' : Int32} (h3 : m'.1 1 3 = pl') : yZC n N h H hd K len' bt' pl' m' ∧ yLo m m' := ⟨⟨yCI_x hC.1 hf fun k hk => Or.inl (hL k hk), hT, h3⟩, yLo_of hf fun k hk => by have := hL k hk; omega⟩
theorem q_feed {n : Nat} {N : yNW} {h : Nat} {H : Nat → yNW} {hd : Nat → Prop} {K : Nat → yNW} {len : Nat} {bt : Nat → Int32} {pl : Int32} {L : Nat} {xs : Nat → Int32} {m : xmm} (hC : yZC n N h H hd K len bt pl m) (hM : yZM n N h H hd K len bt pl m) (hS : yScr L xs m) (x y z w v : Int32) : ∃ r m1 m2, fX11_feed_0 x y z w v m = some (r, m1) ∧ yScr L xs m1 ∧ fX12_feed_144 x y z w v m1 = some (r, m2) ∧ yZe L xs m2 := by
  by_cases hr : len + 20 ≤ 2000
  · exact yz_go (F := fun m => fX11_feed_0 x y z w v m) (G := fun m => fX12_feed_144 x y z w v m) hM hS (by
      obtain ⟨m1, a1, a2, a3⟩ := (s_cFeed hC.2.1 x y z w v).1 hr
      have t := yZC_t (J := []) hC a3.1 (by decide) a2 ((a3.2 3 (by decide)).trans hC.2.2)
      exact ⟨m1, a1, t.1, t.2⟩) fun m1 h1 => by
      obtain ⟨m2, b1, b2, b3⟩ := (s_mFeed h1.2.1 x y z w v).1 hr
      have f : yfm [145] [2] m1 m2 := ⟨b3.1, fun j hj => b3.2 j fun e => hj (by rw [e]; decide)⟩
      exact ⟨m2, b1, ⟨yMM_g h1.1 f (by decide) (by decide) (by decide) (by decide) (by decide) (by decide) (by decide), b2, (b3.2 16 (by decide)).trans h1.2.2.1, fun k hk => by rw [yfr_2 b3.1 151 k (by decide)]; exact h1.2.2.2 k hk⟩, yHi_of b3.1 (by decide)⟩
  · exact yz_go (F := fun m => fX11_feed_0 x y z w v m) (G := fun m => fX12_feed_144 x y z w v m) hM hS ⟨m, (s_cFeed hC.2.1 x y z w v).2 hr, hC, yLo_r m⟩ fun m1 h1 => ⟨m1, (s_mFeed h1.2.1 x y z w v).2 hr, h1, yHi_r m1⟩
theorem q_back {n : Nat} {N : yNW} {h : Nat} {H : Nat → yNW} {hd : Nat → Prop} {K : Nat → yNW} {len : Nat} {bt : Nat → Int32} {pl : Int32} {L : Nat} {xs : Nat → Int32} {m : xmm} (hC : yZC n N h H hd K len bt pl m) (hM : yZM n N h H hd K len bt pl m) (hS : yScr L xs m) (x : Int32) : ∃ r m1 m2, fX11_back_0 x m = some (r, m1) ∧ yScr L xs m1 ∧ fX12_back_144 x m1 = some (r, m2) ∧ yZe L xs m2 := by
  have l2 := hC.2.1.2.1
  by_cases h0 : x < 0
  · refine yz_go (r := -1) (F := fun m => fX11_back_0 _ m) (G := fun m => fX12_back_144 _ m) hM hS ⟨m, ?_, hC, yLo_r m⟩ fun m1 h1 => ⟨m1, ?_, h1, yHi_r m1⟩
    · apply fX11_back_0_i
      rw [if_pos h0]
    · apply fX12_back_144_i
      rw [if_pos h0]
  obtain ⟨p, p1, rfl⟩ := nI_of h0
  by_cases hp : p ≤ len
  · have le : nI p ≤ nI len := nI_le hp (by omega)
    refine yz_go (r := nI (len - p)) (n' := n) (N' := N) (h' := h) (H' := H) (hd' := hd) (K' := K) (pl' := pl) (len' := len - p) (bt' := bt) (F := fun m => fX11_back_0 _ m) (G := fun m => fX12_back_144 _ m) hM hS ⟨xwi m 1 1 (nI (len - p)), ?_, ?_⟩ fun m1 h1 => ⟨xwi m1 144 2 (nI (len - p)), ?_, ?_, ?_⟩
    · apply fX11_back_0_i
      rw [if_neg h0, hC.2.1.1, if_pos le, pk_sub hp, xlt_e, xwi_e]
    · have f : yfr [1] m (xwi m 1 1 (nI (len - p))) := yfr_w yfr_r (by decide)
      exact yZC_t (J := []) hC f (by decide) ⟨xwi_e _ _ _ _, by omega, fun i hi => by rw [xwi_k (by decide)]; exact hC.2.1.2.2 i (by omega)⟩ (by rw [xwi_i (by decide)]; exact hC.2.2)
    · apply fX12_back_144_i
      rw [if_neg h0, h1.2.1.1, if_pos le, pk_sub hp, xlt_e, xwi_e]
    · have f : yfm [] [2] m1 (xwi m1 144 2 (nI (len - p))) := yfm_f yfm_r (by decide)
      exact ⟨yMM_g h1.1 f (by decide) (by decide) (by decide) (by decide) (by decide) (by decide) (by decide), ⟨xwi_e _ _ _ _, by omega, fun i hi => by rw [xwi_k (by decide)]; exact h1.2.1.2.2 i (by omega)⟩, by rw [xwi_i (by decide)]; exact h1.2.2.1, fun k hk => h1.2.2.2 k hk⟩
    · exact yHi_of (L := [144]) (yfr_w yfr_r (by decide)) (by decide)
  · have le : ¬ nI p ≤ nI len := by rw [nI_leI p1 (by omega)]; exact hp
    refine yz_go (r := -1) (F := fun m => fX11_back_0 _ m) (G := fun m => fX12_back_144 _ m) hM hS ⟨m, ?_, hC, yLo_r m⟩ fun m1 h1 => ⟨m1, ?_, h1, yHi_r m1⟩
    · apply fX11_back_0_i
      rw [if_neg h0, hC.2.1.1, if_neg le]
    · apply fX12_back_144_i
      rw [if_neg h0, h1.2.1.1, if_neg le]
theorem q_read {n : Nat} {N : yNW} {h : Nat} {H : Nat → yNW} {hd : Nat → Prop} {K : Nat → yNW} {len : Nat} {bt : Nat → Int32} {pl : Int32} {L : Nat} {xs : Nat → Int32} {m : xmm} (hC : yZC n N h H hd K len bt pl m) (hM : yZM n N h H hd K len bt pl m) (hS : yScr L xs m) : ∃ r m1 m2, fX11_read_0 m = some (r, m1) ∧ yScr L xs m1 ∧ fX12_read_144 m1 = some (r, m2) ∧ yZe L xs m2 := by
  by_cases hr : yaRd bt len = 0
  · exact yz_go (F := fun m => fX11_read_0 m) (G := fun m => fX12_read_144 m) hM hS (by
      obtain ⟨m1, a1, a2, _, a4, a5, a6⟩ := s_cRead hC.1 hC.2.1
      exact ⟨m1, a1, ⟨a2 hr, a4, a5⟩, a6⟩) fun m1 h1 => by
      obtain ⟨m2, b1, b2, _, b4, b5, b6, b7⟩ := s_mRead h1.1 h1.2.2.2 h1.2.1
      exact ⟨m2, b1, ⟨b2 hr, b4, b5, b6⟩, b7⟩
  · exact yz_go (F := fun m => fX11_read_0 m) (G := fun m => fX12_read_144 m) hM hS (by
      obtain ⟨m1, a1, _, a3, a4, a5, a6⟩ := s_cRead hC.1 hC.2.1
      exact ⟨m1, a1, ⟨a3 hr, a4, a5⟩, a6⟩) fun m1 h1 => by
      obtain ⟨m2, b1, _, b3, b4, b5, b6, b7⟩ := s_mRead h1.1 h1.2.2.2 h1.2.1
      exact ⟨m2, b1, ⟨b3 hr, b4, b5, b6⟩, b7⟩
