/-! what the law tells is right -/
def wtf (kd nm vl : Nat → Nat) (k : Nat) (c : Nat × Nat) : Prop := kd k = c.1 ∧ (c.1 = 1 → nm k = 29281 + c.2) ∧ (c.1 = 2 → vl k = c.2)
def wok (kd nm vl : Nat → Nat) (n j : Nat) : Prop := kd j ≠ 9 ∧ yss kd (j + 1) ≠ 8 ∧ yzpp kd (j + 1) ≤ 8 ∧ yzft kd nm vl n j = 0
theorem wgm {α β : Type} (f : α → β) (d : β) (d0 : α) : ∀ (l : List α) (t : Nat), t < l.length → (l.map f).getD t d = f (l.getD t d0) ∧ l.getD t d0 ∈ l
  | a :: l, 0, _ => ⟨rfl, List.mem_cons_self⟩
  | a :: l, t + 1, h => by
    obtain ⟨h1, h2⟩ := wgm f d d0 l t (by have h : t + 1 < l.length + 1 := h; omega)
    exact ⟨h1, List.mem_cons_of_mem _ h2⟩
theorem wndi : ∀ (l : List Nat) (t u : Nat), l.Nodup → t < l.length → u < l.length → l.getD t 0 = l.getD u 0 → t = u
  | a :: l, 0, 0, _, _, _, _ => rfl
  | a :: l, 0, u + 1, h, _, h3, e => by
    have h3 : u + 1 < l.length + 1 := h3
    have e : a = l.getD u 0 := e
    have := (wgm (fun x => x) 0 0 l u (by omega)).2
    rw [← e] at this
    exact absurd this (List.nodup_cons.mp h).1
  | a :: l, t + 1, 0, h, h2, _, e => by
    have h2 : t + 1 < l.length + 1 := h2
    have e : l.getD t 0 = a := e
    have := (wgm (fun x => x) 0 0 l t (by omega)).2
    rw [e] at this
    exact absurd this (List.nodup_cons.mp h).1
  | a :: l, t + 1, u + 1, h, h2, h3, e => by
    have h2 : t + 1 < l.length + 1 := h2
    have h3 : u + 1 < l.length + 1 := h3
    have := wndi l t u (List.nodup_cons.mp h).2 (by omega) (by omega) e
    omega
section
variable {kd nm vl : Nat → Nat} {n : Nat}
theorem wpa_lt {q x : Nat} (hq : q < n) (h : nm (q + 1) = x) : ypa nm n x < n := by
  obtain ⟨a, b, c, d⟩ := yzn_f (Q := fun p => nm (p + 1) ≠ x) n 0
  have e : ypa nm n x = yzn (fun p => nm (p + 1) ≠ x) n 0 := rfl
  rw [e]
  refine Nat.lt_of_not_le fun t => c q (Nat.zero_le q) (by omega) h
theorem wss1 {i s k : Nat} (hs : yss kd i = s) (hk : kd i = k) : yss kd (i + 1) = yfl s k := by
  show yfl (yss kd i) (kd i) = _
  rw [hs, hk]
theorem wpp1 {i s k : Nat} (hs : yss kd i = s) (hk : kd i = k) (h : yfl s k ≠ 1) : yzpp kd (i + 1) = yzpp kd i := by
  show yzfp (yss kd i) (yzpp kd i) (kd i) = _
  rw [hs, hk]
  exact if_neg h
theorem w_seg {i L : Nat} (hs : yss kd i = 2) (hp : yzpp kd i ≤ 8) (h0 : kd i = 5 ∨ kd i = 6) (hL : 2 ≤ L) (h1 : ∀ t, t < L → kd (i + 1 + t) = 1 ∧ ∃ q, q < n ∧ nm (i + 1 + t) = 29281 + q) (h3 : kd (i + 1 + L) = 3) (hnm : ∀ q, q < n → nm (q + 1) = 29281 + q) : yss kd (i + (L + 2)) = 2 ∧ yzpp kd (i + (L + 2)) ≤ 8 ∧ ∀ j, i ≤ j → j < i + (L + 2) → wok kd nm vl n j := by
  have s1 : yss kd (i + 1) = 3 := by
    rcases h0 with h | h
    · exact wss1 hs h
    · exact wss1 hs h
  have p1 : yzpp kd (i + 1) = yzpp kd i := by
    rcases h0 with h | h
    · exact wpp1 hs h (by decide)
    · exact wpp1 hs h (by decide)
  have st : ∀ t, t ≤ L → yss kd (i + 1 + t) = (if t = 0 then 3 else if t = 1 then 4 else 5) ∧ yzpp kd (i + 1 + t) = yzpp kd i := by
    intro t
    induction t with
    | zero => intro _; exact ⟨s1, p1⟩
    | succ t ih =>
      intro ht
      obtain ⟨a, b⟩ := ih (by omega)
      have k1 := (h1 t (by omega)).1
      by_cases t0 : t = 0
      · subst t0
        exact ⟨wss1 a k1, (wpp1 a k1 (by decide)).trans b⟩
      · by_cases t1 : t = 1
        · subst t1
          exact ⟨wss1 a k1, (wpp1 a k1 (by decide)).trans b⟩
        · rw [if_neg t0, if_neg t1] at a
          rw [if_neg (by omega), if_neg (by omega)]
          exact ⟨wss1 a k1, (wpp1 a k1 (by decide)).trans b⟩
  have hd : ∀ t, t ≤ L → yhd kd (i + 1 + t) = i := fun t ht => yhd_at (by omega) (i + 1 + t) (by omega) fun j a b => by
    have := (h1 (j - (i + 1)) (by omega)).1
    rw [show i + 1 + (j - (i + 1)) = j by omega] at this
    omega
  obtain ⟨sL, pL⟩ := st L (Nat.le_refl L)
  rw [if_neg (by omega), if_neg (by omega)] at sL
  have sE := wss1 sL h3
  have pE := (wpp1 sL h3 (by decide)).trans pL
  have eE : i + 1 + L + 1 = i + (L + 2) := by omega
  rw [eE] at sE pE
  refine ⟨sE, by omega, fun j a b => ?_⟩
  by_cases j0 : j = i
  · subst j0
    refine ⟨by omega, by rw [s1]; decide, by omega, ?_⟩
    unfold yzft
    rw [if_neg (by omega), if_neg (by omega), if_neg (by omega)]
  · by_cases jL : j = i + 1 + L
    · subst jL
      refine ⟨by omega, by rw [eE, sE]; decide, by rw [eE]; omega, ?_⟩
      unfold yzft
      rw [if_neg (by omega), if_neg (by omega), if_pos h3, hd L (Nat.le_refl L), if_neg (by omega)]
    · obtain ⟨t, et⟩ : ∃ t, j = i + 1 + t := ⟨j - (i + 1), by omega⟩
      subst et
      obtain ⟨k1, q, hq, hx⟩ := h1 t (by omega)
      obtain ⟨a2, b2⟩ := st (t + 1) (by omega)
      refine ⟨by omega, ?_, by rw [show i + 1 + t + 1 = i + 1 + (t + 1) by omega, b2]; exact hp, ?_⟩
      · rw [show i + 1 + t + 1 = i + 1 + (t + 1) by omega, a2]
        split <;> (try split) <;> decide
      · unfold yzft
        rw [if_pos k1, hd t (by omega), if_neg (by omega), yif_t (wpa_lt hq (by rw [hx]; exact hnm q hq))]
theorem w_cross {i : Nat} {f : Nat → Nat} (hn0 : 0 < n) (hs : yss kd i = 2) (hp : yzpp kd i ≤ 8) (h0 : kd i = 7) (h1 : ∀ t, t < n → kd (i + 1 + t) = 2 ∧ vl (i + 1 + t) = f t ∧ f t < n) (hi : ∀ t u, t < n → u < n → f t = f u → t = u) (h3 : kd (i + 1 + n) = 3) : yss kd (i + (n + 2)) = 2 ∧ yzpp kd (i + (n + 2)) ≤ 8 ∧ ∀ j, i ≤ j → j < i + (n + 2) → wok kd nm vl n j := by
  have s1 : yss kd (i + 1) = 6 := wss1 hs h0
  have p1 : yzpp kd (i + 1) = yzpp kd i := wpp1 hs h0 (by decide)
  have st : ∀ t, t ≤ n → yss kd (i + 1 + t) = (if t = 0 then 6 else 7) ∧ yzpp kd (i + 1 + t) = yzpp kd i := by
    intro t
    induction t with
    | zero => intro _; exact ⟨s1, p1⟩
    | succ t ih =>
      intro ht
      obtain ⟨a, b⟩ := ih (by omega)
      have k1 := (h1 t (by omega)).1
      by_cases t0 : t = 0
      · subst t0
        exact ⟨wss1 a k1, (wpp1 a k1 (by decide)).trans b⟩
      · rw [if_neg t0] at a
        rw [if_neg (by omega)]
        exact ⟨wss1 a k1, (wpp1 a k1 (by decide)).trans b⟩
  have hd : ∀ t, t ≤ n → yhd kd (i + 1 + t) = i := fun t ht => yhd_at (by omega) (i + 1 + t) (by omega) fun j a b => by
    have := (h1 (j - (i + 1)) (by omega)).1
    rw [show i + 1 + (j - (i + 1)) = j by omega] at this
    omega
  obtain ⟨sL, pL⟩ := st n (Nat.le_refl n)
  rw [if_neg (by omega)] at sL
  have sE := wss1 sL h3
  have pE := (wpp1 sL h3 (by decide)).trans pL
  have eE : i + 1 + n + 1 = i + (n + 2) := by omega
  rw [eE] at sE pE
  refine ⟨sE, by omega, fun j a b => ?_⟩
  by_cases j0 : j = i
  · subst j0
    refine ⟨by omega, by rw [s1]; decide, by omega, ?_⟩
    unfold yzft
    rw [if_neg (by omega), if_neg (by omega), if_neg (by omega)]
  · by_cases jL : j = i + 1 + n
    · subst jL
      refine ⟨by omega, by rw [eE, sE]; decide, by rw [eE]; omega, ?_⟩
      unfold yzft
      rw [if_neg (by omega), if_neg (by omega), if_pos h3, hd n (Nat.le_refl n), if_pos h0, yif_f (by omega)]
    · obtain ⟨t, et⟩ : ∃ t, j = i + 1 + t := ⟨j - (i + 1), by omega⟩
      subst et
      obtain ⟨k1, hx, hlt⟩ := h1 t (by omega)
      obtain ⟨a2, b2⟩ := st (t + 1) (by omega)
      refine ⟨by omega, ?_, by rw [show i + 1 + t + 1 = i + 1 + (t + 1) by omega, b2]; exact hp, ?_⟩
      · rw [show i + 1 + t + 1 = i + 1 + (t + 1) by omega, a2]
        split <;> decide
      · unfold yzft
        rw [if_neg (by omega), if_pos k1, yif_f (by omega), yif_f ?_]
        rintro ⟨o, o1, o2, o3⟩
        rw [hd t (by omega)] at o1
        obtain ⟨u, eu⟩ : ∃ u, o = i + 1 + u := ⟨o - (i + 1), by omega⟩
        subst eu
        rw [(h1 u (by omega)).2.1, hx] at o3
        have := hi u t (by omega) (by omega) o3
        omega
theorem wsg_l (s : Nat × List Nat) : (wsg s).length = s.2.length + 2 := by
  unfold wsg
  rw [List.length_cons, List.length_append, List.length_map]
  rfl
theorem w_segs (hnm : ∀ q, q < n → nm (q + 1) = 29281 + q) : ∀ (ss : List (Nat × List Nat)) (i : Nat), (∀ s, s ∈ ss → wsok n s) → yss kd i = 2 → yzpp kd i ≤ 8 → (∀ j, j < (wss ss).length → wtf kd nm vl (i + j) ((wss ss).getD j (9, 0))) → yss kd (i + (wss ss).length) = 2 ∧ yzpp kd (i + (wss ss).length) ≤ 8 ∧ ∀ j, i ≤ j → j < i + (wss ss).length → wok kd nm vl n j
  | [], i, _, hs, hp, _ => ⟨hs, hp, fun j a b => by have b : j < i + 0 := b; omega⟩
  | s :: ss, i, hok, hs, hp, hf => by
    obtain ⟨o1, o2, o3, o4⟩ := hok s List.mem_cons_self
    have el : (wss (s :: ss)).length = (s.2.length + 2) + (wss ss).length := by
      show (wsg s ++ wss ss).length = _
      rw [List.length_append, wsg_l]
    have g1 : ∀ j, j < s.2.length + 2 → wtf kd nm vl (i + j) ((wsg s).getD j (9, 0)) := fun j hj => by
      have := hf j (by omega)
      rw [show wss (s :: ss) = wsg s ++ wss ss from rfl, wgD1 (by rw [wsg_l]; exact hj)] at this
      exact this
    obtain ⟨a1, a2, a3⟩ := w_seg (kd := kd) (nm := nm) (vl := vl) (n := n) (i := i) (L := s.2.length) hs hp (by
      have := (g1 0 (by omega)).1
      have e : kd i = s.1 := this
      rw [e]
      exact o1) o2 (fun t ht => by
      have := g1 (t + 1) (by omega)
      rw [show i + (t + 1) = i + 1 + t by omega] at this
      have e : (wsg s).getD (t + 1) (9, 0) = (s.2.map (fun q => (1, q))).getD t (9, 0) := by
        show (s.2.map (fun q => (1, q)) ++ [(3, 0)]).getD t (9, 0) = _
        exact wgD1 (by rw [List.length_map]; exact ht)
      obtain ⟨e1, e2⟩ := wgm (fun q : Nat => (1, q)) (9, 0) 0 s.2 t ht
      rw [e, e1] at this
      exact ⟨this.1, s.2.getD t 0, o4 _ e2, this.2.1 rfl⟩) (by
      have := (g1 (s.2.length + 1) (by omega)).1
      rw [show i + (s.2.length + 1) = i + 1 + s.2.length by omega] at this
      have e : (wsg s).getD (s.2.length + 1) (9, 0) = (3, 0) := by
        show (s.2.map (fun q => (1, q)) ++ [(3, 0)]).getD s.2.length (9, 0) = _
        have := wgD2 (l := s.2.map (fun q => (1, q))) (w := [(3, 0)]) (d := (9, 0)) (i := 0)
        rw [List.length_map, Nat.add_zero] at this
        exact this
      rw [e] at this
      exact this) hnm
    obtain ⟨b1, b2, b3⟩ := w_segs hnm ss (i + (s.2.length + 2)) (fun s' hs' => hok s' (List.mem_cons_of_mem _ hs')) a1 a2 (fun j hj => by
      have := hf ((s.2.length + 2) + j) (by omega)
      rw [show wss (s :: ss) = wsg s ++ wss ss from rfl] at this
      have e := wgD2 (l := wsg s) (w := wss ss) (d := (9, 0)) (i := j)
      rw [wsg_l] at e
      rw [e, ← Nat.add_assoc] at this
      exact this)
    rw [el, ← Nat.add_assoc]
    refine ⟨b1, b2, fun j c1 c2 => ?_⟩
    by_cases c : j < i + (s.2.length + 2)
    · exact a3 j c1 c
    · exact b3 j (by omega) c2
theorem w_yfo {K : Nat} (hK : K ≤ 400) (hok : ∀ j, j < K → wok kd nm vl n j) (hs : yss kd K = 2) (h9 : kd K = 9) : ∀ (d k : Nat), k + d = K → yfo kd (401 - k) (yss kd k) (yzpp kd k) k = (0, K)
  | 0, k, hk => by
    have e : k = K := by omega
    subst e
    rw [show 401 - k = (400 - k) + 1 by omega]
    exact yfo_end ⟨h9, hs⟩
  | d + 1, k, hk => by
    obtain ⟨o1, o2, o3, -⟩ := hok k (by omega)
    rw [show 401 - k = (400 - k) + 1 by omega, yfo_go (fun t => o1 t.1) rfl o2 rfl o3 (by omega)]
    have := w_yfo hK hok hs h9 d (k + 1) (by omega)
    rw [show 401 - (k + 1) = 400 - k by omega] at this
    exact this
theorem wform {ts : List (Nat × Nat)} (hn : n ≤ 8) (hG : wGood n ts) (hf : ∀ j, j < ts.length → wtf kd nm vl j (ts.getD j (9, 0))) (h9 : kd ts.length = 9) : yfo kd 401 0 0 0 = (0, ts.length) ∧ yzq0 kd = n + 1 ∧ ∀ j, j < ts.length → yzft kd nm vl n j = 0 := by
  obtain ⟨ss, cr, ets, hss, hok, hcr⟩ := hG
  have hl0 : ((4, 0) :: (wnm n ++ [(3, 0)]) : List (Nat × Nat)).length = n + 2 := by
    rw [List.length_cons, List.length_append, wnm_l]
    rfl
  have el : ts.length = n + 2 + ((wss ss).length + cr.length) := by rw [ets, List.length_append, hl0, List.length_append]
  have f0 : ∀ j, j < n + 2 → wtf kd nm vl j (((4, 0) :: (wnm n ++ [(3, 0)]) : List (Nat × Nat)).getD j (9, 0)) := fun j hj => by
    have := hf j (by omega)
    rw [ets, wgD1 (by rw [hl0]; exact hj)] at this
    exact this
  have f1 : ∀ j, j < (wss ss).length + cr.length → wtf kd nm vl (n + 2 + j) ((wss ss ++ cr).getD j (9, 0)) := fun j hj => by
    have := hf (n + 2 + j) (by omega)
    have e := wgD2 (l := ((4, 0) :: (wnm n ++ [(3, 0)]) : List (Nat × Nat))) (w := wss ss ++ cr) (d := (9, 0)) (i := j)
    rw [hl0, ← ets] at e
    rw [e] at this
    exact this
  have k0 : kd 0 = 4 := (f0 0 (by omega)).1
  have kn : ∀ j, j < n → kd (j + 1) = 1 ∧ nm (j + 1) = 29281 + j := fun j hj => by
    have := f0 (j + 1) (by omega)
    have e : ((4, 0) :: (wnm n ++ [(3, 0)]) : List (Nat × Nat)).getD (j + 1) (9, 0) = (1, j) := by
      show (wnm n ++ [(3, 0)]).getD j (9, 0) = _
      rw [wgD1 (by rw [wnm_l]; exact hj)]
      obtain ⟨e1, -⟩ := wgm (fun q : Nat => (1, q)) (9, 0) 0 (List.range n) j (by rw [List.length_range]; exact hj)
      unfold wnm
      rw [e1, List.getD_eq_getElem?_getD, List.getElem?_range hj]
      rfl
    rw [e] at this
    exact ⟨this.1, this.2.1 rfl⟩
  have k3 : kd (n + 1) = 3 := by
    have := (f0 (n + 1) (by omega)).1
    have e : ((4, 0) :: (wnm n ++ [(3, 0)]) : List (Nat × Nat)).getD (n + 1) (9, 0) = (3, 0) := by
      show (wnm n ++ [(3, 0)]).getD n (9, 0) = _
      have := wgD2 (l := wnm n) (w := [(3, 0)]) (d := (9, 0)) (i := 0)
      rw [wnm_l, Nat.add_zero] at this
      exact this
    rw [e] at this
    exact this
  have st : ∀ i, i ≤ n → yss kd (i + 1) = 1 ∧ yzpp kd (i + 1) = i := by
    intro i
    induction i with
    | zero =>
      intro _
      refine ⟨wss1 rfl k0, ?_⟩
      show yzfp 0 0 (kd 0) = 0
      rw [k0]
      rfl
    | succ i ih =>
      intro hi
      obtain ⟨a, b⟩ := ih (by omega)
      have k1 := (kn i (by omega)).1
      refine ⟨wss1 a k1, ?_⟩
      show yzfp (yss kd (i + 1)) (yzpp kd (i + 1)) (kd (i + 1)) = i + 1
      rw [a, b, k1]
      rfl
  have hd : ∀ i, 1 ≤ i → i ≤ n + 1 → yhd kd i = 0 := fun i h1 h2 => yhd_at (by omega) i (by omega) fun j a b => by
    have := (kn (j - 1) (by omega)).1
    rw [show j - 1 + 1 = j by omega] at this
    omega
  obtain ⟨sn, pn⟩ := st n (Nat.le_refl n)
  have s2 : yss kd (n + 2) = 2 := wss1 sn k3
  have p2 : yzpp kd (n + 2) = n := (wpp1 sn k3 (by decide)).trans pn
  have ok0 : ∀ j, j < n + 2 → wok kd nm vl n j := fun j hj => by
    by_cases j0 : j = 0
    · subst j0
      refine ⟨by omega, by rw [(st 0 (Nat.zero_le n)).1]; decide, by rw [(st 0 (Nat.zero_le n)).2]; decide, ?_⟩
      unfold yzft
      rw [if_neg (by omega), if_neg (by omega), if_neg (by omega)]
    · by_cases jn : j = n + 1
      · subst jn
        refine ⟨by omega, by rw [s2]; decide, by rw [p2]; omega, ?_⟩
        unfold yzft
        rw [if_neg (by omega), if_neg (by omega), if_pos k3, hd (n + 1) (by omega) (by omega), if_neg (by omega)]
      · obtain ⟨i, ei⟩ : ∃ i, j = i + 1 := ⟨j - 1, by omega⟩
        subst ei
        obtain ⟨k1, x1⟩ := kn i (by omega)
        obtain ⟨a, b⟩ := st (i + 1) (by omega)
        refine ⟨by omega, by rw [a]; decide, by rw [b]; omega, ?_⟩
        unfold yzft
        rw [if_pos k1, hd (i + 1) (by omega) (by omega), if_pos k0, Nat.add_sub_cancel, yif_f ?_]
        intro t
        obtain ⟨c1, c2, c3, c4⟩ := yzn_f (Q := fun p => nm (p + 1) ≠ nm (i + 1)) i 0
        have e : ypa nm i (nm (i + 1)) = yzn (fun p => nm (p + 1) ≠ nm (i + 1)) i 0 := rfl
        rw [e] at t
        generalize yzn (fun p => nm (p + 1) ≠ nm (i + 1)) i 0 = r at c1 c2 c3 c4 t
        have hr : r < i := by omega
        refine c4 (by omega) fun s => ?_
        have x2 := (kn r (by omega)).2
        omega
  have hnm : ∀ q, q < n → nm (q + 1) = 29281 + q := fun q hq => (kn q hq).2
  obtain ⟨b1, b2, b3⟩ := w_segs (kd := kd) (vl := vl) hnm ss (n + 2) hok s2 (by omega) (fun j hj => by
    have := f1 j (by omega)
    rw [wgD1 hj] at this
    exact this)
  have fin : yss kd ts.length = 2 ∧ ∀ j, j < ts.length → wok kd nm vl n j := by
    rcases hcr with e | ⟨vs, ⟨v1, v2, v3, v4⟩, e⟩
    · have e0 : ts.length = n + 2 + (wss ss).length := by rw [el, e]; rfl
      rw [e0]
      refine ⟨b1, fun j hj => ?_⟩
      by_cases c : j < n + 2
      · exact ok0 j c
      · exact b3 j (by omega) hj
    · have ec : cr.length = n + 2 := by
        rw [e]
        unfold wcr
        rw [List.length_cons, List.length_append, List.length_map, v1]
        rfl
      have f2 : ∀ j, j < n + 2 → wtf kd nm vl (n + 2 + (wss ss).length + j) ((wcr vs).getD j (9, 0)) := fun j hj => by
        have := f1 ((wss ss).length + j) (by omega)
        rw [wgD2, e, ← Nat.add_assoc] at this
        exact this
      obtain ⟨d1, d2, d3⟩ := w_cross (kd := kd) (nm := nm) (vl := vl) (n := n) (i := n + 2 + (wss ss).length) (f := fun t => vs.getD t 0) v2 b1 b2 ((f2 0 (by omega)).1) (fun t ht => by
        have := f2 (t + 1) (by omega)
        rw [show n + 2 + (wss ss).length + (t + 1) = n + 2 + (wss ss).length + 1 + t by omega] at this
        have e3 : (wcr vs).getD (t + 1) (9, 0) = (vs.map (fun q => (2, q))).getD t (9, 0) := by
          show (vs.map (fun q => (2, q)) ++ [(3, 0)]).getD t (9, 0) = _
          exact wgD1 (by rw [List.length_map]; omega)
        obtain ⟨e1, e2⟩ := wgm (fun q : Nat => (2, q)) (9, 0) 0 vs t (by omega)
        rw [e3, e1] at this
        exact ⟨this.1, this.2.2 rfl, v3 _ e2⟩) (fun t u ht hu e => wndi vs t u v4 (by omega) (by omega) e) (by
        have := (f2 (n + 1) (by omega)).1
        rw [show n + 2 + (wss ss).length + (n + 1) = n + 2 + (wss ss).length + 1 + n by omega] at this
        have e3 : (wcr vs).getD (n + 1) (9, 0) = (3, 0) := by
          show (vs.map (fun q => (2, q)) ++ [(3, 0)]).getD n (9, 0) = _
          have := wgD2 (l := vs.map (fun q => (2, q))) (w := [(3, 0)]) (d := (9, 0)) (i := 0)
          rw [List.length_map, Nat.add_zero, v1] at this
          exact this
        rw [e3] at this
        exact this)
      have e0 : ts.length = n + 2 + (wss ss).length + (n + 2) := by omega
      rw [e0]
      refine ⟨d1, fun j hj => ?_⟩
      by_cases c : j < n + 2
      · exact ok0 j c
      · by_cases c2 : j < n + 2 + (wss ss).length
        · exact b3 j (by omega) c2
        · exact d3 j (by omega) hj
  have hlen : ts.length ≤ 400 := by
    have hsl : ∀ ss : List (Nat × List Nat), (∀ s, s ∈ ss → wsok n s) → (wss ss).length ≤ 7 * ss.length := by
      intro ss
      induction ss with
      | nil => intro _; exact Nat.zero_le _
      | cons s ss ih =>
        intro h
        have a := ih fun s' hs' => h s' (List.mem_cons_of_mem _ hs')
        have b := (h s List.mem_cons_self).2.2.1
        show (wsg s ++ wss ss).length ≤ 7 * (ss.length + 1)
        rw [List.length_append, wsg_l]
        omega
    have a := hsl ss hok
    have b : cr.length ≤ n + 2 := by
      rcases hcr with e | ⟨vs, ⟨v1, v2, v3, v4⟩, e⟩
      · rw [e]; exact Nat.zero_le _
      · rw [e]
        unfold wcr
        rw [List.length_cons, List.length_append, List.length_map, v1]
        exact Nat.le_refl _
    omega
  refine ⟨w_yfo hlen fin.2 fin.1 h9 ts.length 0 (Nat.zero_add _), ?_, fun j hj => (fin.2 j hj).2.2.2⟩
  obtain ⟨c1, c2, c3, c4⟩ := yzn_f (Q := fun j => kd j ≠ 3) 401 0
  have e : yzq0 kd = yzn (fun j => kd j ≠ 3) 401 0 := rfl
  rw [e]
  generalize yzn (fun j => kd j ≠ 3) 401 0 = r at c1 c2 c3 c4
  rcases Nat.lt_trichotomy r (n + 1) with c | c | c
  · exfalso
    refine c4 (by omega) ?_
    by_cases r0 : r = 0
    · rw [r0, k0]; decide
    · have := (kn (r - 1) (by omega)).1
      rw [show r - 1 + 1 = r by omega] at this
      omega
  · exact c
  · exact absurd k3 (c3 (n + 1) (Nat.zero_le _) c)
end
