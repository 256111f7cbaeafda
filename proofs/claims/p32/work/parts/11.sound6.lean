/-! the induction: what the interpreter says of a method is a contract -/
theorem xokc_spec {j : Nat} {vs : List Value} (h : xokc j vs = true) : j < xJL ∧ j ≠ xJmax ∧ j ≠ xJmin ∧ xcat vs ≤ xml j := by
  unfold xokc at h
  simp only [Bool.and_eq_true, Bool.not_eq_true'] at h
  obtain ⟨⟨⟨h1, h2⟩, h3⟩, h4⟩ := h
  refine ⟨Nat.le_of_ble_eq_true h1, fun e => ?_, fun e => ?_, Nat.le_of_ble_eq_true h4⟩
  · rw [e] at h2; cases h2
  · rw [e] at h3; cases h3
theorem lg_sl_len (vs : List Value) : (lg_sl vs).length = xcat vs := by
  unfold lg_sl xcat
  induction vs with
  | nil => rfl
  | cons v vs ih =>
    rw [List.flatMap_cons, List.length_append, ih, List.map_cons, List.sum_cons]
    rcases lv_cat v with h | h
    · rw [if_neg (by rw [h]; decide), h]; rfl
    · rw [if_pos h, h]; rfl
theorem xcat_cv {P : xP} (hf : xPf P = .null ∨ ∃ t, xPf P = .ref t) (vs : List Value) : xcat (vs.map (xcv P)) = xcat vs := xcv_cats hf vs
/-- a method's end, from its return -/
theorem xend_met {p : Program} {l : Launch} {e : Env} {s : State} {m : MethodId} {args : Array Value} {below : List Frame} {meth : Method} {c : Code} {P : xP} {j rk : Nat} {r : xR} (hx : p.tables.exec = Jvm.exec) (hb : c.code = xcode j) (hr : meth.sig.returnType = xrt j) (hlocks : meth.locks = false) :
    xEnd p l e (xrm j rk) s m args below meth c (MQ below (xQc P r) args s (xmc j) (xms j) (xA0 P)) P j r := by
  intro pc op H locs ls c' s' hd hop hR hS hc hs
  have hpost : ∀ t : State, t.heap = H → s.WarmedH t.vm → xQc P r args s (.returned (r.1.map (xcv P))) t := fun t ht hW => ⟨rfl, by rw [ht]; exact hR.moved hW.alike, hS.F ht⟩
  refine W.widen (k := xmc j) (n := xms j) hc hs ?_
  rcases hop with ⟨rfl, x, hv, hx1⟩ | ⟨rfl, x, hv, hx1⟩ | ⟨rfl, hx1, hv⟩ | ⟨rfl, hv, hx1⟩
  · rw [hv] at hpost ⊢
    unfold xretok at hx1
    split at hx1
    · rename_i hq
      exact W.iret (v := x) hx hb (by rw [hr, hq]) hpost hS.2.2 hd hlocks
    · rename_i hq
      refine W.zret (v := x) hx hb (by rw [hr, hq]) ?_ hpost hS.2.2 hd hlocks
      simp only [Bool.or_eq_true, beq_iff_eq] at hx1
      rcases hx1 with rfl | rfl <;> rfl
    · rename_i hq
      refine W.zret (v := x) hx hb (by rw [hr, hq]) ?_ hpost hS.2.2 hd hlocks
      simp only [beq_iff_eq] at hx1
      show Value.int x.toInt8.toInt32 = _
      rw [hx1]
    · rename_i hq
      refine W.zret (v := x) hx hb (by rw [hr, hq]) ?_ hpost hS.2.2 hd hlocks
      simp only [beq_iff_eq] at hx1
      show Value.int (vp_nar .char x) = _
      rw [hx1]
    · cases hx1
  · rw [hv] at hpost ⊢
    exact W.lret (v := x) hx hb (by rw [hr, hx1]) hpost hS.2.2 hd hlocks
  · rcases hv with ⟨k, hv, hk⟩ | hv
    · rw [hv] at hpost ⊢
      obtain ⟨y, hy⟩ := xcr_ref (P := P) hk
      rcases hx1 with hx1 | hx1
      · exact W.aret (v := xcv P (.ref k)) hx hb (by rw [hr, hx1]) (Or.inl ⟨_, rfl⟩) (Or.inr ⟨y, hy⟩) hpost hS.2.2 hd hlocks
      · exact W.aret (v := xcv P (.ref k)) hx hb (by rw [hr, hx1]) (Or.inr ⟨_, rfl⟩) (Or.inr ⟨y, hy⟩) hpost hS.2.2 hd hlocks
    · rw [hv] at hpost ⊢
      rcases hx1 with hx1 | hx1
      · exact W.aret (v := .null) hx hb (by rw [hr, hx1]) (Or.inl ⟨_, rfl⟩) (Or.inl rfl) hpost hS.2.2 hd hlocks
      · exact W.aret (v := .null) hx hb (by rw [hr, hx1]) (Or.inr ⟨_, rfl⟩) (Or.inl rfl) hpost hS.2.2 hd hlocks
  · rw [hv] at hpost ⊢
    exact W.vret hx hb (by rw [hr, hx1]) hpost hS.2.2 hd hlocks
def xSays (n : Nat) : Prop := ∀ (g : xG) (r : xR), xex n g = some r → ∀ (p : Program) (l : Launch) (e : Env) (R : Room) (s0 : State) (m : MethodId) (args : Array Value) (below : List Frame) (meth : Method) (cd : Code) (Q : State → Prop) (P : xP), g.1 ≤ xJL → xctx p R s0 m args meth cd P g.1 g.2.1 → xEnd p l e R s0 m args below meth cd Q P g.1 r → xWg p l e R s0 m args below meth cd Q P g.1 g.2.2.1 g.2.2.2.1 g.2.2.2.2.1 g.2.2.2.2.2.1 g.2.2.2.2.2.2.1 g.2.2.2.2.2.2.2
theorem xmet_of {n : Nat} (ih : xSays n) {j : Nat} {vs : List Value} {M : xM} {r : xR} (h : xex n (xini (j, vs, M)) = some r) (hok : xokc j vs = true) (l : Launch) (P : xP) : xMet l P j vs M r := by
  obtain ⟨h1, h2, h3, h4⟩ := xokc_spec hok
  obtain ⟨m1, m2, m3, m4, m5, m6⟩ := xm_all j h1
  obtain ⟨d1, d2, d3, d4, d5, d6, d7⟩ := xmd_spec m6
  have hpl : plainName (xy j).cls = true := by
    rcases d2 with h | h | h
    · exact h
    · exact absurd h h2
    · exact absurd h h3
  refine Met.ofW (cc := xcode j) (maxL := xml j) (ret := xrt j) (ws' := xALL) hpl rfl ?_
  intro p e s m args below meth c s₁ B hml hv
  obtain ⟨rfl, hR, hE⟩ := hv
  have hf := hE.2.2.2.2.2.2.2.2.2.2.1
  have hts := atoms_spec (ws := xws j) B.pre
  have hown : s.vm.findClass (xy j).cls = some m.cls := findClass_of_methodNamed B.named
  have hlocks := B.notSynchronized
  have hctx : xctx p (xrm j (xrk j vs)) s m (vs.map (xcv P)).toArray meth c P j (xrk j vs) := ⟨B.exec, B.bytes, hml, by rw [← d1]; exact hown, fun w hw => hts w (List.mem_cons_of_mem _ hw), fun hk => by rw [← (m5 hk).2.1]; exact (name_of_methodNamed B.named B.method).1, hE, Nat.le_refl _, Nat.le_refl _, Nat.le_refl _, Nat.le_refl _⟩
  have hl := lv_entry (vs.map (xcv P)) (n := xml j) (by rw [lg_sl_len, xcat_cv hf]; exact h4)
  rw [xl_args hf] at hl
  rw [lg_entry_eq]
  exact xWg.nm (ih _ r h p l e (xrm j (xrk j vs)) s m (vs.map (xcv P)).toArray below meth c _ P (Nat.le_of_lt h1) hctx (xend_met B.exec B.bytes B.returns hlocks)) s.heap [] _ hR va_S.rf hl (Nat.zero_le _) (Nat.zero_le _)
theorem xJL1 {i : Nat} (h : i ≤ xJL) : i < 172 := Nat.lt_succ_of_le h
theorem xsays_all : ∀ n, xSays n := by
  intro n
  induction n with
  | zero => intro g r h; cases h
  | succ n ih =>
    intro g r h p l e R s0 m args below meth cd Q P hg hC hEnd
    obtain ⟨i, rk, pc, l', st, M, c, s⟩ := g
    have h : xF (xex n) (i, rk, pc, l', st, M, c, s) = some r := h
    unfold xF at h
    have key : ∀ a, xact (i, rk, pc, l', st, M, c, s) = a → xWA p l e R s0 m args below meth cd Q P i a → xWg p l e R s0 m args below meth cd Q P i pc l' st M c s := by
      intro a ha hw
      subst ha
      unfold xact at hw
      dsimp only at hw
      split at hw
      · rename_i op nb hop
        have hd := xd_all i (xJL1 hg) pc (op, nb) hop
        cases hz : (Nat.beq (xsz op) 0 || Nat.beq nb (xsz op)) with
        | true =>
          rw [hz] at hw
          refine xstepW hC hd ?_ hw
          rcases Bool.or_eq_true_iff.mp hz with z | z
          · exact Or.inl (Nat.eq_of_beq_eq_true z)
          · exact Or.inr (Nat.eq_of_beq_eq_true z)
        | false =>
          rw [hz] at hw
          exact hw.elim
      · exact hw.elim
    split at h
    · cases h
    · rename_i r' ha
      cases h
      exact key _ ha hEnd
    · rename_i g' ha
      exact key _ ha (ih (i, rk, g') r h p l e R s0 m args below meth cd Q P hg hC hEnd)
    · rename_i a k ha
      cases hok : xokc a.1 a.2.1 with
      | true =>
        rw [hok] at h
        have h : ((xex n (xini a)).bind fun r => bif xrok (xrt a.1) r.1 then (k r).bind fun q => xex n (i, rk, q) else none) = some r := h
        rw [Option.bind_eq_some_iff] at h
        obtain ⟨r1, hr1, h⟩ := h
        cases hrk : xrok (xrt a.1) r1.1 with
        | false => rw [hrk] at h; cases h
        | true =>
        rw [hrk] at h
        have h : ((k r1).bind fun q => xex n (i, rk, q)) = some r := h
        rw [Option.bind_eq_some_iff] at h
        obtain ⟨g', hk, h⟩ := h
        exact key _ ha ⟨r1, xmet_of ih hr1 hok l P, g', hk, ih (i, rk, g') r h p l e R s0 m args below meth cd Q P hg hC hEnd⟩
      | false =>
        rw [hok] at h
        cases h
