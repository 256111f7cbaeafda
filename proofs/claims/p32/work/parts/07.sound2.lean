/-! rows over the memory: reads and writes of a cell -/
theorem xkd_lt {k t n : Nat} (h : xkd k = (t, n)) (ht : t < 9) : k < 144 := by
  by_cases hk : k < 144
  · exact hk
  · exfalso
    unfold xkd at h
    rw [show Nat.blt k 144 = false from xblt (Nat.not_lt.mp hk)] at h
    have := congrArg Prod.fst h
    simp at this
    omega
theorem xin1_spec {M : xM} {t k : Nat} {i : Int32} (h : xin1 M t k i = true) : (xkM M k).1 = t ∧ xsg k < M.2.2.2 ∧ ¬ i < 0 ∧ i.toNatClampNeg < (xkM M k).2 := by
  unfold xin1 at h
  simp only [Bool.and_eq_true, beq_iff_eq, decide_eq_true_eq] at h
  exact ⟨h.1.1.1, Nat.le_of_ble_eq_true h.1.1.2, by have := h.1.2; rw [Int32.lt_iff_toInt_lt]; rw [Int32.le_iff_toInt_le] at this; omega, Nat.le_of_ble_eq_true h.2⟩
theorem xobj_spec {M : xM} {k ci : Nat} (h : xobj M k ci = true) : xkM M k = (0, ci) ∧ xsg k < M.2.2.2 := by
  unfold xobj at h
  simp only [Bool.and_eq_true] at h
  exact ⟨xkM_own (Prod.ext (Nat.eq_of_beq_eq_true h.1.1) (Nat.eq_of_beq_eq_true h.1.2)) (by decide), Nat.le_of_ble_eq_true h.2⟩
/-- a cell changes, all else stays -/
theorem xrep_upd {P : xP} {U : State} {H H1 : Heap} {M M1 : xM} {k : Nat} (h : xrep P U H M) (hk : xsg k < M.2.2.2) (hK : M1.2.2.2 = M.2.2.2) (ho : ∀ k', k' ≠ k → (∀ i, M1.1 k' i = M.1 k' i) ∧ (∀ i, M1.2.1 k' i = M.2.1 k' i) ∧ ∀ i, M1.2.2.1 k' i = M.2.2.1 k' i)
    (hc : xcel P U H1 M1 k) (hz : H1.size = H.size) (oq : ∀ q, q ≠ xPB P + xsg k → H1[q]? = H[q]?) (hr : ∀ i, M1.2.2.1 k i ≤ 1000) : xrep P U H1 M1 := by
  obtain ⟨h1, h2, h3, h4, h5, h6⟩ := h
  refine ⟨by rw [hz, h1, hK], by rw [hK]; exact h2, fun k' hk' => ?_, fun i hi => ?_, ?_, fun k' i => ?_⟩
  · by_cases e : k' = k
    · subst e; exact hc
    · obtain ⟨a, b, d⟩ := ho k' e
      exact (h3 k' (by rw [← hK]; exact hk')).kept ((ho 1996 (by have := xsg_lt hk h2; omega)).1 k') (oq _ (fun q => e (xsg_inj (Nat.add_left_cancel q)))) a b d
  · rw [(ho 1998 (by have := xsg_lt hk h2; omega)).1]; exact h4 i hi
  · rw [(ho 1997 (by have := xsg_lt hk h2; omega)).1]; exact h5
  · by_cases e : k' = k
    · subst e; exact hr i
    · rw [(ho k' e).2.2]; exact h6 k' i
theorem xS_put {P : xP} {H0 H H1 : Heap} {locs : List Loc} {k i : Nat} (hS : va_S (xA0 P) H0 H locs) (z : H1.size = H.size) (o : ∀ q, q ≠ xPB P + xsg k → H1[q]? = H[q]?) : va_S (xA0 P) H0 H1 (locs ++ [⟨xPB P + xsg k, i⟩]) := hS.put z o (Nat.le_add_right _ _)
theorem xcel_arr {P : xP} {U : State} {H : Heap} {M : xM} {k t n : Nat} (h : xrep P U H M) (hk : xsg k < M.2.2.2) (ht : xkM M k = (t, n)) (h0 : t ≠ 0) : ∃ cA, ArrOfT U cA (xty t) ∧ va_RA U cA (xty t) ∧ H[xPB P + xsg k]? = some (arrV cA n (xev P M t k)) := ((h.2.2.1 k hk t n ht).2 h0).2
theorem xev_i {P : xP} {M : xM} {k t i : Nat} (h : t = 1 ∨ t = 3 ∨ t = 4) : xev P M t k i = .int (M.1 k i) := by
  rcases h with rfl | rfl | rfl <;> rfl
theorem xrep_iast {P : xP} {U : State} {H H1 : Heap} {M : xM} {k t n i : Nat} {v : Int32} {cA : ClassId} (h : xrep P U H M) (hk : xsg k < M.2.2.2) (ht : xkM M k = (t, n)) (h0 : t = 1 ∨ t = 3 ∨ t = 4) (hA : ArrOfT U cA (xty t)) (hR : va_RA U cA (xty t))
    (he : H1[xPB P + xsg k]? = some ((arrV cA n (xev P M t k)).setSlot i (.int v))) (hz : H1.size = H.size) (oq : ∀ q, q ≠ xPB P + xsg k → H1[q]? = H[q]?) : xrep P U H1 (xsi M k i v) := by
  refine xrep_upd h hk rfl (fun k' hk' => ⟨fun j => if_neg (fun q => hk' q.1), fun _ => rfl, fun _ => rfl⟩) ?_ hz oq (h.2.2.2.2.2 k)
  intro t' n' hk'
  rw [xkM_of (M := M) (M1 := xsi M k i v) (if_neg (fun q => by have := xsg_lt hk h.2.1; omega)), ht] at hk'
  cases hk'
  refine ⟨fun q => absurd q (by omega), fun _ => ⟨by omega, cA, hA, hR, ?_⟩⟩
  rw [he, arrV_store]
  congr 2
  funext j
  rw [xev_i h0]
  unfold updV
  rw [xev_i h0]
  show _ = Value.int (if k = k ∧ j = i then v else M.1 k j)
  by_cases e : j = i
  · rw [if_pos e, if_pos ⟨rfl, e⟩]
  · rw [if_neg e, if_neg (fun q => e q.2)]
theorem xrep_last {P : xP} {U : State} {H H1 : Heap} {M : xM} {k n i : Nat} {v : Int64} {cA : ClassId} (h : xrep P U H M) (hk : xsg k < M.2.2.2) (ht : xkM M k = (2, n)) (hA : ArrOfT U cA .long) (hR : va_RA U cA .long)
    (he : H1[xPB P + xsg k]? = some ((arrV cA n (xev P M 2 k)).setSlot i (.long v))) (hz : H1.size = H.size) (oq : ∀ q, q ≠ xPB P + xsg k → H1[q]? = H[q]?) : xrep P U H1 (xsj M k i v) := by
  refine xrep_upd h hk rfl (fun k' hk' => ⟨fun _ => rfl, fun j => if_neg (fun q => hk' q.1), fun _ => rfl⟩) ?_ hz oq (h.2.2.2.2.2 k)
  intro t' n' hk'
  rw [xkM_of (M := M) (M1 := xsj M k i v) rfl, ht] at hk'
  cases hk'
  refine ⟨fun q => absurd q (by omega), fun _ => ⟨by omega, cA, hA, hR, ?_⟩⟩
  rw [he, arrV_store]
  congr 2
  funext j
  show updV (fun z => Value.long (M.2.1 k z)) i (.long v) j = Value.long (if k = k ∧ j = i then v else M.2.1 k j)
  unfold updV
  by_cases e : j = i
  · rw [if_pos e, if_pos ⟨rfl, e⟩]
  · rw [if_neg e, if_neg (fun q => e q.2)]
theorem xsr_le {M : xM} {k i r : Nat} (h : ∀ k i, M.2.2.1 k i ≤ 1000) (hr : r < 1000) (k' i' : Nat) : (xsr M k i (r + 1)).2.2.1 k' i' ≤ 1000 := by
  show (if k' = k ∧ i' = i then r + 1 else M.2.2.1 k' i') ≤ 1000
  split
  · omega
  · exact h k' i'
theorem xrep_aast {P : xP} {U : State} {H H1 : Heap} {M : xM} {k n i r : Nat} {cA : ClassId} (hr : r < 1000) (h : xrep P U H M) (hk : xsg k < M.2.2.2) (ht : xkM M k = (5, n)) (hA : ArrOfT U cA (xty 5)) (hR : va_RA U cA (xty 5))
    (he : H1[xPB P + xsg k]? = some ((arrV cA n (xev P M 5 k)).setSlot i (.ref (xPB P + xsg r)))) (hz : H1.size = H.size) (oq : ∀ q, q ≠ xPB P + xsg k → H1[q]? = H[q]?) : xrep P U H1 (xsr M k i (r + 1)) := by
  refine xrep_upd h hk rfl (fun k' hk' => ⟨fun _ => rfl, fun _ => rfl, fun j => if_neg (fun q => hk' q.1)⟩) ?_ hz oq (fun j => xsr_le h.2.2.2.2.2 hr k j)
  intro t' n' hk'
  rw [xkM_of (M := M) (M1 := xsr M k i (r + 1)) rfl, ht] at hk'
  cases hk'
  refine ⟨fun q => absurd q (by omega), fun _ => ⟨by omega, cA, hA, hR, ?_⟩⟩
  rw [he, arrV_store]
  congr 2
  funext j
  show updV (fun z => xrv P (M.2.2.1 k z)) i (.ref (xPB P + xsg r)) j = xrv P (if k = k ∧ j = i then r + 1 else M.2.2.1 k j)
  unfold updV
  by_cases e : j = i
  · rw [if_pos e, if_pos ⟨rfl, e⟩]; rfl
  · rw [if_neg e, if_neg (fun q => e q.2)]
/-- a field changes -/
theorem xrep_fld {P : xP} {U : State} {H H1 : Heap} {M M1 : xM} {k ci j : Nat} {v : Value} (h : xrep P U H M) (hk : xsg k < M.2.2.2) (ht : xkM M k = (0, ci)) (h13 : xoc ci) (hK : M1.2.2.2 = M.2.2.2)
    (ho : ∀ k', k' ≠ k → (∀ i, M1.1 k' i = M.1 k' i) ∧ (∀ i, M1.2.1 k' i = M.2.1 k' i) ∧ ∀ i, M1.2.2.1 k' i = M.2.2.1 k' i) (hv : ∀ z, z < xnsl ci → updV (xfv P M k ci) j v z = xfv P M1 k ci z)
    (he : t_OB (xPB P + xsg k) ((xPD P).1 ci) (xnsl ci) ((xPD P).2 ci) H1 (updV (xfv P M k ci) j v)) (hz : H1.size = H.size) (oq : ∀ q, q ≠ xPB P + xsg k → H1[q]? = H[q]?) (hr : ∀ i, M1.2.2.1 k i ≤ 1000) : xrep P U H1 M1 := by
  refine xrep_upd h hk hK ho ?_ hz oq hr
  intro t' n' hk'
  rw [xkM_of (M := M) (M1 := M1) ((ho 1996 (by have := xsg_lt hk h.2.1; omega)).1 k), ht] at hk'
  cases hk'
  exact ⟨fun _ => ⟨h13, he.to hv⟩, fun q => absurd rfl q⟩
section
variable {p : Program} {l : Launch} {e : Env} {R : Room} {s : State} {m : MethodId} {args : Array Value} {below : List Frame} {meth : Method} {c : Code} {H : Heap} {locs : List Loc} {cells slots : Nat} {Q : State → Prop} {cc : ByteArray} {pc : Nat} {ls : Array Slot} {rest : List Value} {P : xP}
/-- a field of an own object is read -/
theorem xw_get (hx : p.tables.exec = Jvm.exec) (hb : c.code = cc) (hts : ∀ w ∈ xALL, w.before args s = true) {o q ci j k : Nat} (hown : s.vm.findClass (xcn o) = some m.cls) (hK : va_K (xPD P) xcls [] s) (hl : Cond.fieldLink (xcn o) q (xTN ci j).1 (xTN ci j).2.1 (xTN ci j).2.2.1 ∈ xALL) (hci : xoc ci) (hj : j < xnsl ci) {M : xM} (hR : xrep P s H M) (hk : xsg k < M.2.2.2) (ht : xkM M k = (0, ci)) (hd : decode cc pc = .ok (.getfield q, 3))
    (kk : W p l e R s m args below meth c H locs cells slots Q (F0 m (pc + 3) ls (xfv P M k ci j :: rest))) : W p l e R s m args below meth c H locs cells slots Q (F0 m pc ls (.ref (xPB P + xsg k) :: rest)) := by
  have hO := ((hR.2.2.1 k hk 0 ci ht).1 rfl).2
  have hP : va_P (xPD P) xcls [(xPB P + xsg k, .inr (ci, (List.range (xnsl ci)).map (xfv P M k ci)))] H := by
    intro i x hx
    cases i with
    | zero =>
      cases hx
      refine ⟨_, xcls_at ci hci, hO.to fun z hz => ?_⟩
      show _ = ((List.range (xnsl ci)).map (xfv P M k ci)).getD z .null
      rw [List.getD_eq_getElem?_getD]
      simp [hz]
    | succ i => cases hx
  exact va_get (ref := (xTN ci j).1) hx hb hts (xcls_ws ci hci) hown hK hP 0 rfl (xcls_at ci hci) j hj (hts _ hl) (fun _ h => h) (by simp [hj]) hd kk
theorem xw_apart (hts : ∀ w ∈ xALL, w.before args s = true) {own : String} (hK : va_K (xPD P) xcls [] s) {ci : Nat} (hci : xoc ci) : ∀ x y, x < xnsl ci → y < xnsl ci → x ≠ y → ((xPD P).2 ci) x ≠ ((xPD P).2 ci) y := va_apart (own := own) hts (xcls_ws ci hci) (xtyf ci) (xcls_ty ci hci) (xcls_nm ci hci) hK (xcls_at ci hci)
/-- a field that isn't final is written -/
theorem xw_put (hx : p.tables.exec = Jvm.exec) (hb : c.code = cc) (hts : ∀ w ∈ xALL, w.before args s = true) {o q ci j k : Nat} (hown : s.vm.findClass (xcn o) = some m.cls) (hK : va_K (xPD P) xcls [] s) (hl : Cond.fieldLink (xcn o) q (xTN ci j).1 (xTN ci j).2.1 (xTN ci j).2.2.1 ∈ xALL) (hci : xoc ci) (hj : j < xnsl ci) (hfin : (xTN ci j).2.2.2 = false) {M : xM} (hR : xrep P s H M) (hk : xsg k < M.2.2.2) (ht : xkM M k = (0, ci)) {v : Value} (hn : narrow (xtyf ci j) v = v) (hfit : fits (xtyf ci j) v = true) (hd : decode cc pc = .ok (.putfield q, 3))
    (kk : ∀ (H1 : Heap) (i : Nat), t_OB (xPB P + xsg k) ((xPD P).1 ci) (xnsl ci) ((xPD P).2 ci) H1 (updV (xfv P M k ci) j v) → H1.size = H.size → (∀ q, q ≠ xPB P + xsg k → H1[q]? = H[q]?) → W p l e R s m args below meth c H1 (locs ++ [⟨xPB P + xsg k, i⟩]) cells slots Q (F0 m (pc + 3) ls rest)) : W p l e R s m args below meth c H locs cells slots Q (F0 m pc ls (v :: .ref (xPB P + xsg k) :: rest)) := by
  have hap := xw_apart (own := "") hts hK hci
  obtain ⟨cell, q1, q2, q3, q4⟩ := ((hR.2.2.1 k hk 0 ci ht).1 rfl).2
  obtain ⟨hS, hfc, kC, hkC, hkind⟩ := hK.1 ci _ (xcls_at ci hci)
  obtain ⟨cf, kf, fi, f, hi, hsl⟩ := hS j hj
  have hlay := hts _ (xcls_ws ci hci _ (u_in_lay hj))
  unfold u_lay at hlay
  rw [if_neg (by rw [hfin]; decide)] at hlay
  have hst := (u_facts hfc hkC (u_lays hts (xcls_ws ci hci) hj) hi).1
  have h6 := u_store hfc hkC hkind hlay hi (xcls_ty ci hci j hj) hn hfit
  refine W.putK hx hb (f := f) ⟨hown, hts _ hl, ⟨_, _, _, hi⟩, hst⟩ (by rw [q2]; exact h6) q1 q3 (by rw [hsl]; exact k2_hasslot (q4 j hj)) rfl rfl hd fun H' e1 e2 e3 => ?_
  rw [hsl] at e1 ⊢
  exact kk H' _ ⟨_, e1, q2, q3, t_set q4 hap hj v⟩ e2 e3
/-- a final field is written, in its own class's constructor -/
theorem xw_putF (hx : p.tables.exec = Jvm.exec) (hb : c.code = cc) (hts : ∀ w ∈ xALL, w.before args s = true) {o q ci j k : Nat} (hown : s.vm.findClass (xcn o) = some m.cls) (hK : va_K (xPD P) xcls [] s) (hl : Cond.fieldLink (xcn o) q (xTN ci j).1 (xTN ci j).2.1 (xTN ci j).2.2.1 ∈ xALL) (hci : xoc ci) (hj : j < xnsl ci) (hfin : (xTN ci j).2.2.2 = true) (hdecl : (xTN ci j).1 = xcn o) (hin2 : meth.name = "<init>") {M : xM} (hR : xrep P s H M) (hk : xsg k < M.2.2.2) (ht : xkM M k = (0, ci)) {v : Value} (hn : narrow (xtyf ci j) v = v) (hfit : fits (xtyf ci j) v = true) (hd : decode cc pc = .ok (.putfield q, 3))
    (kk : ∀ (H1 : Heap) (i : Nat), t_OB (xPB P + xsg k) ((xPD P).1 ci) (xnsl ci) ((xPD P).2 ci) H1 (updV (xfv P M k ci) j v) → H1.size = H.size → (∀ q, q ≠ xPB P + xsg k → H1[q]? = H[q]?) → W p l e R s m args below meth c H1 (locs ++ [⟨xPB P + xsg k, i⟩]) cells slots Q (F0 m (pc + 3) ls rest)) : W p l e R s m args below meth c H locs cells slots Q (F0 m pc ls (v :: .ref (xPB P + xsg k) :: rest)) := by
  have hap := xw_apart (own := "") hts hK hci
  obtain ⟨cell, q1, q2, q3, q4⟩ := ((hR.2.2.1 k hk 0 ci ht).1 rfl).2
  obtain ⟨hS, hfc, kC, hkC, hkind⟩ := hK.1 ci _ (xcls_at ci hci)
  obtain ⟨cf, kf, fi, f, hi, hsl⟩ := hS j hj
  have hlay := hts _ (xcls_ws ci hci _ (u_in_lay hj))
  unfold u_lay at hlay
  rw [if_pos hfin] at hlay
  have hst := (u_facts hfc hkC (u_lays hts (xcls_ws ci hci) hj) hi).1
  have hcf : m.cls = cf := by
    obtain ⟨_, _, c', _, _, _, -, -, hf', -, -, -, hown2, -⟩ := Cond.laysFinal_spec hlay
    have e1 : c' = cf := by have := hi.symm.trans hf'; simp at this; exact this.1.symm
    rw [hdecl] at hown2
    rw [← e1]; exact Option.some.inj (hown.symm.trans hown2)
  have h6 := u_fits hfc hkC hkind (Or.inr hlay) hi (xcls_ty ci hci j hj) hn hfit
  refine W.putFinK hx hb hown (hts _ hl) hi hst hcf hin2 (by rw [q2]; exact h6) q1 q3 (by rw [hsl]; exact k2_hasslot (q4 j hj)) rfl rfl hd fun H' e1 e2 e3 => ?_
  rw [hsl] at e1 ⊢
  exact kk H' _ ⟨_, e1, q2, q3, t_set q4 hap hj v⟩ e2 e3
end
