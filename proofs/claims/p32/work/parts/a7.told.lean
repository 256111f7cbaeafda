/-! what the law tells: tokens (kind, value), and their bytes -/
def wtx (c : Nat × Nat) : List Nat := if c.1 = 4 then [112, 111, 115, 116, 115] else if c.1 = 5 then [119, 97, 121] else if c.1 = 6 then [104, 101, 97, 112] else if c.1 = 7 then [99, 114, 111, 115, 115] else if c.1 = 3 then [59] else if c.1 = 1 then [32, 114, 97 + c.2] else if c.1 = 2 then [32, 48 + c.2] else []
def wtt : List (Nat × Nat) → List Nat
  | [] => []
  | c :: cs => wtx c ++ wtt cs
theorem wtt_a (b : List (Nat × Nat)) : ∀ a : List (Nat × Nat), wtt (a ++ b) = wtt a ++ wtt b
  | [] => rfl
  | c :: cs => by
    show wtx c ++ wtt (cs ++ b) = (wtx c ++ wtt cs) ++ wtt b
    rw [wtt_a b cs, List.append_assoc]
theorem wtt_1 (a : List (Nat × Nat)) (c : Nat × Nat) : wtt (a ++ [c]) = wtt a ++ wtx c := by
  rw [wtt_a]
  show wtt a ++ (wtx c ++ []) = _
  rw [List.append_nil]
/-- posts and their names; ways and heaps; a cross -/
def wnm (n : Nat) : List (Nat × Nat) := (List.range n).map (fun k => (1, k))
def wsg (s : Nat × List Nat) : List (Nat × Nat) := (s.1, 0) :: (s.2.map (fun q => (1, q)) ++ [(3, 0)])
def wss : List (Nat × List Nat) → List (Nat × Nat)
  | [] => []
  | s :: ss => wsg s ++ wss ss
def wsok (n : Nat) (s : Nat × List Nat) : Prop := (s.1 = 5 ∨ s.1 = 6) ∧ 2 ≤ s.2.length ∧ s.2.length ≤ 5 ∧ ∀ q, q ∈ s.2 → q < n
def wcr (vs : List Nat) : List (Nat × Nat) := (7, 0) :: (vs.map (fun v => (2, v)) ++ [(3, 0)])
def wcok (n : Nat) (vs : List Nat) : Prop := vs.length = n ∧ 0 < n ∧ (∀ v, v ∈ vs → v < n) ∧ vs.Nodup
def wGood (n : Nat) (ts : List (Nat × Nat)) : Prop := ∃ (ss : List (Nat × List Nat)) (cr : List (Nat × Nat)), ts = ((4, 0) :: (wnm n ++ [(3, 0)])) ++ (wss ss ++ cr) ∧ ss.length ≤ 3 ∧ (∀ s, s ∈ ss → wsok n s) ∧ (cr = [] ∨ ∃ vs, wcok n vs ∧ cr = wcr vs)
theorem wss_a (b : List (Nat × List Nat)) : ∀ a : List (Nat × List Nat), wss (a ++ b) = wss a ++ wss b
  | [] => rfl
  | c :: cs => by
    show wsg c ++ wss (cs ++ b) = (wsg c ++ wss cs) ++ wss b
    rw [wss_a b cs, List.append_assoc]
theorem wnm_s (k : Nat) : wnm (k + 1) = wnm k ++ [(1, k)] := by
  unfold wnm
  rw [List.range_succ, List.map_append]
  rfl
theorem wnm_l (n : Nat) : (wnm n).length = n := by
  unfold wnm
  rw [List.length_map, List.length_range]
theorem wcopr : ∀ n, n < 9 → ∀ o, o < 8 → ∀ i, i < n → ∀ j, j < n → (i * (if n % 3 = 0 then 1 else 3) + o) % n = (j * (if n % 3 = 0 then 1 else 3) + o) % n → i = j := by decide +kernel
section
variable {n : Nat} {N : yNW} {n0 h : Nat} {H : Nat → yNW} {hd : Nat → Prop} {K : Nat → yNW} {Z : xmm → Prop}
abbrev wTJ (n : Nat) (n0 : Nat) (N : yNW) (h : Nat) (H : Nat → yNW) (hd : Nat → Prop) (K : Nat → yNW) (Z : xmm → Prop) (m : xmm) : Prop := ∃ ts, wGood n ts ∧ wTp n0 N h H hd K Z (wtt ts) m
/-- the cross: its numbers -/
theorem t_217 (hn : n ≤ 8) (h0 : 0 < n) {ss : List (Nat × List Nat)} (hs : ss.length ≤ 3) (hok : ∀ s, s ∈ ss → wsok n s) (p : Int32) {st o : Nat} (hst : st = if n % 3 = 0 then 1 else 3) (ho : o < 8) (hp : (p >>> ((10 : Int32) &&& 31)) &&& (7 : Int32) = nI o) : ∀ (d k : Nat) (m : xmm), k + d = n → (wtt (((4, 0) :: (wnm n ++ [(3, 0)])) ++ (wss ss ++ (7, 0) :: ((List.range k).map (fun i => (i * st + o) % n)).map (fun v => (2, v))))).length ≤ 200 + 2 * k → wTp n0 N h H hd K Z (wtt (((4, 0) :: (wnm n ++ [(3, 0)])) ++ (wss ss ++ (7, 0) :: ((List.range k).map (fun i => (i * st + o) % n)).map (fun v => (2, v))))) m → wV (wTJ n n0 N h H hd K Z) (bL_told_0_217 (nI n) p (nI st) (nI k) m) := by
  have hst3 : st ≤ 3 := by rw [hst]; split <;> decide
  intro d
  induction d with
  | zero =>
    intro k m hk hl hT
    have e : k = n := by omega
    subst e
    refine wvb (fun _ e => bL_told_0_217_i _ _ _ _ _ e) (wvt (nI_le (Nat.le_refl _) (by omega)) ?_)
    refine wv (q_sgn hT (by omega) (c := 59) (by decide)) fun m hT => ?_
    refine ⟨m, rfl, _, ⟨ss, wcr ((List.range k).map (fun i => (i * st + o) % k)), rfl, hs, hok, Or.inr ⟨_, ⟨by rw [List.length_map, List.length_range], h0, fun v hv => ?_, ?_⟩, rfl⟩⟩, ?_⟩
    · obtain ⟨i, -, e⟩ := List.mem_map.mp hv
      rw [← e]
      exact Nat.mod_lt _ h0
    · refine ymap_nd List.nodup_range fun i hi j hj e => ?_
      refine wcopr k (by omega) o ho i (List.mem_range.mp hi) j (List.mem_range.mp hj) ?_
      rw [← hst]
      exact e
    · have e : ((4, 0) :: (wnm k ++ [(3, 0)])) ++ (wss ss ++ wcr ((List.range k).map (fun i => (i * st + o) % k))) = (((4, 0) :: (wnm k ++ [(3, 0)])) ++ (wss ss ++ (7, 0) :: ((List.range k).map (fun i => (i * st + o) % k)).map (fun v => (2, v)))) ++ [(3, 0)] := by
        unfold wcr
        simp only [List.append_assoc, List.cons_append]
      rw [e, wtt_1]
      exact hT
  | succ d ih =>
    intro k m hk hl hT
    refine wvb (fun _ e => bL_told_0_217_i _ _ _ _ _ e) (wvf (nI_ge (by omega) (by omega)) ?_)
    refine wv (q_sgn hT (by omega) (c := 32) (by decide)) fun m hT => ?_
    show wV _ (xlt ((nI k * nI st) + ((p >>> ((10 : Int32) &&& 31)) &&& (7 : Int32))) fun (x5 : Int32) => xgd (!(decide (nI n = 0))) ((fL_number_0 (x5 - x5 / nI n * nI n) m).bind fun (w7 : xmm) => bL_told_0_217 (nI n) p (nI st) (nI k + (1 : Int32)) w7))
    rw [hp, pk_mul, nI_add]
    have hb : k * st + o < 2 ^ 31 := by
      have : k * st ≤ 8 * 3 := Nat.mul_le_mul (by omega) hst3
      omega
    show wV _ (xgd (!(decide (nI n = 0))) ((fL_number_0 (nI (k * st + o) - nI (k * st + o) / nI n * nI n) m).bind fun (w7 : xmm) => bL_told_0_217 (nI n) p (nI st) (nI k + (1 : Int32)) w7))
    rw [decide_eq_false (nI_ne0 h0 (by omega)), pk_rem hb h0 (by omega), nI_1]
    have hv : (k * st + o) % n < n := Nat.mod_lt _ h0
    refine wv (q_num hT (by rw [List.length_append]; show _ + 1 + 20 ≤ 2000; omega) (by omega)) fun m hT => ?_
    have e : wtt (((4, 0) :: (wnm n ++ [(3, 0)])) ++ (wss ss ++ (7, 0) :: ((List.range (k + 1)).map (fun i => (i * st + o) % n)).map (fun v => (2, v)))) = (wtt (((4, 0) :: (wnm n ++ [(3, 0)])) ++ (wss ss ++ (7, 0) :: ((List.range k).map (fun i => (i * st + o) % n)).map (fun v => (2, v)))) ++ [32]) ++ [48 + (k * st + o) % n] := by
      have e0 : ((4, 0) :: (wnm n ++ [(3, 0)])) ++ (wss ss ++ (7, 0) :: ((List.range (k + 1)).map (fun i => (i * st + o) % n)).map (fun v => (2, v))) = (((4, 0) :: (wnm n ++ [(3, 0)])) ++ (wss ss ++ (7, 0) :: ((List.range k).map (fun i => (i * st + o) % n)).map (fun v => (2, v)))) ++ [(2, (k * st + o) % n)] := by
        rw [List.range_succ]
        simp only [List.map_append, List.append_assoc, List.cons_append, List.map_cons, List.map_nil]
      rw [e0, wtt_1, List.append_assoc]
      rfl
    rw [← e] at hT
    refine ih (k + 1) m (by omega) ?_ hT
    rw [e, List.length_append, List.length_append]
    show _ + 1 + 1 ≤ _
    omega
/-- ways and heaps: their names -/
theorem t_107 (hn : n ≤ 8) (h0 : 0 < n) {ss : List (Nat × List Nat)} {kw : Nat} (hkw : kw = 5 ∨ kw = 6) (p q : Int32) {k L : Nat} {J : xmm → Prop} (hL : L ≤ 5) (hp : (2 : Int32) + ((p >>> (((2 : Int32) + ((2 : Int32) * nI k)) &&& 31)) &&& (3 : Int32)) = nI L) {B : Nat} (hB : B ≤ 1000) (nx : ∀ ns : List Nat, ns.length = L → (∀ x, x ∈ ns → x < n) → ∀ m, wTp n0 N h H hd K Z (wtt (((4, 0) :: (wnm n ++ [(3, 0)])) ++ (wss ss ++ wsg (kw, ns)))) m → (wtt (((4, 0) :: (wnm n ++ [(3, 0)])) ++ (wss ss ++ wsg (kw, ns)))).length ≤ B + 16 → wV J (bL_told_0_62 (nI n) p q (nI (k + 1)) m)) : ∀ (d i : Nat) (ns : List Nat) (m : xmm), i + d = L → ns.length = i → (∀ x, x ∈ ns → x < n) → (wtt (((4, 0) :: (wnm n ++ [(3, 0)])) ++ (wss ss ++ (kw, 0) :: ns.map (fun q => (1, q))))).length ≤ B + 3 * i → wTp n0 N h H hd K Z (wtt (((4, 0) :: (wnm n ++ [(3, 0)])) ++ (wss ss ++ (kw, 0) :: ns.map (fun q => (1, q))))) m → wV J (bL_told_0_107 (nI n) p q (nI k) (nI i) m) := by
  intro d
  induction d with
  | zero =>
    intro i ns m hi hns hb hl hT
    have e : i = L := by omega
    subst e
    refine wvb (fun _ e => bL_told_0_107_i _ _ _ _ _ _ e) ?_
    rw [hp]
    refine wvt (nI_le (Nat.le_refl _) (by omega)) ?_
    refine wv (q_sgn hT (by omega) (c := 59) (by decide)) fun m hT => ?_
    have e : ((4, 0) :: (wnm n ++ [(3, 0)])) ++ (wss ss ++ wsg (kw, ns)) = (((4, 0) :: (wnm n ++ [(3, 0)])) ++ (wss ss ++ (kw, 0) :: ns.map (fun q => (1, q)))) ++ [(3, 0)] := by
      unfold wsg
      simp only [List.append_assoc, List.cons_append]
    have e2 : wtt (((4, 0) :: (wnm n ++ [(3, 0)])) ++ (wss ss ++ wsg (kw, ns))) = wtt (((4, 0) :: (wnm n ++ [(3, 0)])) ++ (wss ss ++ (kw, 0) :: ns.map (fun q => (1, q)))) ++ [59] := by
      rw [e, wtt_1]
      rfl
    rw [nI_1]
    refine nx ns hns hb m (by rw [e2]; exact hT) ?_
    rw [e2, List.length_append]
    show _ + 1 ≤ _
    omega
  | succ d ih =>
    intro i ns m hi hns hb hl hT
    refine wvb (fun _ e => bL_told_0_107_i _ _ _ _ _ _ e) ?_
    rw [hp]
    refine wvf (nI_ge (by omega) (by omega)) ?_
    refine wv (q_r hT (by omega)) fun m hT => ?_
    obtain ⟨j, hj, ej⟩ := pk_andE (q >>> (((((3 : Int32) * nI i) + ((2 : Int32) * nI k)) + (3 : Int32)) &&& 31)) (m := 255) 8 (by decide)
    rw [ej]
    show wV J (xgd (!(decide (nI n = 0))) ((fL_sign_0 ((97 : Int32) + (nI j - nI j / nI n * nI n)) m).bind fun (w7 : xmm) => bL_told_0_107 (nI n) p q (nI k) (nI i + (1 : Int32)) w7))
    have hv : j % n < n := Nat.mod_lt _ h0
    rw [decide_eq_false (nI_ne0 h0 (by omega)), pk_rem (by omega) h0 (by omega), show (97 : Int32) = nI 97 from rfl, nI_add, nI_1]
    refine wv (q_sgn hT (by rw [List.length_append]; show _ + 2 + 20 ≤ 2000; omega) (c := 97 + j % n) (by omega)) fun m hT => ?_
    have e : wtt (((4, 0) :: (wnm n ++ [(3, 0)])) ++ (wss ss ++ (kw, 0) :: (ns ++ [j % n]).map (fun q => (1, q)))) = (wtt (((4, 0) :: (wnm n ++ [(3, 0)])) ++ (wss ss ++ (kw, 0) :: ns.map (fun q => (1, q)))) ++ [32, 114]) ++ [97 + j % n] := by
      have e0 : ((4, 0) :: (wnm n ++ [(3, 0)])) ++ (wss ss ++ (kw, 0) :: (ns ++ [j % n]).map (fun q => (1, q))) = (((4, 0) :: (wnm n ++ [(3, 0)])) ++ (wss ss ++ (kw, 0) :: ns.map (fun q => (1, q)))) ++ [(1, j % n)] := by
        simp only [List.map_append, List.append_assoc, List.cons_append, List.map_cons, List.map_nil]
      rw [e0, wtt_1, List.append_assoc]
      rfl
    rw [← e] at hT
    refine ih (i + 1) (ns ++ [j % n]) m (by omega) (by rw [List.length_append, hns]; rfl) (fun x hx => ?_) ?_ hT
    · rcases List.mem_append.mp hx with hx | hx
      · exact hb x hx
      · rw [List.mem_singleton.mp hx]; exact hv
    · rw [e, List.length_append, List.length_append]
      show _ + 2 + 1 ≤ _
      omega
theorem t_62 (hn : n ≤ 8) (h0 : 0 < n) (p q : Int32) {r : Nat} (hr : r ≤ 3) (hp : p &&& (3 : Int32) = nI r) : ∀ (d k : Nat) (ss : List (Nat × List Nat)) (m : xmm), k + d = r → ss.length = k → (∀ s, s ∈ ss → wsok n s) → (wtt (((4, 0) :: (wnm n ++ [(3, 0)])) ++ wss ss)).length ≤ 60 + 30 * k → wTp n0 N h H hd K Z (wtt (((4, 0) :: (wnm n ++ [(3, 0)])) ++ wss ss)) m → wV (wTJ n n0 N h H hd K Z) (bL_told_0_62 (nI n) p q (nI k) m) := by
  intro d
  induction d with
  | zero =>
    intro k ss m hk hs hok hl hT
    have e : k = r := by omega
    subst e
    refine wvb (fun _ e => bL_told_0_62_i _ _ _ _ _ e) ?_
    rw [hp]
    refine wvt (nI_le (Nat.le_refl _) (by omega)) ?_
    by_cases c : ((p >>> ((9 : Int32) &&& 31)) &&& (1 : Int32)) = 0
    · refine wvt c ⟨m, rfl, _, ⟨ss, [], rfl, by omega, hok, Or.inl rfl⟩, ?_⟩
      rw [List.append_nil]
      exact hT
    · refine wvf c ?_
      obtain ⟨o, ho, eo⟩ := pk_andE (p >>> ((10 : Int32) &&& 31)) (m := 7) 3 (by decide)
      have go : ∀ st m, st = (if n % 3 = 0 then 1 else 3) → wTp n0 N h H hd K Z (wtt (((4, 0) :: (wnm n ++ [(3, 0)])) ++ wss ss)) m → wV (wTJ n n0 N h H hd K Z) (bL_told_0_200 (nI n) p (nI st) m) := by
        intro st m hst hT
        refine wvb (fun _ e => bL_told_0_200_i _ _ _ _ e) ?_
        refine wv (q_cross hT (by omega)) fun m hT => ?_
        have e : wtt (((4, 0) :: (wnm n ++ [(3, 0)])) ++ (wss ss ++ (7, 0) :: ((List.range 0).map (fun i => (i * st + o) % n)).map (fun v => (2, v)))) = wtt (((4, 0) :: (wnm n ++ [(3, 0)])) ++ wss ss) ++ [99, 114, 111, 115, 115] := by
          have e0 : ((4, 0) :: (wnm n ++ [(3, 0)])) ++ (wss ss ++ (7, 0) :: ((List.range 0).map (fun i => (i * st + o) % n)).map (fun v => (2, v))) = (((4, 0) :: (wnm n ++ [(3, 0)])) ++ wss ss) ++ [(7, 0)] := by
            rw [List.append_assoc]
            rfl
          rw [e0, wtt_1]
          rfl
        refine t_217 hn h0 (by omega) hok p hst (by omega) eo n 0 m (Nat.zero_add n) ?_ (by rw [e]; exact hT)
        rw [e, List.length_append]
        show _ + 5 ≤ _
        omega
      have e3 : nI n - nI n / (3 : Int32) * (3 : Int32) = nI (n % 3) := pk_rem (d := 3) (by omega) (by decide) (by decide)
      rw [e3]
      by_cases c3 : n % 3 = 0
      · exact wvt (by rw [c3]; rfl) (go 1 m (if_pos c3).symm hT)
      · exact wvf (nI_ne0 (by omega) (by omega)) (go 3 m (if_neg c3).symm hT)
  | succ d ih =>
    intro k ss m hk hs hok hl hT
    refine wvb (fun _ e => bL_told_0_62_i _ _ _ _ _ e) ?_
    rw [hp]
    refine wvf (nI_ge (by omega) (by omega)) ?_
    obtain ⟨j, hj, ej⟩ := pk_andE (p >>> (((2 : Int32) + ((2 : Int32) * nI k)) &&& 31)) (m := 3) 2 (by decide)
    have eL : (2 : Int32) + ((p >>> (((2 : Int32) + ((2 : Int32) * nI k)) &&& 31)) &&& (3 : Int32)) = nI (2 + j) := by
      rw [ej, show (2 : Int32) = nI 2 from rfl, nI_add]
    have go : ∀ kw m, (kw = 5 ∨ kw = 6) → wTp n0 N h H hd K Z (wtt (((4, 0) :: (wnm n ++ [(3, 0)])) ++ (wss ss ++ (kw, 0) :: ([] : List Nat).map (fun q => (1, q))))) m → (wtt (((4, 0) :: (wnm n ++ [(3, 0)])) ++ (wss ss ++ (kw, 0) :: ([] : List Nat).map (fun q => (1, q))))).length ≤ 60 + 30 * k + 4 → wV (wTJ n n0 N h H hd K Z) (bL_told_0_107 (nI n) p q (nI k) 0 m) := by
      intro kw m hkw hT hl2
      refine t_107 hn h0 hkw p q (L := 2 + j) (by omega) eL (B := 60 + 30 * k + 4) (by omega) (fun ns h1 h2 m hT hl3 => ?_) (2 + j) 0 [] m (Nat.zero_add _) rfl (fun x hx => absurd hx List.not_mem_nil) (by omega) hT
      have e : wss (ss ++ [(kw, ns)]) = wss ss ++ wsg (kw, ns) := by
        rw [wss_a]
        show wss ss ++ (wsg (kw, ns) ++ []) = _
        rw [List.append_nil]
      refine ih (k + 1) (ss ++ [(kw, ns)]) m (by omega) (by rw [List.length_append, hs]; rfl) (fun s hs' => ?_) (by rw [e]; omega) (by rw [e]; exact hT)
      rcases List.mem_append.mp hs' with hx | hx
      · exact hok s hx
      · rw [List.mem_singleton.mp hx]
        exact ⟨hkw, by show 2 ≤ ns.length; omega, by show ns.length ≤ 5; omega, h2⟩
    have e1 : ∀ kw, ((4, 0) :: (wnm n ++ [(3, 0)])) ++ (wss ss ++ (kw, 0) :: ([] : List Nat).map (fun q => (1, q))) = (((4, 0) :: (wnm n ++ [(3, 0)])) ++ wss ss) ++ [(kw, 0)] := fun kw => by
      rw [List.append_assoc]
      rfl
    by_cases c : ((q >>> (nI k &&& 31)) &&& (1 : Int32)) = 0
    · refine wvt c ?_
      refine wv (q_way hT (by omega)) fun m hT => ?_
      refine go 5 m (Or.inl rfl) (by rw [e1, wtt_1]; exact hT) ?_
      rw [e1, wtt_1, List.length_append]
      show _ + 3 ≤ _
      omega
    · refine wvf c ?_
      refine wv (q_heap hT (by omega)) fun m hT => ?_
      refine go 6 m (Or.inr rfl) (by rw [e1, wtt_1]; exact hT) ?_
      rw [e1, wtt_1, List.length_append]
      show _ + 4 ≤ _
      omega
theorem t_15 (hn : n ≤ 8) (p q : Int32) : ∀ (d k : Nat) (m : xmm), k + d = n → (wtt ((4, 0) :: wnm k)).length ≤ 5 + 3 * k → wTp n0 N h H hd K Z (wtt ((4, 0) :: wnm k)) m → wV (wTJ n n0 N h H hd K Z) (bL_told_0_15 (nI n) p q (nI k) m) := by
  intro d
  induction d with
  | zero =>
    intro k m hk hl hT
    have e : k = n := by omega
    subst e
    refine wvb (fun _ e => bL_told_0_15_i _ _ _ _ _ e) (wvt (nI_le (Nat.le_refl _) (by omega)) ?_)
    refine wv (q_sgn hT (by omega) (c := 59) (by decide)) fun m hT => ?_
    have e : wtt ((4, 0) :: (wnm k ++ [(3, 0)])) = wtt ((4, 0) :: wnm k) ++ [59] := wtt_1 ((4, 0) :: wnm k) (3, 0)
    rw [← e] at hT
    have hl2 : (wtt ((4, 0) :: (wnm k ++ [(3, 0)]))).length ≤ 6 + 3 * k := by
      rw [e, List.length_append]
      show _ + 1 ≤ _
      omega
    by_cases h0 : k = 0
    · refine wvt (show nI k = 0 by rw [h0]; rfl) ⟨m, rfl, (4, 0) :: (wnm k ++ [(3, 0)]), ⟨[], [], ?_, by decide, fun s hs => absurd hs List.not_mem_nil, Or.inl rfl⟩, hT⟩
      show _ = _ ++ ([] ++ [])
      rw [List.append_nil, List.append_nil]
    · refine wvf (nI_ne0 (by omega) (by omega)) ?_
      obtain ⟨r, hr, er⟩ := pk_andE p (m := 3) 2 (by decide)
      have e0 : ((4, 0) :: (wnm k ++ [(3, 0)])) ++ wss [] = (4, 0) :: (wnm k ++ [(3, 0)]) := List.append_nil _
      refine t_62 hn (by omega) p q (by omega) er r 0 [] m (Nat.zero_add r) rfl (fun s hs => absurd hs List.not_mem_nil) (by rw [e0]; omega) (by rw [e0]; exact hT)
  | succ d ih =>
    intro k m hk hl hT
    refine wvb (fun _ e => bL_told_0_15_i _ _ _ _ _ e) (wvf (nI_ge (by omega) (by omega)) ?_)
    refine wv (q_sgn hT (by omega) (c := 32) (by decide)) fun m hT => ?_
    refine wv (q_sgn hT (by rw [List.length_append]; show _ + 1 + 20 ≤ _; omega) (c := 114) (by decide)) fun m hT => ?_
    rw [show (97 : Int32) = nI 97 from rfl, nI_add, nI_1]
    refine wv (q_sgn hT (by rw [List.length_append, List.length_append]; show _ + 1 + 1 + 20 ≤ _; omega) (c := 97 + k) (by omega)) fun m hT => ?_
    have e : wtt ((4, 0) :: wnm (k + 1)) = ((wtt ((4, 0) :: wnm k) ++ [32]) ++ [114]) ++ [97 + k] := by
      rw [wnm_s]
      have := wtt_1 ((4, 0) :: wnm k) (1, k)
      rw [List.cons_append] at this
      rw [this, List.append_assoc, List.append_assoc]
      rfl
    rw [← e] at hT
    refine ih (k + 1) m (by omega) ?_ hT
    rw [e, List.length_append, List.length_append, List.length_append]
    show _ + 1 + 1 + 1 ≤ _
    omega
theorem s_told (hn : n ≤ 8) (p q : Int32) {m : xmm} (hT : wTp n0 N h H hd K Z [] m) : wV (wTJ n n0 N h H hd K Z) (fL_told_0 (nI n) p q m) := by
  refine wvb (fun _ e => fL_told_0_i _ _ _ _ e) ?_
  refine wv (q_posts hT (by decide)) fun m hT => ?_
  exact t_15 hn p q n 0 m (Nat.zero_add n) (by decide) hT
end
