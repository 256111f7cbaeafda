/-! no answer is too great; the numbers of the law -/
theorem whc_le {α : Type} {P : α → Prop} {k M : Nat} (h : yhc P k) (f : α → Nat) (h1 : ∀ x, P x → f x < M) (h2 : ∀ x y, P x → P y → f x = f y → x = y) : k ≤ M := by
  obtain ⟨l, l1, l2, l3⟩ := h
  have hm : yhc (fun y => y ∈ l.map f) k := ⟨l.map f, ymap_nd l1 (fun x hx y hy => h2 x y ((l2 x).mp hx) ((l2 y).mp hy)), fun _ => Iff.rfl, by rw [List.length_map, l3]⟩
  have ha := wct_h (fun _ => True) M
  rw [wct_all] at ha
  refine wmono hm ha fun y hy => ?_
  obtain ⟨x, hx, e⟩ := List.mem_map.mp hy
  rw [← e]
  exact ⟨h1 x ((l2 x).mp hx), True.intro⟩
theorem wpr_lt {n : Nat} {R : Nat → Nat} (hG : yGr n R) (ho : yord (yad R)) : 0 < yPr (yad R) (2 ^ n - 1) ∧ yPr (yad R) (2 ^ n - 1) < 2 ^ 31 := by
  have hgd := yGr_gd hG
  have hh := wways_h hG ho
  refine ⟨Nat.pos_of_ne_zero ((yhc_ne hh).mpr ⟨_, yT_TO hgd ho 0⟩), Nat.lt_of_le_of_lt (m := 2 ^ 29) ?_ (by decide)⟩
  refine whc_le hh (fun T => ybs (fun i => ∃ k, yLI R i k ∧ T (k / 8) (k % 8)) 29) (fun T _ => ybs_lt _ 29) (fun T T2 hT hT2 e => ?_)
  have key : ∀ {T T2 : yG}, yTO (yad R) T → ybs (fun i => ∃ k, yLI R i k ∧ T (k / 8) (k % 8)) 29 = ybs (fun i => ∃ k, yLI R i k ∧ T2 (k / 8) (k % 8)) 29 → ∀ p q, p < q → T p q → T2 p q := by
    intro T T2 hT e p q hpq ht
    have hl := hT.1 _ _ ht
    have h8 := hgd.2.2 p q hl
    have d1 : (8 * p + q) / 8 = p := by omega
    have d2 : (8 * p + q) % 8 = q := by omega
    have hLa : yLa R (8 * p + q) := ⟨by show yad R ((8 * p + q) / 8) ((8 * p + q) % 8); rw [d1, d2]; exact hl, by rw [d1, d2]; exact hpq⟩
    have hLI : yLI R (yli R (8 * p + q)) (8 * p + q) := ⟨by omega, hLa, rfl⟩
    have h28 := yli_b R (k := 8 * p + q) (by omega)
    have hb : yb (ybs (fun i => ∃ k, yLI R i k ∧ T (k / 8) (k % 8)) 29) (yli R (8 * p + q)) := yb_bs.mpr ⟨by omega, _, hLI, by rw [d1, d2]; exact ht⟩
    rw [e] at hb
    obtain ⟨-, k', hk', ht'⟩ := yb_bs.mp hb
    have := yLI_u hk' hLI
    subst this
    rw [d1, d2] at ht'
    exact ht'
  have k1 := key (T2 := T2) hT e
  have k2 := key (T2 := T) hT2 e.symm
  funext p q
  refine propext ⟨fun ht => ?_, fun ht => ?_⟩
  · rcases Nat.lt_trichotomy p q with c | c | c
    · exact k1 p q c ht
    · rw [c] at ht; exact absurd (hT.1 _ _ ht) (hG.2.2.2.2 q)
    · rcases hT2.2.1 p q (hT.1 _ _ ht) with g | g
      · exact g
      · exact absurd (k2 q p c g) (hT.2.2.1 _ _ ht)
  · rcases Nat.lt_trichotomy p q with c | c | c
    · exact k2 p q c ht
    · rw [c] at ht; exact absurd (hT2.1 _ _ ht) (hG.2.2.2.2 q)
    · rcases hT.2.1 p q (hT2.1 _ _ ht) with g | g
      · exact g
      · exact absurd (k1 q p c g) (hT2.2.2.1 _ _ ht)
theorem wck_lt {n : Nat} (hn : n ≤ 8) (R : Nat → Nat) : yck R 3 (2 ^ n - 1) < 2 ^ 31 := by
  refine Nat.lt_of_le_of_lt (m := 2 ^ 16) ?_ (by decide)
  refine whc_le (yck_h R 3 (2 ^ n - 1)) (fun f => ybs (fun i => (i % 2 = 0 ∧ f (i / 2) = 1) ∨ (i % 2 = 1 ∧ f (i / 2) = 2)) 16) (fun f _ => ybs_lt _ 16) (fun f g hf hg e => ?_)
  funext q
  by_cases hq : q < n
  · have bit : ∀ i, i < 16 → (((i % 2 = 0 ∧ f (i / 2) = 1) ∨ (i % 2 = 1 ∧ f (i / 2) = 2)) ↔ ((i % 2 = 0 ∧ g (i / 2) = 1) ∨ (i % 2 = 1 ∧ g (i / 2) = 2))) := fun i hi => by
      have a : yb (ybs (fun i => (i % 2 = 0 ∧ f (i / 2) = 1) ∨ (i % 2 = 1 ∧ f (i / 2) = 2)) 16) i ↔ yb (ybs (fun i => (i % 2 = 0 ∧ g (i / 2) = 1) ∨ (i % 2 = 1 ∧ g (i / 2) = 2)) 16) i := by
        have e : ybs (fun i => (i % 2 = 0 ∧ f (i / 2) = 1) ∨ (i % 2 = 1 ∧ f (i / 2) = 2)) 16 = ybs (fun i => (i % 2 = 0 ∧ g (i / 2) = 1) ∨ (i % 2 = 1 ∧ g (i / 2) = 2)) 16 := e
        rw [e]
      rw [yb_bs, yb_bs] at a
      exact ⟨fun h => (a.mp ⟨hi, h⟩).2, fun h => (a.mpr ⟨hi, h⟩).2⟩
    have b0 := bit (2 * q) (by omega)
    have b1 := bit (2 * q + 1) (by omega)
    rw [show 2 * q / 2 = q by omega] at b0
    rw [show (2 * q + 1) / 2 = q by omega] at b1
    have f3 := hf.2.1 q (yall_b.mpr hq)
    have g3 := hg.2.1 q (yall_b.mpr hq)
    omega
  · rw [hf.1 q (fun h => hq (yall_b.mp h)), hg.1 q (fun h => hq (yall_b.mp h))]
theorem wwl_le {R : Nat → Nat} (hG : yGd R) {x : Nat} (h64 : x < 64) (hx : yar R x) : ywl R x ≤ 64 := by
  by_cases ho : yodd (yad R) (yan x)
  · obtain ⟨h1, h2⟩ := ywl_d hG h64 ho
    have h1 : ycl (yad R) (yan (ytn x)) (yan x) := h1
    have h2 : ywl R x = ydt (yad R) (yan (ytn x)) (yan x) + 1 := h2
    have t2 : yar R (ytn x) := (wtn_ar hG h64 hx).2.1
    have hok := ywk_ok hG t2 h1 h64
    rw [h2, ← wct_all (ydt (yad R) (yan (ytn x)) (yan x) + 1)]
    refine winj 64 (fun k => ywk R (ytn x) x k) (fun q hq _ => (hok q (by omega)).1) (fun q r hq hr _ _ e => ?_)
    have a := (hok q (by omega)).2.2
    have b := (hok r (by omega)).2.2
    have e : ywk R (ytn x) x q = ywk R (ytn x) x r := e
    rw [e] at a
    omega
  · unfold ywl
    rw [yif_f ho]
    omega
theorem wln_28 {R : Nat → Nat} (hG : yGd R) : yln R ≤ 28 := by
  rw [yli_tot hG]
  exact yli_b R (Nat.le_refl 64)
theorem wK_64 (R : Nat → Nat) : yK R ≤ 64 ∧ yKo R ≤ 64 := ⟨yct_le _ _, yct_le _ _⟩
/-! numbers -/
theorem wmd2 {a : Nat} (h : a < 2 ^ 31) : nI a - nI a / (2 : Int32) * (2 : Int32) = nI (a % 2) := pk_rem (d := 2) h (by decide) (by decide)
theorem wsh {a k : Nat} (ha : a < 2 ^ 31) (hk : k < 32) (x : Int32) (hx : x = nI k) : nI a >>> (x &&& 31) = nI (a / 2 ^ k) := by rw [hx]; exact yI_shr ha hk
theorem w01 : ¬ (0 : Int32) = 1 := by decide
theorem w10 : ¬ (1 : Int32) = 0 := by decide
theorem w00 : (0 : Int32) ≤ 0 := by decide
theorem e_net0 {n : Nat} {N : yNW} : yaNet n N 0 = yP (yord (yad N.1)) := rfl
theorem e_net1 {n : Nat} {N : yNW} : yaNet n N 1 = nI (yK N.1) := rfl
theorem e_net2 {n : Nat} {N : yNW} : yaNet n N 2 = nI (yKo N.1) := rfl
theorem e_net3 {n : Nat} {N : yNW} : yaNet n N 3 = yif (yord (yad N.1)) (nI (yPr (yad N.1) (2 ^ n - 1))) 0 := rfl
theorem e_net4 {n : Nat} {N : yNW} : yaNet n N 4 = yif (yord (yad N.1)) (nI (yN N.1 N.2)) (-2) := rfl
theorem e_net5 {n : Nat} {N : yNW} : yaNet n N 5 = yP (yord (yad N.1) ∧ yord (yad (yop n N.1))) := rfl
theorem e_net6 {n : Nat} {N : yNW} : yaNet n N 6 = yP (yord (yad (yop n N.1))) := rfl
theorem e_net7 {n : Nat} {N : yNW} : yaNet n N 7 = nI (ypt (yad N.1) (2 ^ n - 1)) := rfl
section
variable {n : Nat} {N : yNW} {h : Nat} {hd : Nat → Prop} {len : Nat}
theorem e_cnt0 : yaCnt n N h hd len 0 = nI n := rfl
theorem e_cnt1 : yaCnt n N h hd len 1 = nI (yln N.1) := rfl
theorem e_cnt2 : yaCnt n N h hd len 2 = nI (ycnt (ymo (yad N.1) (2 ^ n - 1)) n) := rfl
theorem e_cnt3 : yaCnt n N h hd len 3 = nI (ycnt (yrd N.1) n) := rfl
theorem e_cnt4 : yaCnt n N h hd len 4 = nI (ycnt (ychn N.1) n) := rfl
theorem e_cnt5 : yaCnt n N h hd len 5 = nI (ycnt (yap N.1) n) := rfl
theorem e_cnt6 : yaCnt n N h hd len 6 = nI (yLk N.1 N.1 n) := rfl
theorem e_cnt7 : yaCnt n N h hd len 7 = nI N.2 := rfl
theorem e_cnt9 : yaCnt n N h hd len 9 = nI h := rfl
theorem e_cnt10 : yaCnt n N h hd len 10 = nI (ypp (ybs hd 3)) := rfl
end
