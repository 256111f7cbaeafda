/-! arrowed class by class -/
noncomputable def ylo (L : Nat → Nat) : Nat := @dite Nat (∃ k, yar L k) (Classical.propDecidable _) (fun h => Classical.choose (yleast h)) (fun _ => 64)
theorem ylo_s {L : Nat → Nat} (h : ∃ k, yar L k) : yar L (ylo L) ∧ ∀ j, j < ylo L → ¬ yar L j := by
  have e : ylo L = Classical.choose (yleast h) := by unfold ylo; exact dif_pos h
  rw [e]
  exact Classical.choose_spec (yleast h)
theorem ylo_eq {L : Nat → Nat} {k : Nat} (h : yar L k) (h2 : ∀ j, j < k → ¬ yar L j) : ylo L = k := by
  obtain ⟨h3, h4⟩ := ylo_s ⟨k, h⟩
  rcases Nat.lt_trichotomy (ylo L) k with e | e | e
  · exact absurd h3 (h2 _ e)
  · exact e
  · exact absurd h (h4 _ e)
/-- the rows when a class is gone -/
noncomputable def ylr (L : Nat → Nat) (x : Nat) : Nat → Nat := fun a => ybs (fun c => yb (L a) c ∧ ¬ ycl (yad L) (yan x) (a, c) ∧ ¬ ycl (yad L) (yan x) (c, a)) 8
theorem ylr_ad {L : Nat → Nat} (hL : yGd L) (x : Nat) : yad (ylr L x) = yle (yad L) (yan x) := by
  funext a c
  apply propext
  show yb (ybs _ 8) c ↔ _
  rw [yb_bs]
  constructor
  · intro h; exact h.2
  · intro h; exact ⟨(hL.2.2 _ _ h.1).2, h⟩
theorem ylr_gd {L : Nat → Nat} (hL : yGd L) (x : Nat) : yGd (ylr L x) := by
  refine ⟨fun p _ => ybs_lt _ 8, ?_, ?_⟩
  · rw [ylr_ad hL]; exact yle_sy hL.2.1 _
  · rw [ylr_ad hL]; intro a b h; exact hL.2.2 a b h.1
def ysq (b i x : Nat) : Nat := if i = 0 ∧ b = 1 then ytn x else x
noncomputable def yLs (R : Nat → Nat) (b : Nat) : Nat → Nat → Nat
  | 0 => R
  | i + 1 => yif (∃ k, yar (yLs R b i) k) (ylr (yLs R b i) (ysq b i (ylo (yLs R b i)))) (yLs R b i)
theorem yLs_s (R : Nat → Nat) (b i : Nat) : yLs R b (i + 1) = yif (∃ k, yar (yLs R b i) k) (ylr (yLs R b i) (ysq b i (ylo (yLs R b i)))) (yLs R b i) := rfl
theorem yLs_gd {R : Nat → Nat} (hR : yGd R) (b : Nat) : ∀ i, yGd (yLs R b i)
  | 0 => hR
  | i + 1 => by
    rw [yLs_s]
    by_cases h : ∃ k, yar (yLs R b i) k
    · rw [yif_t h]; exact ylr_gd (yLs_gd hR b i) _
    · rw [yif_f h]; exact yLs_gd hR b i
/-- the class of step i -/
def ycli (R : Nat → Nat) (b i : Nat) (x : yA) : Prop := (∃ k, yar (yLs R b i) k) ∧ ycl (yad (yLs R b i)) (yan (ysq b i (ylo (yLs R b i)))) x
theorem yLs_ad {R : Nat → Nat} (hR : yGd R) (b i : Nat) {a c : Nat} : yad (yLs R b (i + 1)) a c ↔ yad (yLs R b i) a c ∧ ¬ ycli R b i (a, c) ∧ ¬ ycli R b i (c, a) := by
  rw [yLs_s]
  by_cases h : ∃ k, yar (yLs R b i) k
  · rw [yif_t h, ylr_ad (yLs_gd hR b i)]
    constructor
    · rintro ⟨h1, h2, h3⟩
      exact ⟨h1, fun e => h2 e.2, fun e => h3 e.2⟩
    · rintro ⟨h1, h2, h3⟩
      exact ⟨h1, fun e => h2 ⟨h, e⟩, fun e => h3 ⟨h, e⟩⟩
  · rw [yif_f h]
    exact ⟨fun h1 => ⟨h1, fun e => h e.1, fun e => h e.1⟩, fun h1 => h1.1⟩
theorem ysq_or (b i x : Nat) : ysq b i x = x ∨ ysq b i x = ytn x := by
  unfold ysq
  by_cases h : i = 0 ∧ b = 1
  · rw [if_pos h]; exact Or.inr rfl
  · rw [if_neg h]; exact Or.inl rfl
theorem ysq_ar {L : Nat → Nat} (hL : yGd L) (b i : Nat) (h : ∃ k, yar L k) : ysq b i (ylo L) < 64 ∧ yar L (ysq b i (ylo L)) := by
  have h1 := (ylo_s h).1
  have h2 := yar_64 hL h1
  rcases ysq_or b i (ylo L) with e | e
  · rw [e]; exact ⟨h2, h1⟩
  · rw [e]
    refine ⟨ytn_lt h2, ?_⟩
    unfold yar
    rw [ytn_an h2]
    exact hL.2.1.1 _ _ h1
theorem ycli_g {R : Nat → Nat} (hR : yGd R) {b i : Nat} {x : yA} (h : ycli R b i x) : yad (yLs R b i) x.1 x.2 := ycl_e h.2 (ysq_ar (yLs_gd hR b i) b i h.1).2
/-- the least line goes -/
theorem yLs_lo {R : Nat → Nat} (hR : yGd R) {b i : Nat} (h : ∃ k, yar (yLs R b i) k) : ∀ j, j ≤ ylo (yLs R b i) → ¬ yar (yLs R b (i + 1)) j := by
  intro j hj ha
  have h1 := (yLs_ad hR b i).mp ha
  have h2 := ylo_s h
  have h3 := yar_64 (yLs_gd hR b i) h2.1
  rcases Nat.lt_or_ge j (ylo (yLs R b i)) with e | e
  · exact h2.2 j e h1.1
  · have e : j = ylo (yLs R b i) := by omega
    subst e
    rcases ysq_or b i (ylo (yLs R b i)) with e | e
    · exact h1.2.1 ⟨h, by rw [e]; exact ycl_r _ _⟩
    · exact h1.2.2 ⟨h, by rw [e, ytn_an h3]; exact ycl_r _ _⟩
theorem yLs_ge {R : Nat → Nat} (hR : yGd R) (b : Nat) : ∀ i, (∀ j, j < i → ¬ yar (yLs R b i) j)
  | 0 => fun j h => absurd h (Nat.not_lt_zero j)
  | i + 1 => by
    intro j hj ha
    have h1 := ((yLs_ad hR b i).mp ha).1
    have hex : ∃ k, yar (yLs R b i) k := ⟨j, h1⟩
    rcases Nat.lt_or_ge j i with e | e
    · exact yLs_ge hR b i j e h1
    · have e : j = i := by omega
      subst e
      refine yLs_lo hR hex j ?_ ha
      rcases Nat.lt_or_ge (ylo (yLs R b j)) j with e2 | e2
      · exact absurd (ylo_s hex).1 (yLs_ge hR b j _ e2)
      · exact e2
theorem yN_ex {R : Nat → Nat} (hR : yGd R) (b : Nat) : ∃ i, ¬ ∃ k, yar (yLs R b i) k := ⟨64, fun ⟨k, hk⟩ => yLs_ge hR b 64 k (yar_64 (yLs_gd hR b 64) hk) hk⟩
noncomputable def yN (R : Nat → Nat) (b : Nat) : Nat := @dite Nat (∃ i, ¬ ∃ k, yar (yLs R b i) k) (Classical.propDecidable _) (fun h => Classical.choose (yleast h)) (fun _ => 0)
theorem yN_s {R : Nat → Nat} (hR : yGd R) (b : Nat) : (¬ ∃ k, yar (yLs R b (yN R b)) k) ∧ ∀ j, j < yN R b → ∃ k, yar (yLs R b j) k := by
  have e : yN R b = Classical.choose (yleast (yN_ex hR b)) := by unfold yN; exact dif_pos (yN_ex hR b)
  have h := Classical.choose_spec (yleast (yN_ex hR b))
  rw [e]
  exact ⟨h.1, fun j hj => Classical.byContradiction fun hn => h.2 j hj hn⟩
theorem yN_eq {R : Nat → Nat} (hR : yGd R) {b i : Nat} (h1 : ¬ ∃ k, yar (yLs R b i) k) (h2 : ∀ j, j < i → ∃ k, yar (yLs R b j) k) : yN R b = i := by
  obtain ⟨h3, h4⟩ := yN_s hR b
  rcases Nat.lt_trichotomy (yN R b) i with e | e | e
  · exact absurd (h2 _ e) h3
  · exact e
  · exact absurd (h4 _ e) h1
theorem yN_64 {R : Nat → Nat} (hR : yGd R) (b : Nat) : yN R b ≤ 64 := by
  rcases Nat.lt_or_ge 64 (yN R b) with e | e
  · obtain ⟨k, hk⟩ := (yN_s hR b).2 64 e
    exact absurd hk (yLs_ge hR b 64 k (yar_64 (yLs_gd hR b 64) hk))
  · exact e
def yTi (R : Nat → Nat) (b i : Nat) : yG := fun a c => ∃ j, j < i ∧ ycli R b j (a, c)
/-- ARROWED -/
noncomputable def yT (R : Nat → Nat) (b : Nat) : yG := yTi R b (yN R b)
/-- STEP of a line -/
noncomputable def yse (R : Nat → Nat) (b k : Nat) : Nat := @dite Nat (∃ i, ¬ yar (yLs R b (i + 1)) k) (Classical.propDecidable _) (fun h => Classical.choose (yleast h)) (fun _ => 0)
theorem yLs_mo {R : Nat → Nat} (hR : yGd R) {b i : Nat} {a c : Nat} : ∀ d, yad (yLs R b (i + d)) a c → yad (yLs R b i) a c
  | 0 => id
  | d + 1 => fun h => yLs_mo hR d ((yLs_ad hR b (i + d)).mp h).1
theorem yse_eq {R : Nat → Nat} (hR : yGd R) {b i k : Nat} (h1 : yar (yLs R b i) k) (h2 : ¬ yar (yLs R b (i + 1)) k) : yse R b k = i := by
  have hex : ∃ i, ¬ yar (yLs R b (i + 1)) k := ⟨i, h2⟩
  have e : yse R b k = Classical.choose (yleast hex) := by unfold yse; exact dif_pos hex
  have h := Classical.choose_spec (yleast hex)
  rw [e]
  rcases Nat.lt_trichotomy (Classical.choose (yleast hex)) i with e2 | e2 | e2
  · obtain ⟨d, hd⟩ := Nat.exists_eq_add_of_lt e2
    refine absurd ?_ h.1
    refine yLs_mo hR d ?_
    rw [show Classical.choose (yleast hex) + 1 + d = i by omega]
    exact h1
  · exact e2
  · exact absurd h2 (fun hn => h.2 i e2 hn)
/-- rows of a relation -/
noncomputable def yro (T : yG) : Nat → Nat := fun a => ybs (fun c => T a c) 8
noncomputable def yci (T : yG) : Nat → Nat := fun c => ybs (fun a => T a c) 8
theorem yro_lt (T : yG) (a : Nat) : yro T a < 256 := ybs_lt _ 8
theorem yci_lt (T : yG) (a : Nat) : yci T a < 256 := ybs_lt _ 8
theorem ybs_o1 {P : Nat → Prop} {c : Nat} (hc : c < 8) : ybs P 8 ||| 2 ^ c = ybs (fun x => P x ∨ x = c) 8 := by
  apply ytb_ext
  intro i
  have e1 := yb_or (A := ybs P 8) (B := 2 ^ c) (a := i)
  unfold yb at e1
  rw [e1]
  show yb _ i ∨ yb _ i ↔ yb _ i
  rw [yb_bs, yb_bs, yb_pw]
  constructor
  · rintro (h | h)
    · exact ⟨h.1, Or.inl h.2⟩
    · exact ⟨by omega, Or.inr h⟩
  · rintro ⟨h, h2 | h2⟩
    · exact Or.inl ⟨h, h2⟩
    · exact Or.inr h2
theorem ybs_n1 {P : Nat → Prop} {c : Nat} : ynd (ybs P 8) (2 ^ c) = ybs (fun x => P x ∧ x ≠ c) 8 := by
  apply ytb_ext
  intro i
  have e1 := yb_nd (A := ybs P 8) (B := 2 ^ c) (a := i)
  unfold yb at e1
  rw [e1]
  show yb _ i ∧ ¬ yb _ i ↔ yb _ i
  rw [yb_bs, yb_bs, yb_pw, and_assoc]
/-- stage i of it in cells -/
def yAI (R : Nat → Nat) (b i lf ab st ob fi : Nat) (m : xmm) : Prop := yrw lf (yLs R b i) m ∧ yrw ab (yro (yTi R b i)) m ∧ (∀ k, k < 64 → yar R k → ¬ yar (yLs R b i) k → m.1 st k = nI (yse R b k)) ∧ m.1 ob fi = nI i ∧ ∀ j, j < i → ∃ k, yar (yLs R b j) k
theorem s_tc_l_109 {L A : Nat → Nat} (hA : ∀ p, p < 8 → A p < 256) {n : Nat} {f : Nat → Nat} {s : Nat} (hs : s ≤ 64) (hf : ∀ j, j < s → f j < 64) : ∀ (d i : Nat) (m : xmm), i + d = s → m.1 110 2 = nI s → (∀ j, j < s → m.1 112 j = nI (f j)) → m.1 109 4 = nI n → (∀ a, a < 8 → m.1 113 a = nI (ybs (fun c => yb (L a) c ∧ ∀ j, j < i → yan (f j) ≠ (a, c) ∧ yan (f j) ≠ (c, a)) 8)) → (∀ a, a < 8 → m.1 114 a = nI (ybs (fun c => yb (A a) c ∨ ∃ j, j < i ∧ yan (f j) = (a, c)) 8)) → ∃ m', bX0_takeClass_109_14 (nI i) m = some m' ∧ m'.1 109 4 = nI (n + 1) ∧ (∀ a, a < 8 → m'.1 113 a = nI (ybs (fun c => yb (L a) c ∧ ∀ j, j < s → yan (f j) ≠ (a, c) ∧ yan (f j) ≠ (c, a)) 8)) ∧ (∀ a, a < 8 → m'.1 114 a = nI (ybs (fun c => yb (A a) c ∨ ∃ j, j < s ∧ yan (f j) = (a, c)) 8)) ∧ (∀ z, z < 64 → m'.1 115 z = yif (∃ j, i ≤ j ∧ j < s ∧ (f j = z ∨ ytn (f j) = z)) (nI n) (m.1 115 z)) ∧ yfr [109, 113, 114, 115] m m' := by
  intro d
  induction d with
  | zero =>
    intro i m hi h1 h2 h3 h4 h5
    have e : i = s := by omega
    subst e
    refine ⟨xwi m 109 4 (nI (n + 1)), ?_, by rw [xwi_e], fun a ha => by rw [xwi_k (by decide)]; exact h4 a ha, fun a ha => by rw [xwi_k (by decide)]; exact h5 a ha, fun z hz => ?_, yfr_w yfr_r (by decide)⟩
    · apply bX0_takeClass_109_14_i
      simp (disch := omega) only [yl3, yl4, yl5, yl6, yl7, yl8, yl9, yl10, yl13, yl16, yl20, yl21, yl22, yl23, yl24, yl32, yl40, yl48, yl57, yl59, yl63, yl64, yl97, yl99, yl122, yl255, yl256, yl400, yl1000, yl2000, yl2048, yc0_eq, yc0_eq2, yc0_le, yc0_ge, yc0_lt, yc0_gt, yc0_ad, yc0_da, yc0_sb, yc0_ml, yc0_lm, yc1_eq, yc1_eq2, yc1_le, yc1_ge, yc1_lt, yc1_gt, yc1_ad, yc1_da, yc1_sb, yc1_ml, yc1_lm, yc2_eq, yc2_eq2, yc2_le, yc2_ge, yc2_lt, yc2_gt, yc2_ad, yc2_da, yc2_sb, yc2_ml, yc2_lm, yc31_ge, ymodn, yI_1sl, yc2_dv, yn1_eq, yn1_lt, xgd_t, xlt_e, Option.bind_some, nI_add, pk_mul, pk_sub, pk_div, pk_rem, yI_and, yI_or, yI_xor, yI_nd, yI_nd2, yI_31, yI_shl, nI_leI, nI_ltI, nI_eq, nI_clamp, xinb_t, yP_z, yP_if, h1, h3, if_pos]
    · rw [xwi_k (by decide), yif_f]
      rintro ⟨j, j1, j2, _⟩
      omega
  | succ d ih =>
    intro i m hi h1 h2 h3 h4 h5
    have hu := hf i (by omega)
    have ha8 : f i / 8 < 8 := by omega
    have hb8 : f i % 8 < 8 := by omega
    have ht := ytn_lt hu
    have hya : yan (f i) = (f i / 8, f i % 8) := rfl
    obtain ⟨m', e1, e2, e3, e4, e5, e6⟩ := ih (i + 1) (xwi (xwi (xwi (xwi (xwi m 114 (f i / 8) (nI (ybs (fun c => yb (A (f i / 8)) c ∨ ∃ j, j < i + 1 ∧ yan (f j) = (f i / 8, c)) 8))) 115 (f i) (nI n)) 115 (ytn (f i)) (nI n)) 113 (f i / 8) (nI (ynd (ybs (fun c => yb (L (f i / 8)) c ∧ ∀ j, j < i → yan (f j) ≠ (f i / 8, c) ∧ yan (f j) ≠ (c, f i / 8)) 8) (2 ^ (f i % 8))))) 113 (f i % 8) (nI (ybs (fun c => yb (L (f i % 8)) c ∧ ∀ j, j < i + 1 → yan (f j) ≠ (f i % 8, c) ∧ yan (f j) ≠ (c, f i % 8)) 8))) (by omega)
      (by rw [xwi_k (by decide), xwi_k (by decide), xwi_k (by decide), xwi_k (by decide), xwi_k (by decide)]; exact h1)
      (fun j hj => by rw [xwi_k (by decide), xwi_k (by decide), xwi_k (by decide), xwi_k (by decide), xwi_k (by decide)]; exact h2 j hj)
      (by rw [xwi_k (by decide), xwi_k (by decide), xwi_k (by decide), xwi_k (by decide), xwi_k (by decide)]; exact h3)
      (fun a ha => by
        by_cases ea : a = f i % 8
        · subst ea; rw [xwi_e]
        · rw [xwi_i ea]
          by_cases eb : a = f i / 8
          · subst eb
            rw [xwi_e, ybs_n1]
            congr 1
            apply ybs_c
            intro c hc
            constructor
            · rintro ⟨⟨q1, q2⟩, q3⟩
              refine ⟨q1, fun j hj => ?_⟩
              by_cases ej : j = i
              · subst ej
                rw [hya]
                exact ⟨fun e => q3 (congrArg Prod.snd e).symm, fun e => ea (congrArg Prod.snd e).symm⟩
              · exact q2 j (by omega)
            · rintro ⟨q1, q2⟩
              refine ⟨⟨q1, fun j hj => q2 j (by omega)⟩, fun e => ?_⟩
              have := (q2 i (by omega)).1
              rw [hya, e] at this
              exact this rfl
          · rw [xwi_i eb, xwi_k (by decide), xwi_k (by decide), xwi_k (by decide), h4 a ha]
            congr 1
            apply ybs_c
            intro c hc
            constructor
            · rintro ⟨q1, q2⟩
              refine ⟨q1, fun j hj => ?_⟩
              by_cases ej : j = i
              · subst ej
                rw [hya]
                exact ⟨fun e => eb (congrArg Prod.fst e).symm, fun e => ea (congrArg Prod.snd e).symm⟩
              · exact q2 j (by omega)
            · rintro ⟨q1, q2⟩
              exact ⟨q1, fun j hj => q2 j (by omega)⟩)
      (fun a ha => by
        rw [xwi_k (by decide), xwi_k (by decide), xwi_k (by decide), xwi_k (by decide)]
        by_cases eb : a = f i / 8
        · subst eb; rw [xwi_e]
        · rw [xwi_i eb, h5 a ha]
          congr 1
          apply ybs_c
          intro c hc
          constructor
          · rintro (q | ⟨j, j1, j2⟩)
            · exact Or.inl q
            · exact Or.inr ⟨j, by omega, j2⟩
          · rintro (q | ⟨j, j1, j2⟩)
            · exact Or.inl q
            · by_cases ej : j = i
              · subst ej; exact absurd (congrArg Prod.fst j2).symm eb
              · exact Or.inr ⟨j, by omega, j2⟩)
    refine ⟨m', ?_, e2, e3, e4, fun z hz => ?_, yfr_t (yfr_w (yfr_w (yfr_w (yfr_w (yfr_w yfr_r (by decide)) (by decide)) (by decide)) (by decide)) (by decide)) e6⟩
    · apply bX0_takeClass_109_14_i
      have o1 : nI (ybs (fun c => yb (A (f i / 8)) c ∨ ∃ j, j < i ∧ yan (f j) = (f i / 8, c)) 8 ||| 2 ^ (f i % 8)) = nI (ybs (fun c => yb (A (f i / 8)) c ∨ ∃ j, j < i + 1 ∧ yan (f j) = (f i / 8, c)) 8) := by
        rw [ybs_o1 hb8]
        congr 1
        apply ybs_c
        intro c hc
        constructor
        · rintro ((q | ⟨j, j1, j2⟩) | q)
          · exact Or.inl q
          · exact Or.inr ⟨j, by omega, j2⟩
          · exact Or.inr ⟨i, by omega, by rw [hya, q]⟩
        · rintro (q | ⟨j, j1, j2⟩)
          · exact Or.inl (Or.inl q)
          · by_cases ej : j = i
            · subst ej; exact Or.inr (congrArg Prod.snd j2).symm
            · exact Or.inl (Or.inr ⟨j, by omega, j2⟩)
      have last : (xwi (xwi (xwi (xwi m 114 (f i / 8) (nI (ybs (fun c => yb (A (f i / 8)) c ∨ ∃ j, j < i + 1 ∧ yan (f j) = (f i / 8, c)) 8))) 115 (f i) (nI n)) 115 (ytn (f i)) (nI n)) 113 (f i / 8) (nI (ynd (ybs (fun c => yb (L (f i / 8)) c ∧ ∀ j, j < i → yan (f j) ≠ (f i / 8, c) ∧ yan (f j) ≠ (c, f i / 8)) 8) (2 ^ (f i % 8))))).1 113 (f i % 8) &&& (nI (2 ^ (f i / 8)) ^^^ (-1 : Int32)) = nI (ybs (fun c => yb (L (f i % 8)) c ∧ ∀ j, j < i + 1 → yan (f j) ≠ (f i % 8, c) ∧ yan (f j) ≠ (c, f i % 8)) 8) := by
        by_cases eb : f i % 8 = f i / 8
        · rw [eb, xwi_e, yI_nd, ybs_n1, ybs_n1]
          congr 1
          apply ybs_c
          intro c hc
          constructor
          · rintro ⟨⟨⟨q1, q2⟩, q3⟩, q4⟩
            refine ⟨q1, fun j hj => ?_⟩
            by_cases ej : j = i
            · subst ej
              rw [hya]
              refine ⟨fun e => q3 ?_, fun e => q4 (congrArg Prod.fst e).symm⟩
              have e7 : f j % 8 = c := congrArg Prod.snd e
              exact e7.symm.trans eb
            · exact q2 j (by omega)
          · rintro ⟨q1, q2⟩
            have q3 := q2 i (by omega)
            rw [hya] at q3
            refine ⟨⟨⟨q1, fun j hj => q2 j (by omega)⟩, fun e => ?_⟩, fun e => ?_⟩
            · apply q3.1
              rw [e, eb]
            · apply q3.2
              rw [e, eb]
        · rw [xwi_i eb, xwi_k (by decide), xwi_k (by decide), xwi_k (by decide), h4 _ hb8, yI_nd, ybs_n1]
          congr 1
          apply ybs_c
          intro c hc
          constructor
          · rintro ⟨⟨q1, q2⟩, q3⟩
            refine ⟨q1, fun j hj => ?_⟩
            by_cases ej : j = i
            · subst ej
              rw [hya]
              exact ⟨fun e => eb (congrArg Prod.fst e).symm, fun e => q3 (congrArg Prod.fst e).symm⟩
            · exact q2 j (by omega)
          · rintro ⟨q1, q2⟩
            have q3 := q2 i (by omega)
            rw [hya] at q3
            refine ⟨⟨q1, fun j hj => q2 j (by omega)⟩, fun e => ?_⟩
            apply q3.2
            rw [e]
      simp (disch := omega) only [yl3, yl4, yl5, yl6, yl7, yl8, yl9, yl10, yl13, yl16, yl20, yl21, yl22, yl23, yl24, yl32, yl40, yl48, yl57, yl59, yl63, yl64, yl97, yl99, yl122, yl255, yl256, yl400, yl1000, yl2000, yl2048, yc0_eq, yc0_eq2, yc0_le, yc0_ge, yc0_lt, yc0_gt, yc0_ad, yc0_da, yc0_sb, yc0_ml, yc0_lm, yc1_eq, yc1_eq2, yc1_le, yc1_ge, yc1_lt, yc1_gt, yc1_ad, yc1_da, yc1_sb, yc1_ml, yc1_lm, yc2_eq, yc2_eq2, yc2_le, yc2_ge, yc2_lt, yc2_gt, yc2_ad, yc2_da, yc2_sb, yc2_ml, yc2_lm, yc31_ge, ymodn, yI_1sl, yc2_dv, yn1_eq, yn1_lt, xgd_t, xlt_e, Option.bind_some, nI_add, pk_mul, pk_sub, pk_div, pk_rem, yI_and, yI_or, yI_xor, yI_nd, yI_nd2, yI_31, yI_shl, nI_leI, nI_ltI, nI_eq, nI_clamp, xinb_t, yP_z, yP_if, if_neg, h1, h2 i (by omega), h5 _ ha8, xwi_k, h3, s_against', h4 _ ha8, o1, last]
      exact e1
    · rw [e5 z hz, xwi_k (by decide), xwi_k (by decide)]
      by_cases h : ∃ j, i + 1 ≤ j ∧ j < s ∧ (f j = z ∨ ytn (f j) = z)
      · obtain ⟨j, j1, j2, j3⟩ := h
        rw [yif_t ⟨j, j1, j2, j3⟩, yif_t ⟨j, by omega, j2, j3⟩]
      · rw [yif_f h]
        by_cases ez : z = ytn (f i)
        · subst ez
          rw [xwi_e, yif_t ⟨i, Nat.le_refl _, by omega, Or.inr rfl⟩]
        · rw [xwi_i ez]
          by_cases ez2 : z = f i
          · subst ez2
            rw [xwi_e, yif_t ⟨i, Nat.le_refl _, by omega, Or.inl rfl⟩]
          · rw [xwi_i ez2, xwi_k (by decide), yif_f]
            rintro ⟨j, j1, j2, j3⟩
            by_cases ej : j = i
            · subst ej
              rcases j3 with j3 | j3
              · exact ez2 j3.symm
              · exact ez j3.symm
            · exact h ⟨j, by omega, j2, j3⟩
theorem s_takeClass_109 {R : Nat → Nat} (hR : yGd R) {b i : Nat} (hi : i < 2 ^ 30) (hex : ∃ k, yar (yLs R b i) k) {m : xmm} (h : yAI R b i 113 114 115 109 4 m) : ∃ m', fX0_takeClass_109 (nI (ysq b i (ylo (yLs R b i)))) m = some m' ∧ yAI R b (i + 1) 113 114 115 109 4 m' ∧ yfr [109, 110, 111, 112, 113, 114, 115] m m' := by
  obtain ⟨h1, h2, h3, h4, h5⟩ := h
  have hL := yLs_gd hR b i
  obtain ⟨x64, xar⟩ := ysq_ar hL b i hex
  obtain ⟨m1, a1, ⟨f, s, b1, b2, b3, b4, b5, b6, b7⟩, a3⟩ := s_spread_110 (v := 113) rfl rfl (by decide) hL.1 hL.2.1 hL.2.2 x64 xar h1
  have fin : ∀ a c, a < 8 → c < 8 → ((∃ j, j < s ∧ yan (f j) = (a, c)) ↔ ycli R b i (a, c)) := by
    intro a c ha hc
    constructor
    · rintro ⟨j, j1, j2⟩
      have := (b3 j j1).2.2
      rw [j2] at this
      exact ⟨hex, this⟩
    · intro e
      have e2 : ycl (yad (yLs R b i)) (yan (ysq b i (ylo (yLs R b i)))) (yan (8 * a + c)) := by rw [yan_of hc]; exact e.2
      obtain ⟨j, j1, j2⟩ := b5 (8 * a + c) (by omega) e2
      exact ⟨j, j1, by rw [j2, yan_of hc]⟩
  obtain ⟨m', c1, c2, c3, c4, c5, c6⟩ := s_tc_l_109 (L := yLs R b i) (A := yro (yTi R b i)) (fun p _ => yro_lt _ p) (n := i) b1 (fun j hj => (b3 j hj).2.1) s 0 m1 (by omega) b2 (fun j hj => (b3 j hj).1) (by rw [yfr_1 a3 109 4 (by decide)]; exact h4) (fun a ha => by
      rw [yfr_1 a3 113 a (by decide), h1 a ha]
      congr 1
      apply ytb_ext
      intro c
      show yb _ c ↔ yb _ c
      rw [yb_bs]
      exact ⟨fun e => ⟨ytb_of (n := 8) (hL.1 a ha) e, e, fun j hj => absurd hj (Nat.not_lt_zero j)⟩, fun e => e.2.1⟩) (fun a ha => by
      rw [yfr_1 a3 114 a (by decide), h2 a ha]
      congr 1
      apply ytb_ext
      intro c
      show yb _ c ↔ yb _ c
      rw [yb_bs]
      exact ⟨fun e => ⟨ytb_of (n := 8) (yro_lt _ a) e, Or.inl e⟩, fun e => e.2.elim id fun ⟨j, hj, _⟩ => absurd hj (Nat.not_lt_zero j)⟩)
  refine ⟨m', ?_, ⟨fun a ha => ?_, fun a ha => ?_, fun k hk hka hkn => ?_, c2, fun j hj => ?_⟩, yfr_t (yfr_m a3 (by decide)) (yfr_m c6 (by decide))⟩
  · apply fX0_takeClass_109_i
    rw [a1, Option.bind_some]
    exact c1
  · rw [c3 a ha]
    congr 1
    apply ytb_ext
    intro c
    show yb _ c ↔ yad _ a c
    rw [yb_bs, yLs_ad hR]
    constructor
    · rintro ⟨q1, q2, q3⟩
      refine ⟨q2, fun e => ?_, fun e => ?_⟩
      · obtain ⟨j, j1, j2⟩ := (fin a c ha q1).mpr e
        exact (q3 j j1).1 j2
      · obtain ⟨j, j1, j2⟩ := (fin c a q1 ha).mpr e
        exact (q3 j j1).2 j2
    · rintro ⟨q1, q2, q3⟩
      have hc := (hL.2.2 _ _ q1).2
      exact ⟨hc, q1, fun j hj => ⟨fun e => q2 ((fin a c ha hc).mp ⟨j, hj, e⟩), fun e => q3 ((fin c a hc ha).mp ⟨j, hj, e⟩)⟩⟩
  · rw [c4 a ha]
    congr 1
    apply ybs_c
    intro c hc
    have e0 : yb (yro (yTi R b i) a) c ↔ yTi R b i a c := by
      show yb (ybs _ 8) c ↔ _
      rw [yb_bs]
      exact ⟨fun e => e.2, fun e => ⟨hc, e⟩⟩
    rw [e0, fin a c ha hc]
    constructor
    · rintro (⟨j, j1, j2⟩ | e)
      · exact ⟨j, by omega, j2⟩
      · exact ⟨i, by omega, e⟩
    · rintro ⟨j, j1, j2⟩
      by_cases e : j = i
      · subst e; exact Or.inr j2
      · exact Or.inl ⟨j, by omega, j2⟩
  · rw [c5 k hk]
    have key : (∃ j, 0 ≤ j ∧ j < s ∧ (f j = k ∨ ytn (f j) = k)) ↔ (ycli R b i (yan k) ∨ ycli R b i (yrv (yan k))) := by
      have hk8 : k / 8 < 8 := by omega
      have hk9 : k % 8 < 8 := by omega
      constructor
      · rintro ⟨j, _, j1, j2 | j2⟩
        · exact Or.inl ((fin _ _ hk8 hk9).mp ⟨j, j1, by rw [j2]; rfl⟩)
        · refine Or.inr ((fin _ _ hk9 hk8).mp ⟨j, j1, ?_⟩)
          have e := (b3 j j1).2.1
          rw [← j2]
          have : yan (f j) = yrv (yan (ytn (f j))) := by rw [ytn_an e]; rfl
          exact this
      · rintro (e | e)
        · obtain ⟨j, j1, j2⟩ := (fin _ _ hk8 hk9).mpr e
          exact ⟨j, Nat.zero_le _, j1, Or.inl (yan_i j2)⟩
        · obtain ⟨j, j1, j2⟩ := (fin _ _ hk9 hk8).mpr e
          refine ⟨j, Nat.zero_le _, j1, Or.inr ?_⟩
          have e := (b3 j j1).2.1
          apply yan_i
          rw [ytn_an e, j2]
          rfl
    by_cases hin : yar (yLs R b i) k
    · have e1 : yse R b k = i := yse_eq hR hin hkn
      rw [e1]
      have : ycli R b i (yan k) ∨ ycli R b i (yrv (yan k)) := by
        refine Classical.byContradiction fun hn => hkn ((yLs_ad hR b i).mpr ⟨hin, fun e => hn (Or.inl e), fun e => hn (Or.inr e)⟩)
      rw [yif_t (key.mpr this)]
    · rw [yif_f]
      · rw [yfr_1 a3 115 k (by decide)]
        exact h3 k hk hka hin
      · rw [key]
        rintro (e | e)
        · exact hin (ycli_g hR e)
        · exact hin (hL.2.1.1 _ _ (ycli_g hR e))
  · by_cases e : j = i
    · subst e; exact hex
    · exact h5 j (by omega)
theorem s_asv_l_109 {R : Nat → Nat} (hR : yGd R) {b : Nat} (hb : b < 2) : ∀ (d a : Nat), a + d = 64 → ∀ (i : Nat) (m : xmm), i ≤ a → yAI R b i 113 114 115 109 4 m → (∀ k, k < a → ¬ yar (yLs R b i) k) → ∃ m', bX0_solve_109_37 (nI b) (nI a) m = some m' ∧ yAI R b (yN R b) 113 114 115 109 4 m' ∧ yfr [109, 110, 111, 112, 113, 114, 115] m m' := by
  intro d
  induction d with
  | zero =>
    intro a ha i m hia h hn
    have e : a = 64 := by omega
    subst e
    have eN := yN_eq hR (b := b) (i := i) (fun ⟨k, hk⟩ => hn k (yar_64 (yLs_gd hR b i) hk) hk) h.2.2.2.2
    refine ⟨m, ?_, by rw [eN]; exact h, yfr_r⟩
    apply bX0_solve_109_37_i
    simp (disch := omega) only [yl3, yl4, yl5, yl6, yl7, yl8, yl9, yl10, yl13, yl16, yl20, yl21, yl22, yl23, yl24, yl32, yl40, yl48, yl57, yl59, yl63, yl64, yl97, yl99, yl122, yl255, yl256, yl400, yl1000, yl2000, yl2048, yc0_eq, yc0_eq2, yc0_le, yc0_ge, yc0_lt, yc0_gt, yc0_ad, yc0_da, yc0_sb, yc0_ml, yc0_lm, yc1_eq, yc1_eq2, yc1_le, yc1_ge, yc1_lt, yc1_gt, yc1_ad, yc1_da, yc1_sb, yc1_ml, yc1_lm, yc2_eq, yc2_eq2, yc2_le, yc2_ge, yc2_lt, yc2_gt, yc2_ad, yc2_da, yc2_sb, yc2_ml, yc2_lm, yc31_ge, ymodn, yI_1sl, yc2_dv, yn1_eq, yn1_lt, xgd_t, xlt_e, Option.bind_some, nI_add, pk_mul, pk_sub, pk_div, pk_rem, yI_and, yI_or, yI_xor, yI_nd, yI_nd2, yI_31, yI_shl, nI_leI, nI_ltI, nI_eq, nI_clamp, xinb_t, yP_z, yP_if, if_pos]
  | succ d ih =>
    intro a ha i m hia h hn
    have isA := s_isArrow (v := 113) rfl rfl h.1 (yLs_gd hR b i).1 (x := a) (by omega)
    by_cases harr : yar (yLs R b i) a
    · have harr' : yb (yLs R b i (a / 8)) (a % 8) := harr
      have elo : ylo (yLs R b i) = a := ylo_eq harr hn
      obtain ⟨m1, a1, a2, a3⟩ := s_takeClass_109 hR (by omega) ⟨a, harr⟩ h
      obtain ⟨m', e1, e2, e3⟩ := ih (a + 1) (by omega) (i + 1) m1 (by omega) a2 (fun k hk => yLs_lo hR ⟨a, harr⟩ k (by omega))
      refine ⟨m', ?_, e2, yfr_t a3 e3⟩
      apply bX0_solve_109_37_i
      rw [elo] at a1
      have h4 := h.2.2.2.1
      have n1 : ¬ (1 : Int32) = 0 := by decide
      by_cases hi0 : i = 0
      · by_cases hb1 : b = 1
        · have esq : ysq b i a = ytn a := if_pos ⟨hi0, hb1⟩
          rw [esq] at a1
          have last : bX0_solve_109_70 (nI b) (nI a) (1 : Int32) m = some m' := by
            apply bX0_solve_109_70_i
            simp (disch := omega) only [yl3, yl4, yl5, yl6, yl7, yl8, yl9, yl10, yl13, yl16, yl20, yl21, yl22, yl23, yl24, yl32, yl40, yl48, yl57, yl59, yl63, yl64, yl97, yl99, yl122, yl255, yl256, yl400, yl1000, yl2000, yl2048, yc0_eq, yc0_eq2, yc0_le, yc0_ge, yc0_lt, yc0_gt, yc0_ad, yc0_da, yc0_sb, yc0_ml, yc0_lm, yc1_eq, yc1_eq2, yc1_le, yc1_ge, yc1_lt, yc1_gt, yc1_ad, yc1_da, yc1_sb, yc1_ml, yc1_lm, yc2_eq, yc2_eq2, yc2_le, yc2_ge, yc2_lt, yc2_gt, yc2_ad, yc2_da, yc2_sb, yc2_ml, yc2_lm, yc31_ge, ymodn, yI_1sl, yc2_dv, yn1_eq, yn1_lt, xgd_t, xlt_e, Option.bind_some, nI_add, pk_mul, pk_sub, pk_div, pk_rem, yI_and, yI_or, yI_xor, yI_nd, yI_nd2, yI_31, yI_shl, nI_leI, nI_ltI, nI_eq, nI_clamp, xinb_t, yP_z, yP_if, n1, if_false, s_against', a1]
            exact e1
          simp (disch := omega) only [yl3, yl4, yl5, yl6, yl7, yl8, yl9, yl10, yl13, yl16, yl20, yl21, yl22, yl23, yl24, yl32, yl40, yl48, yl57, yl59, yl63, yl64, yl97, yl99, yl122, yl255, yl256, yl400, yl1000, yl2000, yl2048, yc0_eq, yc0_eq2, yc0_le, yc0_ge, yc0_lt, yc0_gt, yc0_ad, yc0_da, yc0_sb, yc0_ml, yc0_lm, yc1_eq, yc1_eq2, yc1_le, yc1_ge, yc1_lt, yc1_gt, yc1_ad, yc1_da, yc1_sb, yc1_ml, yc1_lm, yc2_eq, yc2_eq2, yc2_le, yc2_ge, yc2_lt, yc2_gt, yc2_ad, yc2_da, yc2_sb, yc2_ml, yc2_lm, yc31_ge, ymodn, yI_1sl, yc2_dv, yn1_eq, yn1_lt, xgd_t, xlt_e, Option.bind_some, nI_add, pk_mul, pk_sub, pk_div, pk_rem, yI_and, yI_or, yI_xor, yI_nd, yI_nd2, yI_31, yI_shl, nI_leI, nI_ltI, nI_eq, nI_clamp, xinb_t, yP_z, yP_if, if_neg, isA, yif_t harr', h4, if_pos, last]
        · have esq : ysq b i a = a := if_neg (fun e => hb1 e.2)
          rw [esq] at a1
          have last : bX0_solve_109_70 (nI b) (nI a) (0 : Int32) m = some m' := by
            apply bX0_solve_109_70_i
            simp (disch := omega) only [yl3, yl4, yl5, yl6, yl7, yl8, yl9, yl10, yl13, yl16, yl20, yl21, yl22, yl23, yl24, yl32, yl40, yl48, yl57, yl59, yl63, yl64, yl97, yl99, yl122, yl255, yl256, yl400, yl1000, yl2000, yl2048, yc0_eq, yc0_eq2, yc0_le, yc0_ge, yc0_lt, yc0_gt, yc0_ad, yc0_da, yc0_sb, yc0_ml, yc0_lm, yc1_eq, yc1_eq2, yc1_le, yc1_ge, yc1_lt, yc1_gt, yc1_ad, yc1_da, yc1_sb, yc1_ml, yc1_lm, yc2_eq, yc2_eq2, yc2_le, yc2_ge, yc2_lt, yc2_gt, yc2_ad, yc2_da, yc2_sb, yc2_ml, yc2_lm, yc31_ge, ymodn, yI_1sl, yc2_dv, yn1_eq, yn1_lt, xgd_t, xlt_e, Option.bind_some, nI_add, pk_mul, pk_sub, pk_div, pk_rem, yI_and, yI_or, yI_xor, yI_nd, yI_nd2, yI_31, yI_shl, nI_leI, nI_ltI, nI_eq, nI_clamp, xinb_t, yP_z, yP_if, if_true, a1]
            exact e1
          simp (disch := omega) only [yl3, yl4, yl5, yl6, yl7, yl8, yl9, yl10, yl13, yl16, yl20, yl21, yl22, yl23, yl24, yl32, yl40, yl48, yl57, yl59, yl63, yl64, yl97, yl99, yl122, yl255, yl256, yl400, yl1000, yl2000, yl2048, yc0_eq, yc0_eq2, yc0_le, yc0_ge, yc0_lt, yc0_gt, yc0_ad, yc0_da, yc0_sb, yc0_ml, yc0_lm, yc1_eq, yc1_eq2, yc1_le, yc1_ge, yc1_lt, yc1_gt, yc1_ad, yc1_da, yc1_sb, yc1_ml, yc1_lm, yc2_eq, yc2_eq2, yc2_le, yc2_ge, yc2_lt, yc2_gt, yc2_ad, yc2_da, yc2_sb, yc2_ml, yc2_lm, yc31_ge, ymodn, yI_1sl, yc2_dv, yn1_eq, yn1_lt, xgd_t, xlt_e, Option.bind_some, nI_add, pk_mul, pk_sub, pk_div, pk_rem, yI_and, yI_or, yI_xor, yI_nd, yI_nd2, yI_31, yI_shl, nI_leI, nI_ltI, nI_eq, nI_clamp, xinb_t, yP_z, yP_if, if_neg, isA, yif_t harr', h4, if_pos, last]
      · have esq : ysq b i a = a := if_neg (fun e => hi0 e.1)
        rw [esq] at a1
        have last : bX0_solve_109_70 (nI b) (nI a) (0 : Int32) m = some m' := by
          apply bX0_solve_109_70_i
          simp (disch := omega) only [yl3, yl4, yl5, yl6, yl7, yl8, yl9, yl10, yl13, yl16, yl20, yl21, yl22, yl23, yl24, yl32, yl40, yl48, yl57, yl59, yl63, yl64, yl97, yl99, yl122, yl255, yl256, yl400, yl1000, yl2000, yl2048, yc0_eq, yc0_eq2, yc0_le, yc0_ge, yc0_lt, yc0_gt, yc0_ad, yc0_da, yc0_sb, yc0_ml, yc0_lm, yc1_eq, yc1_eq2, yc1_le, yc1_ge, yc1_lt, yc1_gt, yc1_ad, yc1_da, yc1_sb, yc1_ml, yc1_lm, yc2_eq, yc2_eq2, yc2_le, yc2_ge, yc2_lt, yc2_gt, yc2_ad, yc2_da, yc2_sb, yc2_ml, yc2_lm, yc31_ge, ymodn, yI_1sl, yc2_dv, yn1_eq, yn1_lt, xgd_t, xlt_e, Option.bind_some, nI_add, pk_mul, pk_sub, pk_div, pk_rem, yI_and, yI_or, yI_xor, yI_nd, yI_nd2, yI_31, yI_shl, nI_leI, nI_ltI, nI_eq, nI_clamp, xinb_t, yP_z, yP_if, if_true, a1]
          exact e1
        simp (disch := omega) only [yl3, yl4, yl5, yl6, yl7, yl8, yl9, yl10, yl13, yl16, yl20, yl21, yl22, yl23, yl24, yl32, yl40, yl48, yl57, yl59, yl63, yl64, yl97, yl99, yl122, yl255, yl256, yl400, yl1000, yl2000, yl2048, yc0_eq, yc0_eq2, yc0_le, yc0_ge, yc0_lt, yc0_gt, yc0_ad, yc0_da, yc0_sb, yc0_ml, yc0_lm, yc1_eq, yc1_eq2, yc1_le, yc1_ge, yc1_lt, yc1_gt, yc1_ad, yc1_da, yc1_sb, yc1_ml, yc1_lm, yc2_eq, yc2_eq2, yc2_le, yc2_ge, yc2_lt, yc2_gt, yc2_ad, yc2_da, yc2_sb, yc2_ml, yc2_lm, yc31_ge, ymodn, yI_1sl, yc2_dv, yn1_eq, yn1_lt, xgd_t, xlt_e, Option.bind_some, nI_add, pk_mul, pk_sub, pk_div, pk_rem, yI_and, yI_or, yI_xor, yI_nd, yI_nd2, yI_31, yI_shl, nI_leI, nI_ltI, nI_eq, nI_clamp, xinb_t, yP_z, yP_if, if_neg, isA, yif_t harr', h4, last]
    · have harr' : ¬ yb (yLs R b i (a / 8)) (a % 8) := harr
      obtain ⟨m', e1, e2, e3⟩ := ih (a + 1) (by omega) i m (by omega) h (fun k hk => by
        by_cases e : k = a
        · subst e; exact harr
        · exact hn k (by omega))
      refine ⟨m', ?_, e2, e3⟩
      apply bX0_solve_109_37_i
      simp (disch := omega) only [yl3, yl4, yl5, yl6, yl7, yl8, yl9, yl10, yl13, yl16, yl20, yl21, yl22, yl23, yl24, yl32, yl40, yl48, yl57, yl59, yl63, yl64, yl97, yl99, yl122, yl255, yl256, yl400, yl1000, yl2000, yl2048, yc0_eq, yc0_eq2, yc0_le, yc0_ge, yc0_lt, yc0_gt, yc0_ad, yc0_da, yc0_sb, yc0_ml, yc0_lm, yc1_eq, yc1_eq2, yc1_le, yc1_ge, yc1_lt, yc1_gt, yc1_ad, yc1_da, yc1_sb, yc1_ml, yc1_lm, yc2_eq, yc2_eq2, yc2_le, yc2_ge, yc2_lt, yc2_gt, yc2_ad, yc2_da, yc2_sb, yc2_ml, yc2_lm, yc31_ge, ymodn, yI_1sl, yc2_dv, yn1_eq, yn1_lt, xgd_t, xlt_e, Option.bind_some, nI_add, pk_mul, pk_sub, pk_div, pk_rem, yI_and, yI_or, yI_xor, yI_nd, yI_nd2, yI_31, yI_shl, nI_leI, nI_ltI, nI_eq, nI_clamp, xinb_t, yP_z, yP_if, if_neg, isA, yif_f harr']
      exact e1
theorem s_asv_r_109 {v : Nat} (hv : Nat.beq v 1999 = false) (hk : xkd v = (1, 8)) (hn : v ∉ [113, 114]) {R : Nat → Nat} {b : Nat} : ∀ (d k : Nat) (m : xmm), k + d = 8 → yrw v R m → (∀ z, z < k → m.1 113 z = nI (R z)) → (∀ z, z < k → m.1 114 z = 0) → ∃ m0, (∀ {z : xmm}, bX0_solve_109_2 v (nI b) (nI 8) m0 = some z → bX0_solve_109_2 v (nI b) (nI k) m = some z) ∧ yrw 113 R m0 ∧ (∀ z, z < 8 → m0.1 114 z = 0) ∧ yfr [113, 114] m m0 := by
  intro d
  induction d with
  | zero =>
    intro k m hk h h2 h3
    have e : k = 8 := by omega
    subst e
    exact ⟨m, id, h2, h3, yfr_r⟩
  | succ d ih =>
    intro k m hkd h h2 h3
    obtain ⟨m0, e1, e2, e3, e4⟩ := ih (k + 1) (xwi (xwi m 113 k (nI (R k))) 114 k 0) (by omega) (fun p hp => by rw [xwi_k (fun e => hn (by rw [e]; decide)), xwi_k (fun e => hn (by rw [e]; decide))]; exact h p hp) (by
      intro z hz
      rw [xwi_k (by decide)]
      by_cases e : z = k
      · subst e; exact xwi_e _ _ _ _
      · rw [xwi_i e]; exact h2 z (by omega)) (by
      intro z hz
      by_cases e : z = k
      · subst e; exact xwi_e _ _ _ _
      · rw [xwi_i e, xwi_k (by decide)]; exact h3 z (by omega))
    refine ⟨m0, fun {z} hz => ?_, e2, e3, yfr_t (yfr_w (yfr_w yfr_r (by decide)) (by decide)) e4⟩
    apply bX0_solve_109_2_i
    simp (disch := omega) only [yl3, yl4, yl5, yl6, yl7, yl8, yl9, yl10, yl13, yl16, yl20, yl21, yl22, yl23, yl24, yl32, yl40, yl48, yl57, yl59, yl63, yl64, yl97, yl99, yl122, yl255, yl256, yl400, yl1000, yl2000, yl2048, yc0_eq, yc0_eq2, yc0_le, yc0_ge, yc0_lt, yc0_gt, yc0_ad, yc0_da, yc0_sb, yc0_ml, yc0_lm, yc1_eq, yc1_eq2, yc1_le, yc1_ge, yc1_lt, yc1_gt, yc1_ad, yc1_da, yc1_sb, yc1_ml, yc1_lm, yc2_eq, yc2_eq2, yc2_le, yc2_ge, yc2_lt, yc2_gt, yc2_ad, yc2_da, yc2_sb, yc2_ml, yc2_lm, yc31_ge, ymodn, yI_1sl, yc2_dv, yn1_eq, yn1_lt, xgd_t, xlt_e, Option.bind_some, nI_add, pk_mul, pk_sub, pk_div, pk_rem, yI_and, yI_or, yI_xor, yI_nd, yI_nd2, yI_31, yI_shl, nI_leI, nI_ltI, nI_eq, nI_clamp, xinb_t, yP_z, yP_if, if_neg, hv, Bool.not_false, xia_t hk, h k (by omega)]
    exact e1 hz
theorem s_asolve_109 {R : Nat → Nat} (hR : yGd R) {b : Nat} (hb : b < 2) {v : Nat} (hv : Nat.beq v 1999 = false) (hk : xkd v = (1, 8)) (hn : v ∉ [113, 114]) {m : xmm} (h : yrw v R m) : ∃ m', fX0_solve_109 v (nI b) m = some m' ∧ yAI R b (yN R b) 113 114 115 109 4 m' ∧ yfr [109, 110, 111, 112, 113, 114, 115] m m' := by
  obtain ⟨m1, a1, a2, a3, a4⟩ := s_asv_r_109 hv hk hn (b := b) 8 0 m rfl h (fun z hz => absurd hz (Nat.not_lt_zero z)) (fun z hz => absurd hz (Nat.not_lt_zero z))
  obtain ⟨m', e1, e2, e3⟩ := s_asv_l_109 hR hb 64 0 rfl 0 (xwi m1 109 4 0) (Nat.le_refl _) ⟨fun p hp => by rw [xwi_k (by decide)]; exact a2 p hp, fun p hp => by
      rw [xwi_k (by decide), a3 p hp]
      have : yro (yTi R b 0) p = 0 := by
        apply ytb_ext
        intro c
        show yb (ybs _ 8) c ↔ yb 0 c
        rw [yb_bs]
        exact ⟨fun ⟨_, j, hj, _⟩ => absurd hj (Nat.not_lt_zero j), fun e => absurd e yb_0⟩
      rw [this]
      rfl, fun k _ h1 h2 => absurd h1 h2, by rw [xwi_e]; rfl, fun j hj => absurd hj (Nat.not_lt_zero j)⟩ (fun k hk => absurd hk (Nat.not_lt_zero k))
  refine ⟨m', ?_, e2, yfr_t (yfr_w (yfr_m a4 (by decide)) (by decide)) e3⟩
  apply fX0_solve_109_i
  apply a1
  apply bX0_solve_109_2_i
  rw [if_pos (by decide)]
  exact e1
theorem s_tc_l_116 {L A : Nat → Nat} (hA : ∀ p, p < 8 → A p < 256) {n : Nat} {f : Nat → Nat} {s : Nat} (hs : s ≤ 64) (hf : ∀ j, j < s → f j < 64) : ∀ (d i : Nat) (m : xmm), i + d = s → m.1 117 2 = nI s → (∀ j, j < s → m.1 119 j = nI (f j)) → m.1 116 4 = nI n → (∀ a, a < 8 → m.1 120 a = nI (ybs (fun c => yb (L a) c ∧ ∀ j, j < i → yan (f j) ≠ (a, c) ∧ yan (f j) ≠ (c, a)) 8)) → (∀ a, a < 8 → m.1 121 a = nI (ybs (fun c => yb (A a) c ∨ ∃ j, j < i ∧ yan (f j) = (a, c)) 8)) → ∃ m', bX0_takeClass_116_14 (nI i) m = some m' ∧ m'.1 116 4 = nI (n + 1) ∧ (∀ a, a < 8 → m'.1 120 a = nI (ybs (fun c => yb (L a) c ∧ ∀ j, j < s → yan (f j) ≠ (a, c) ∧ yan (f j) ≠ (c, a)) 8)) ∧ (∀ a, a < 8 → m'.1 121 a = nI (ybs (fun c => yb (A a) c ∨ ∃ j, j < s ∧ yan (f j) = (a, c)) 8)) ∧ (∀ z, z < 64 → m'.1 122 z = yif (∃ j, i ≤ j ∧ j < s ∧ (f j = z ∨ ytn (f j) = z)) (nI n) (m.1 122 z)) ∧ yfr [116, 120, 121, 122] m m' := by
  intro d
  induction d with
  | zero =>
    intro i m hi h1 h2 h3 h4 h5
    have e : i = s := by omega
    subst e
    refine ⟨xwi m 116 4 (nI (n + 1)), ?_, by rw [xwi_e], fun a ha => by rw [xwi_k (by decide)]; exact h4 a ha, fun a ha => by rw [xwi_k (by decide)]; exact h5 a ha, fun z hz => ?_, yfr_w yfr_r (by decide)⟩
    · apply bX0_takeClass_116_14_i
      simp (disch := omega) only [yl3, yl4, yl5, yl6, yl7, yl8, yl9, yl10, yl13, yl16, yl20, yl21, yl22, yl23, yl24, yl32, yl40, yl48, yl57, yl59, yl63, yl64, yl97, yl99, yl122, yl255, yl256, yl400, yl1000, yl2000, yl2048, yc0_eq, yc0_eq2, yc0_le, yc0_ge, yc0_lt, yc0_gt, yc0_ad, yc0_da, yc0_sb, yc0_ml, yc0_lm, yc1_eq, yc1_eq2, yc1_le, yc1_ge, yc1_lt, yc1_gt, yc1_ad, yc1_da, yc1_sb, yc1_ml, yc1_lm, yc2_eq, yc2_eq2, yc2_le, yc2_ge, yc2_lt, yc2_gt, yc2_ad, yc2_da, yc2_sb, yc2_ml, yc2_lm, yc31_ge, ymodn, yI_1sl, yc2_dv, yn1_eq, yn1_lt, xgd_t, xlt_e, Option.bind_some, nI_add, pk_mul, pk_sub, pk_div, pk_rem, yI_and, yI_or, yI_xor, yI_nd, yI_nd2, yI_31, yI_shl, nI_leI, nI_ltI, nI_eq, nI_clamp, xinb_t, yP_z, yP_if, h1, h3, if_pos]
    · rw [xwi_k (by decide), yif_f]
      rintro ⟨j, j1, j2, _⟩
      omega
  | succ d ih =>
    intro i m hi h1 h2 h3 h4 h5
    have hu := hf i (by omega)
    have ha8 : f i / 8 < 8 := by omega
    have hb8 : f i % 8 < 8 := by omega
    have ht := ytn_lt hu
    have hya : yan (f i) = (f i / 8, f i % 8) := rfl
    obtain ⟨m', e1, e2, e3, e4, e5, e6⟩ := ih (i + 1) (xwi (xwi (xwi (xwi (xwi m 121 (f i / 8) (nI (ybs (fun c => yb (A (f i / 8)) c ∨ ∃ j, j < i + 1 ∧ yan (f j) = (f i / 8, c)) 8))) 122 (f i) (nI n)) 122 (ytn (f i)) (nI n)) 120 (f i / 8) (nI (ynd (ybs (fun c => yb (L (f i / 8)) c ∧ ∀ j, j < i → yan (f j) ≠ (f i / 8, c) ∧ yan (f j) ≠ (c, f i / 8)) 8) (2 ^ (f i % 8))))) 120 (f i % 8) (nI (ybs (fun c => yb (L (f i % 8)) c ∧ ∀ j, j < i + 1 → yan (f j) ≠ (f i % 8, c) ∧ yan (f j) ≠ (c, f i % 8)) 8))) (by omega)
      (by rw [xwi_k (by decide), xwi_k (by decide), xwi_k (by decide), xwi_k (by decide), xwi_k (by decide)]; exact h1)
      (fun j hj => by rw [xwi_k (by decide), xwi_k (by decide), xwi_k (by decide), xwi_k (by decide), xwi_k (by decide)]; exact h2 j hj)
      (by rw [xwi_k (by decide), xwi_k (by decide), xwi_k (by decide), xwi_k (by decide), xwi_k (by decide)]; exact h3)
      (fun a ha => by
        by_cases ea : a = f i % 8
        · subst ea; rw [xwi_e]
        · rw [xwi_i ea]
          by_cases eb : a = f i / 8
          · subst eb
            rw [xwi_e, ybs_n1]
            congr 1
            apply ybs_c
            intro c hc
            constructor
            · rintro ⟨⟨q1, q2⟩, q3⟩
              refine ⟨q1, fun j hj => ?_⟩
              by_cases ej : j = i
              · subst ej
                rw [hya]
                exact ⟨fun e => q3 (congrArg Prod.snd e).symm, fun e => ea (congrArg Prod.snd e).symm⟩
              · exact q2 j (by omega)
            · rintro ⟨q1, q2⟩
              refine ⟨⟨q1, fun j hj => q2 j (by omega)⟩, fun e => ?_⟩
              have := (q2 i (by omega)).1
              rw [hya, e] at this
              exact this rfl
          · rw [xwi_i eb, xwi_k (by decide), xwi_k (by decide), xwi_k (by decide), h4 a ha]
            congr 1
            apply ybs_c
            intro c hc
            constructor
            · rintro ⟨q1, q2⟩
              refine ⟨q1, fun j hj => ?_⟩
              by_cases ej : j = i
              · subst ej
                rw [hya]
                exact ⟨fun e => eb (congrArg Prod.fst e).symm, fun e => ea (congrArg Prod.snd e).symm⟩
              · exact q2 j (by omega)
            · rintro ⟨q1, q2⟩
              exact ⟨q1, fun j hj => q2 j (by omega)⟩)
      (fun a ha => by
        rw [xwi_k (by decide), xwi_k (by decide), xwi_k (by decide), xwi_k (by decide)]
        by_cases eb : a = f i / 8
        · subst eb; rw [xwi_e]
        · rw [xwi_i eb, h5 a ha]
          congr 1
          apply ybs_c
          intro c hc
          constructor
          · rintro (q | ⟨j, j1, j2⟩)
            · exact Or.inl q
            · exact Or.inr ⟨j, by omega, j2⟩
          · rintro (q | ⟨j, j1, j2⟩)
            · exact Or.inl q
            · by_cases ej : j = i
              · subst ej; exact absurd (congrArg Prod.fst j2).symm eb
              · exact Or.inr ⟨j, by omega, j2⟩)
    refine ⟨m', ?_, e2, e3, e4, fun z hz => ?_, yfr_t (yfr_w (yfr_w (yfr_w (yfr_w (yfr_w yfr_r (by decide)) (by decide)) (by decide)) (by decide)) (by decide)) e6⟩
    · apply bX0_takeClass_116_14_i
      have o1 : nI (ybs (fun c => yb (A (f i / 8)) c ∨ ∃ j, j < i ∧ yan (f j) = (f i / 8, c)) 8 ||| 2 ^ (f i % 8)) = nI (ybs (fun c => yb (A (f i / 8)) c ∨ ∃ j, j < i + 1 ∧ yan (f j) = (f i / 8, c)) 8) := by
        rw [ybs_o1 hb8]
        congr 1
        apply ybs_c
        intro c hc
        constructor
        · rintro ((q | ⟨j, j1, j2⟩) | q)
          · exact Or.inl q
          · exact Or.inr ⟨j, by omega, j2⟩
          · exact Or.inr ⟨i, by omega, by rw [hya, q]⟩
        · rintro (q | ⟨j, j1, j2⟩)
          · exact Or.inl (Or.inl q)
          · by_cases ej : j = i
            · subst ej; exact Or.inr (congrArg Prod.snd j2).symm
            · exact Or.inl (Or.inr ⟨j, by omega, j2⟩)
      have last : (xwi (xwi (xwi (xwi m 121 (f i / 8) (nI (ybs (fun c => yb (A (f i / 8)) c ∨ ∃ j, j < i + 1 ∧ yan (f j) = (f i / 8, c)) 8))) 122 (f i) (nI n)) 122 (ytn (f i)) (nI n)) 120 (f i / 8) (nI (ynd (ybs (fun c => yb (L (f i / 8)) c ∧ ∀ j, j < i → yan (f j) ≠ (f i / 8, c) ∧ yan (f j) ≠ (c, f i / 8)) 8) (2 ^ (f i % 8))))).1 120 (f i % 8) &&& (nI (2 ^ (f i / 8)) ^^^ (-1 : Int32)) = nI (ybs (fun c => yb (L (f i % 8)) c ∧ ∀ j, j < i + 1 → yan (f j) ≠ (f i % 8, c) ∧ yan (f j) ≠ (c, f i % 8)) 8) := by
        by_cases eb : f i % 8 = f i / 8
        · rw [eb, xwi_e, yI_nd, ybs_n1, ybs_n1]
          congr 1
          apply ybs_c
          intro c hc
          constructor
          · rintro ⟨⟨⟨q1, q2⟩, q3⟩, q4⟩
            refine ⟨q1, fun j hj => ?_⟩
            by_cases ej : j = i
            · subst ej
              rw [hya]
              refine ⟨fun e => q3 ?_, fun e => q4 (congrArg Prod.fst e).symm⟩
              have e7 : f j % 8 = c := congrArg Prod.snd e
              exact e7.symm.trans eb
            · exact q2 j (by omega)
          · rintro ⟨q1, q2⟩
            have q3 := q2 i (by omega)
            rw [hya] at q3
            refine ⟨⟨⟨q1, fun j hj => q2 j (by omega)⟩, fun e => ?_⟩, fun e => ?_⟩
            · apply q3.1
              rw [e, eb]
            · apply q3.2
              rw [e, eb]
        · rw [xwi_i eb, xwi_k (by decide), xwi_k (by decide), xwi_k (by decide), h4 _ hb8, yI_nd, ybs_n1]
          congr 1
          apply ybs_c
          intro c hc
          constructor
          · rintro ⟨⟨q1, q2⟩, q3⟩
            refine ⟨q1, fun j hj => ?_⟩
            by_cases ej : j = i
            · subst ej
              rw [hya]
              exact ⟨fun e => eb (congrArg Prod.fst e).symm, fun e => q3 (congrArg Prod.fst e).symm⟩
            · exact q2 j (by omega)
          · rintro ⟨q1, q2⟩
            have q3 := q2 i (by omega)
            rw [hya] at q3
            refine ⟨⟨q1, fun j hj => q2 j (by omega)⟩, fun e => ?_⟩
            apply q3.2
            rw [e]
      simp (disch := omega) only [yl3, yl4, yl5, yl6, yl7, yl8, yl9, yl10, yl13, yl16, yl20, yl21, yl22, yl23, yl24, yl32, yl40, yl48, yl57, yl59, yl63, yl64, yl97, yl99, yl122, yl255, yl256, yl400, yl1000, yl2000, yl2048, yc0_eq, yc0_eq2, yc0_le, yc0_ge, yc0_lt, yc0_gt, yc0_ad, yc0_da, yc0_sb, yc0_ml, yc0_lm, yc1_eq, yc1_eq2, yc1_le, yc1_ge, yc1_lt, yc1_gt, yc1_ad, yc1_da, yc1_sb, yc1_ml, yc1_lm, yc2_eq, yc2_eq2, yc2_le, yc2_ge, yc2_lt, yc2_gt, yc2_ad, yc2_da, yc2_sb, yc2_ml, yc2_lm, yc31_ge, ymodn, yI_1sl, yc2_dv, yn1_eq, yn1_lt, xgd_t, xlt_e, Option.bind_some, nI_add, pk_mul, pk_sub, pk_div, pk_rem, yI_and, yI_or, yI_xor, yI_nd, yI_nd2, yI_31, yI_shl, nI_leI, nI_ltI, nI_eq, nI_clamp, xinb_t, yP_z, yP_if, if_neg, h1, h2 i (by omega), h5 _ ha8, xwi_k, h3, s_against', h4 _ ha8, o1, last]
      exact e1
    · rw [e5 z hz, xwi_k (by decide), xwi_k (by decide)]
      by_cases h : ∃ j, i + 1 ≤ j ∧ j < s ∧ (f j = z ∨ ytn (f j) = z)
      · obtain ⟨j, j1, j2, j3⟩ := h
        rw [yif_t ⟨j, j1, j2, j3⟩, yif_t ⟨j, by omega, j2, j3⟩]
      · rw [yif_f h]
        by_cases ez : z = ytn (f i)
        · subst ez
          rw [xwi_e, yif_t ⟨i, Nat.le_refl _, by omega, Or.inr rfl⟩]
        · rw [xwi_i ez]
          by_cases ez2 : z = f i
          · subst ez2
            rw [xwi_e, yif_t ⟨i, Nat.le_refl _, by omega, Or.inl rfl⟩]
          · rw [xwi_i ez2, xwi_k (by decide), yif_f]
            rintro ⟨j, j1, j2, j3⟩
            by_cases ej : j = i
            · subst ej
              rcases j3 with j3 | j3
              · exact ez2 j3.symm
              · exact ez j3.symm
            · exact h ⟨j, by omega, j2, j3⟩
theorem s_takeClass_116 {R : Nat → Nat} (hR : yGd R) {b i : Nat} (hi : i < 2 ^ 30) (hex : ∃ k, yar (yLs R b i) k) {m : xmm} (h : yAI R b i 120 121 122 116 4 m) : ∃ m', fX0_takeClass_116 (nI (ysq b i (ylo (yLs R b i)))) m = some m' ∧ yAI R b (i + 1) 120 121 122 116 4 m' ∧ yfr [116, 117, 118, 119, 120, 121, 122] m m' := by
  obtain ⟨h1, h2, h3, h4, h5⟩ := h
  have hL := yLs_gd hR b i
  obtain ⟨x64, xar⟩ := ysq_ar hL b i hex
  obtain ⟨m1, a1, ⟨f, s, b1, b2, b3, b4, b5, b6, b7⟩, a3⟩ := s_spread_117 (v := 120) rfl rfl (by decide) hL.1 hL.2.1 hL.2.2 x64 xar h1
  have fin : ∀ a c, a < 8 → c < 8 → ((∃ j, j < s ∧ yan (f j) = (a, c)) ↔ ycli R b i (a, c)) := by
    intro a c ha hc
    constructor
    · rintro ⟨j, j1, j2⟩
      have := (b3 j j1).2.2
      rw [j2] at this
      exact ⟨hex, this⟩
    · intro e
      have e2 : ycl (yad (yLs R b i)) (yan (ysq b i (ylo (yLs R b i)))) (yan (8 * a + c)) := by rw [yan_of hc]; exact e.2
      obtain ⟨j, j1, j2⟩ := b5 (8 * a + c) (by omega) e2
      exact ⟨j, j1, by rw [j2, yan_of hc]⟩
  obtain ⟨m', c1, c2, c3, c4, c5, c6⟩ := s_tc_l_116 (L := yLs R b i) (A := yro (yTi R b i)) (fun p _ => yro_lt _ p) (n := i) b1 (fun j hj => (b3 j hj).2.1) s 0 m1 (by omega) b2 (fun j hj => (b3 j hj).1) (by rw [yfr_1 a3 116 4 (by decide)]; exact h4) (fun a ha => by
      rw [yfr_1 a3 120 a (by decide), h1 a ha]
      congr 1
      apply ytb_ext
      intro c
      show yb _ c ↔ yb _ c
      rw [yb_bs]
      exact ⟨fun e => ⟨ytb_of (n := 8) (hL.1 a ha) e, e, fun j hj => absurd hj (Nat.not_lt_zero j)⟩, fun e => e.2.1⟩) (fun a ha => by
      rw [yfr_1 a3 121 a (by decide), h2 a ha]
      congr 1
      apply ytb_ext
      intro c
      show yb _ c ↔ yb _ c
      rw [yb_bs]
      exact ⟨fun e => ⟨ytb_of (n := 8) (yro_lt _ a) e, Or.inl e⟩, fun e => e.2.elim id fun ⟨j, hj, _⟩ => absurd hj (Nat.not_lt_zero j)⟩)
  refine ⟨m', ?_, ⟨fun a ha => ?_, fun a ha => ?_, fun k hk hka hkn => ?_, c2, fun j hj => ?_⟩, yfr_t (yfr_m a3 (by decide)) (yfr_m c6 (by decide))⟩
  · apply fX0_takeClass_116_i
    rw [a1, Option.bind_some]
    exact c1
  · rw [c3 a ha]
    congr 1
    apply ytb_ext
    intro c
    show yb _ c ↔ yad _ a c
    rw [yb_bs, yLs_ad hR]
    constructor
    · rintro ⟨q1, q2, q3⟩
      refine ⟨q2, fun e => ?_, fun e => ?_⟩
      · obtain ⟨j, j1, j2⟩ := (fin a c ha q1).mpr e
        exact (q3 j j1).1 j2
      · obtain ⟨j, j1, j2⟩ := (fin c a q1 ha).mpr e
        exact (q3 j j1).2 j2
    · rintro ⟨q1, q2, q3⟩
      have hc := (hL.2.2 _ _ q1).2
      exact ⟨hc, q1, fun j hj => ⟨fun e => q2 ((fin a c ha hc).mp ⟨j, hj, e⟩), fun e => q3 ((fin c a hc ha).mp ⟨j, hj, e⟩)⟩⟩
  · rw [c4 a ha]
    congr 1
    apply ybs_c
    intro c hc
    have e0 : yb (yro (yTi R b i) a) c ↔ yTi R b i a c := by
      show yb (ybs _ 8) c ↔ _
      rw [yb_bs]
      exact ⟨fun e => e.2, fun e => ⟨hc, e⟩⟩
    rw [e0, fin a c ha hc]
    constructor
    · rintro (⟨j, j1, j2⟩ | e)
      · exact ⟨j, by omega, j2⟩
      · exact ⟨i, by omega, e⟩
    · rintro ⟨j, j1, j2⟩
      by_cases e : j = i
      · subst e; exact Or.inr j2
      · exact Or.inl ⟨j, by omega, j2⟩
  · rw [c5 k hk]
    have key : (∃ j, 0 ≤ j ∧ j < s ∧ (f j = k ∨ ytn (f j) = k)) ↔ (ycli R b i (yan k) ∨ ycli R b i (yrv (yan k))) := by
      have hk8 : k / 8 < 8 := by omega
      have hk9 : k % 8 < 8 := by omega
      constructor
      · rintro ⟨j, _, j1, j2 | j2⟩
        · exact Or.inl ((fin _ _ hk8 hk9).mp ⟨j, j1, by rw [j2]; rfl⟩)
        · refine Or.inr ((fin _ _ hk9 hk8).mp ⟨j, j1, ?_⟩)
          have e := (b3 j j1).2.1
          rw [← j2]
          have : yan (f j) = yrv (yan (ytn (f j))) := by rw [ytn_an e]; rfl
          exact this
      · rintro (e | e)
        · obtain ⟨j, j1, j2⟩ := (fin _ _ hk8 hk9).mpr e
          exact ⟨j, Nat.zero_le _, j1, Or.inl (yan_i j2)⟩
        · obtain ⟨j, j1, j2⟩ := (fin _ _ hk9 hk8).mpr e
          refine ⟨j, Nat.zero_le _, j1, Or.inr ?_⟩
          have e := (b3 j j1).2.1
          apply yan_i
          rw [ytn_an e, j2]
          rfl
    by_cases hin : yar (yLs R b i) k
    · have e1 : yse R b k = i := yse_eq hR hin hkn
      rw [e1]
      have : ycli R b i (yan k) ∨ ycli R b i (yrv (yan k)) := by
        refine Classical.byContradiction fun hn => hkn ((yLs_ad hR b i).mpr ⟨hin, fun e => hn (Or.inl e), fun e => hn (Or.inr e)⟩)
      rw [yif_t (key.mpr this)]
    · rw [yif_f]
      · rw [yfr_1 a3 122 k (by decide)]
        exact h3 k hk hka hin
      · rw [key]
        rintro (e | e)
        · exact hin (ycli_g hR e)
        · exact hin (hL.2.1.1 _ _ (ycli_g hR e))
  · by_cases e : j = i
    · subst e; exact hex
    · exact h5 j (by omega)
theorem s_asv_l_116 {R : Nat → Nat} (hR : yGd R) {b : Nat} (hb : b < 2) : ∀ (d a : Nat), a + d = 64 → ∀ (i : Nat) (m : xmm), i ≤ a → yAI R b i 120 121 122 116 4 m → (∀ k, k < a → ¬ yar (yLs R b i) k) → ∃ m', bX0_solve_116_37 (nI b) (nI a) m = some m' ∧ yAI R b (yN R b) 120 121 122 116 4 m' ∧ yfr [116, 117, 118, 119, 120, 121, 122] m m' := by
  intro d
  induction d with
  | zero =>
    intro a ha i m hia h hn
    have e : a = 64 := by omega
    subst e
    have eN := yN_eq hR (b := b) (i := i) (fun ⟨k, hk⟩ => hn k (yar_64 (yLs_gd hR b i) hk) hk) h.2.2.2.2
    refine ⟨m, ?_, by rw [eN]; exact h, yfr_r⟩
    apply bX0_solve_116_37_i
    simp (disch := omega) only [yl3, yl4, yl5, yl6, yl7, yl8, yl9, yl10, yl13, yl16, yl20, yl21, yl22, yl23, yl24, yl32, yl40, yl48, yl57, yl59, yl63, yl64, yl97, yl99, yl122, yl255, yl256, yl400, yl1000, yl2000, yl2048, yc0_eq, yc0_eq2, yc0_le, yc0_ge, yc0_lt, yc0_gt, yc0_ad, yc0_da, yc0_sb, yc0_ml, yc0_lm, yc1_eq, yc1_eq2, yc1_le, yc1_ge, yc1_lt, yc1_gt, yc1_ad, yc1_da, yc1_sb, yc1_ml, yc1_lm, yc2_eq, yc2_eq2, yc2_le, yc2_ge, yc2_lt, yc2_gt, yc2_ad, yc2_da, yc2_sb, yc2_ml, yc2_lm, yc31_ge, ymodn, yI_1sl, yc2_dv, yn1_eq, yn1_lt, xgd_t, xlt_e, Option.bind_some, nI_add, pk_mul, pk_sub, pk_div, pk_rem, yI_and, yI_or, yI_xor, yI_nd, yI_nd2, yI_31, yI_shl, nI_leI, nI_ltI, nI_eq, nI_clamp, xinb_t, yP_z, yP_if, if_pos]
  | succ d ih =>
    intro a ha i m hia h hn
    have isA := s_isArrow (v := 120) rfl rfl h.1 (yLs_gd hR b i).1 (x := a) (by omega)
    by_cases harr : yar (yLs R b i) a
    · have harr' : yb (yLs R b i (a / 8)) (a % 8) := harr
      have elo : ylo (yLs R b i) = a := ylo_eq harr hn
      obtain ⟨m1, a1, a2, a3⟩ := s_takeClass_116 hR (by omega) ⟨a, harr⟩ h
      obtain ⟨m', e1, e2, e3⟩ := ih (a + 1) (by omega) (i + 1) m1 (by omega) a2 (fun k hk => yLs_lo hR ⟨a, harr⟩ k (by omega))
      refine ⟨m', ?_, e2, yfr_t a3 e3⟩
      apply bX0_solve_116_37_i
      rw [elo] at a1
      have h4 := h.2.2.2.1
      have n1 : ¬ (1 : Int32) = 0 := by decide
      by_cases hi0 : i = 0
      · by_cases hb1 : b = 1
        · have esq : ysq b i a = ytn a := if_pos ⟨hi0, hb1⟩
          rw [esq] at a1
          have last : bX0_solve_116_70 (nI b) (nI a) (1 : Int32) m = some m' := by
            apply bX0_solve_116_70_i
            simp (disch := omega) only [yl3, yl4, yl5, yl6, yl7, yl8, yl9, yl10, yl13, yl16, yl20, yl21, yl22, yl23, yl24, yl32, yl40, yl48, yl57, yl59, yl63, yl64, yl97, yl99, yl122, yl255, yl256, yl400, yl1000, yl2000, yl2048, yc0_eq, yc0_eq2, yc0_le, yc0_ge, yc0_lt, yc0_gt, yc0_ad, yc0_da, yc0_sb, yc0_ml, yc0_lm, yc1_eq, yc1_eq2, yc1_le, yc1_ge, yc1_lt, yc1_gt, yc1_ad, yc1_da, yc1_sb, yc1_ml, yc1_lm, yc2_eq, yc2_eq2, yc2_le, yc2_ge, yc2_lt, yc2_gt, yc2_ad, yc2_da, yc2_sb, yc2_ml, yc2_lm, yc31_ge, ymodn, yI_1sl, yc2_dv, yn1_eq, yn1_lt, xgd_t, xlt_e, Option.bind_some, nI_add, pk_mul, pk_sub, pk_div, pk_rem, yI_and, yI_or, yI_xor, yI_nd, yI_nd2, yI_31, yI_shl, nI_leI, nI_ltI, nI_eq, nI_clamp, xinb_t, yP_z, yP_if, n1, if_false, s_against', a1]
            exact e1
          simp (disch := omega) only [yl3, yl4, yl5, yl6, yl7, yl8, yl9, yl10, yl13, yl16, yl20, yl21, yl22, yl23, yl24, yl32, yl40, yl48, yl57, yl59, yl63, yl64, yl97, yl99, yl122, yl255, yl256, yl400, yl1000, yl2000, yl2048, yc0_eq, yc0_eq2, yc0_le, yc0_ge, yc0_lt, yc0_gt, yc0_ad, yc0_da, yc0_sb, yc0_ml, yc0_lm, yc1_eq, yc1_eq2, yc1_le, yc1_ge, yc1_lt, yc1_gt, yc1_ad, yc1_da, yc1_sb, yc1_ml, yc1_lm, yc2_eq, yc2_eq2, yc2_le, yc2_ge, yc2_lt, yc2_gt, yc2_ad, yc2_da, yc2_sb, yc2_ml, yc2_lm, yc31_ge, ymodn, yI_1sl, yc2_dv, yn1_eq, yn1_lt, xgd_t, xlt_e, Option.bind_some, nI_add, pk_mul, pk_sub, pk_div, pk_rem, yI_and, yI_or, yI_xor, yI_nd, yI_nd2, yI_31, yI_shl, nI_leI, nI_ltI, nI_eq, nI_clamp, xinb_t, yP_z, yP_if, if_neg, isA, yif_t harr', h4, if_pos, last]
        · have esq : ysq b i a = a := if_neg (fun e => hb1 e.2)
          rw [esq] at a1
          have last : bX0_solve_116_70 (nI b) (nI a) (0 : Int32) m = some m' := by
            apply bX0_solve_116_70_i
            simp (disch := omega) only [yl3, yl4, yl5, yl6, yl7, yl8, yl9, yl10, yl13, yl16, yl20, yl21, yl22, yl23, yl24, yl32, yl40, yl48, yl57, yl59, yl63, yl64, yl97, yl99, yl122, yl255, yl256, yl400, yl1000, yl2000, yl2048, yc0_eq, yc0_eq2, yc0_le, yc0_ge, yc0_lt, yc0_gt, yc0_ad, yc0_da, yc0_sb, yc0_ml, yc0_lm, yc1_eq, yc1_eq2, yc1_le, yc1_ge, yc1_lt, yc1_gt, yc1_ad, yc1_da, yc1_sb, yc1_ml, yc1_lm, yc2_eq, yc2_eq2, yc2_le, yc2_ge, yc2_lt, yc2_gt, yc2_ad, yc2_da, yc2_sb, yc2_ml, yc2_lm, yc31_ge, ymodn, yI_1sl, yc2_dv, yn1_eq, yn1_lt, xgd_t, xlt_e, Option.bind_some, nI_add, pk_mul, pk_sub, pk_div, pk_rem, yI_and, yI_or, yI_xor, yI_nd, yI_nd2, yI_31, yI_shl, nI_leI, nI_ltI, nI_eq, nI_clamp, xinb_t, yP_z, yP_if, if_true, a1]
            exact e1
          simp (disch := omega) only [yl3, yl4, yl5, yl6, yl7, yl8, yl9, yl10, yl13, yl16, yl20, yl21, yl22, yl23, yl24, yl32, yl40, yl48, yl57, yl59, yl63, yl64, yl97, yl99, yl122, yl255, yl256, yl400, yl1000, yl2000, yl2048, yc0_eq, yc0_eq2, yc0_le, yc0_ge, yc0_lt, yc0_gt, yc0_ad, yc0_da, yc0_sb, yc0_ml, yc0_lm, yc1_eq, yc1_eq2, yc1_le, yc1_ge, yc1_lt, yc1_gt, yc1_ad, yc1_da, yc1_sb, yc1_ml, yc1_lm, yc2_eq, yc2_eq2, yc2_le, yc2_ge, yc2_lt, yc2_gt, yc2_ad, yc2_da, yc2_sb, yc2_ml, yc2_lm, yc31_ge, ymodn, yI_1sl, yc2_dv, yn1_eq, yn1_lt, xgd_t, xlt_e, Option.bind_some, nI_add, pk_mul, pk_sub, pk_div, pk_rem, yI_and, yI_or, yI_xor, yI_nd, yI_nd2, yI_31, yI_shl, nI_leI, nI_ltI, nI_eq, nI_clamp, xinb_t, yP_z, yP_if, if_neg, isA, yif_t harr', h4, if_pos, last]
      · have esq : ysq b i a = a := if_neg (fun e => hi0 e.1)
        rw [esq] at a1
        have last : bX0_solve_116_70 (nI b) (nI a) (0 : Int32) m = some m' := by
          apply bX0_solve_116_70_i
          simp (disch := omega) only [yl3, yl4, yl5, yl6, yl7, yl8, yl9, yl10, yl13, yl16, yl20, yl21, yl22, yl23, yl24, yl32, yl40, yl48, yl57, yl59, yl63, yl64, yl97, yl99, yl122, yl255, yl256, yl400, yl1000, yl2000, yl2048, yc0_eq, yc0_eq2, yc0_le, yc0_ge, yc0_lt, yc0_gt, yc0_ad, yc0_da, yc0_sb, yc0_ml, yc0_lm, yc1_eq, yc1_eq2, yc1_le, yc1_ge, yc1_lt, yc1_gt, yc1_ad, yc1_da, yc1_sb, yc1_ml, yc1_lm, yc2_eq, yc2_eq2, yc2_le, yc2_ge, yc2_lt, yc2_gt, yc2_ad, yc2_da, yc2_sb, yc2_ml, yc2_lm, yc31_ge, ymodn, yI_1sl, yc2_dv, yn1_eq, yn1_lt, xgd_t, xlt_e, Option.bind_some, nI_add, pk_mul, pk_sub, pk_div, pk_rem, yI_and, yI_or, yI_xor, yI_nd, yI_nd2, yI_31, yI_shl, nI_leI, nI_ltI, nI_eq, nI_clamp, xinb_t, yP_z, yP_if, if_true, a1]
          exact e1
        simp (disch := omega) only [yl3, yl4, yl5, yl6, yl7, yl8, yl9, yl10, yl13, yl16, yl20, yl21, yl22, yl23, yl24, yl32, yl40, yl48, yl57, yl59, yl63, yl64, yl97, yl99, yl122, yl255, yl256, yl400, yl1000, yl2000, yl2048, yc0_eq, yc0_eq2, yc0_le, yc0_ge, yc0_lt, yc0_gt, yc0_ad, yc0_da, yc0_sb, yc0_ml, yc0_lm, yc1_eq, yc1_eq2, yc1_le, yc1_ge, yc1_lt, yc1_gt, yc1_ad, yc1_da, yc1_sb, yc1_ml, yc1_lm, yc2_eq, yc2_eq2, yc2_le, yc2_ge, yc2_lt, yc2_gt, yc2_ad, yc2_da, yc2_sb, yc2_ml, yc2_lm, yc31_ge, ymodn, yI_1sl, yc2_dv, yn1_eq, yn1_lt, xgd_t, xlt_e, Option.bind_some, nI_add, pk_mul, pk_sub, pk_div, pk_rem, yI_and, yI_or, yI_xor, yI_nd, yI_nd2, yI_31, yI_shl, nI_leI, nI_ltI, nI_eq, nI_clamp, xinb_t, yP_z, yP_if, if_neg, isA, yif_t harr', h4, last]
    · have harr' : ¬ yb (yLs R b i (a / 8)) (a % 8) := harr
      obtain ⟨m', e1, e2, e3⟩ := ih (a + 1) (by omega) i m (by omega) h (fun k hk => by
        by_cases e : k = a
        · subst e; exact harr
        · exact hn k (by omega))
      refine ⟨m', ?_, e2, e3⟩
      apply bX0_solve_116_37_i
      simp (disch := omega) only [yl3, yl4, yl5, yl6, yl7, yl8, yl9, yl10, yl13, yl16, yl20, yl21, yl22, yl23, yl24, yl32, yl40, yl48, yl57, yl59, yl63, yl64, yl97, yl99, yl122, yl255, yl256, yl400, yl1000, yl2000, yl2048, yc0_eq, yc0_eq2, yc0_le, yc0_ge, yc0_lt, yc0_gt, yc0_ad, yc0_da, yc0_sb, yc0_ml, yc0_lm, yc1_eq, yc1_eq2, yc1_le, yc1_ge, yc1_lt, yc1_gt, yc1_ad, yc1_da, yc1_sb, yc1_ml, yc1_lm, yc2_eq, yc2_eq2, yc2_le, yc2_ge, yc2_lt, yc2_gt, yc2_ad, yc2_da, yc2_sb, yc2_ml, yc2_lm, yc31_ge, ymodn, yI_1sl, yc2_dv, yn1_eq, yn1_lt, xgd_t, xlt_e, Option.bind_some, nI_add, pk_mul, pk_sub, pk_div, pk_rem, yI_and, yI_or, yI_xor, yI_nd, yI_nd2, yI_31, yI_shl, nI_leI, nI_ltI, nI_eq, nI_clamp, xinb_t, yP_z, yP_if, if_neg, isA, yif_f harr']
      exact e1
theorem s_asv_r_116 {v : Nat} (hv : Nat.beq v 1999 = false) (hk : xkd v = (1, 8)) (hn : v ∉ [120, 121]) {R : Nat → Nat} {b : Nat} : ∀ (d k : Nat) (m : xmm), k + d = 8 → yrw v R m → (∀ z, z < k → m.1 120 z = nI (R z)) → (∀ z, z < k → m.1 121 z = 0) → ∃ m0, (∀ {z : xmm}, bX0_solve_116_2 v (nI b) (nI 8) m0 = some z → bX0_solve_116_2 v (nI b) (nI k) m = some z) ∧ yrw 120 R m0 ∧ (∀ z, z < 8 → m0.1 121 z = 0) ∧ yfr [120, 121] m m0 := by
  intro d
  induction d with
  | zero =>
    intro k m hk h h2 h3
    have e : k = 8 := by omega
    subst e
    exact ⟨m, id, h2, h3, yfr_r⟩
  | succ d ih =>
    intro k m hkd h h2 h3
    obtain ⟨m0, e1, e2, e3, e4⟩ := ih (k + 1) (xwi (xwi m 120 k (nI (R k))) 121 k 0) (by omega) (fun p hp => by rw [xwi_k (fun e => hn (by rw [e]; decide)), xwi_k (fun e => hn (by rw [e]; decide))]; exact h p hp) (by
      intro z hz
      rw [xwi_k (by decide)]
      by_cases e : z = k
      · subst e; exact xwi_e _ _ _ _
      · rw [xwi_i e]; exact h2 z (by omega)) (by
      intro z hz
      by_cases e : z = k
      · subst e; exact xwi_e _ _ _ _
      · rw [xwi_i e, xwi_k (by decide)]; exact h3 z (by omega))
    refine ⟨m0, fun {z} hz => ?_, e2, e3, yfr_t (yfr_w (yfr_w yfr_r (by decide)) (by decide)) e4⟩
    apply bX0_solve_116_2_i
    simp (disch := omega) only [yl3, yl4, yl5, yl6, yl7, yl8, yl9, yl10, yl13, yl16, yl20, yl21, yl22, yl23, yl24, yl32, yl40, yl48, yl57, yl59, yl63, yl64, yl97, yl99, yl122, yl255, yl256, yl400, yl1000, yl2000, yl2048, yc0_eq, yc0_eq2, yc0_le, yc0_ge, yc0_lt, yc0_gt, yc0_ad, yc0_da, yc0_sb, yc0_ml, yc0_lm, yc1_eq, yc1_eq2, yc1_le, yc1_ge, yc1_lt, yc1_gt, yc1_ad, yc1_da, yc1_sb, yc1_ml, yc1_lm, yc2_eq, yc2_eq2, yc2_le, yc2_ge, yc2_lt, yc2_gt, yc2_ad, yc2_da, yc2_sb, yc2_ml, yc2_lm, yc31_ge, ymodn, yI_1sl, yc2_dv, yn1_eq, yn1_lt, xgd_t, xlt_e, Option.bind_some, nI_add, pk_mul, pk_sub, pk_div, pk_rem, yI_and, yI_or, yI_xor, yI_nd, yI_nd2, yI_31, yI_shl, nI_leI, nI_ltI, nI_eq, nI_clamp, xinb_t, yP_z, yP_if, if_neg, hv, Bool.not_false, xia_t hk, h k (by omega)]
    exact e1 hz
theorem s_asolve_116 {R : Nat → Nat} (hR : yGd R) {b : Nat} (hb : b < 2) {v : Nat} (hv : Nat.beq v 1999 = false) (hk : xkd v = (1, 8)) (hn : v ∉ [120, 121]) {m : xmm} (h : yrw v R m) : ∃ m', fX0_solve_116 v (nI b) m = some m' ∧ yAI R b (yN R b) 120 121 122 116 4 m' ∧ yfr [116, 117, 118, 119, 120, 121, 122] m m' := by
  obtain ⟨m1, a1, a2, a3, a4⟩ := s_asv_r_116 hv hk hn (b := b) 8 0 m rfl h (fun z hz => absurd hz (Nat.not_lt_zero z)) (fun z hz => absurd hz (Nat.not_lt_zero z))
  obtain ⟨m', e1, e2, e3⟩ := s_asv_l_116 hR hb 64 0 rfl 0 (xwi m1 116 4 0) (Nat.le_refl _) ⟨fun p hp => by rw [xwi_k (by decide)]; exact a2 p hp, fun p hp => by
      rw [xwi_k (by decide), a3 p hp]
      have : yro (yTi R b 0) p = 0 := by
        apply ytb_ext
        intro c
        show yb (ybs _ 8) c ↔ yb 0 c
        rw [yb_bs]
        exact ⟨fun ⟨_, j, hj, _⟩ => absurd hj (Nat.not_lt_zero j), fun e => absurd e yb_0⟩
      rw [this]
      rfl, fun k _ h1 h2 => absurd h1 h2, by rw [xwi_e]; rfl, fun j hj => absurd hj (Nat.not_lt_zero j)⟩ (fun k hk => absurd hk (Nat.not_lt_zero k))
  refine ⟨m', ?_, e2, yfr_t (yfr_w (yfr_m a4 (by decide)) (by decide)) e3⟩
  apply fX0_solve_116_i
  apply a1
  apply bX0_solve_116_2_i
  rw [if_pos (by decide)]
  exact e1
