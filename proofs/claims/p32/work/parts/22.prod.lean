/-! the product over strong sets tells in how many ways -/
noncomputable def yw (g : yG) (T : Nat) : Nat := yif (1 < ypt g T ∨ ypp T < 2) 1 (yif (ypt (yco g) T = 1) 2 (yfa (ypt (yco g) T)))
noncomputable def yPr (g : yG) (S : Nat) : Nat := ypr (fun T => yif (yst g S T) (yw g T) 1) 256
theorem ysb_t {A B C : Nat} (h : ysb A B) (h2 : ysb B C) : ysb A C := fun a ha => h2 a (h a ha)
theorem ymo_dn {g : yG} {S M T : Nat} (hM : ysb M S) (h : ymo g S T) (hT : ysb T M) : ymo g M T := ⟨hT, h.2.1, fun x hx => h.2.2 x (hM x hx)⟩
theorem ymo_up {g : yG} {S M T : Nat} (hM : ymo g S M) (h : ymo g M T) : ymo g S T := by
  refine ⟨ysb_t h.1 hM.1, h.2.1, fun x hx hn a b ha hb => ?_⟩
  by_cases hxm : yb M x
  · exact h.2.2 x hxm hn a b ha hb
  · exact hM.2.2 x hx hxm a b (h.1 a ha) (h.1 b hb)
theorem yst_sub {g : yG} {S M T : Nat} (hM : yst g S M) (hT : ysb T M) : yst g S T ↔ yst g M T := by
  constructor
  · intro h
    exact ⟨ymo_dn hM.1.1 h.1 hT, fun M' m1 m2 => h.2 M' (ymo_up hM.1 m1) m2⟩
  · intro h
    refine ⟨ymo_up hM.1 h.1, fun M' m1 ⟨e, e1, e2⟩ => ?_⟩
    rcases hM.2 M' m1 ⟨e, hT e e1, e2⟩ with h1 | h1
    · exact Or.inl (ysb_t hT h1)
    · exact h.2 M' (ymo_dn hM.1.1 m1 h1) ⟨e, e1, e2⟩
/-- within a greater set, a strong one hangs together -/
theorem yst_cn {g : yG} (hg : ysy g) {T M : Nat} (hT : T < 2 ^ 8) (hM : yst g T M) {e : Nat} (he : yb T e) (hen : ¬ yb M e) {a b : Nat} (ha : yb M a) (hb : yb M b) : ycn g T a b := by
  refine Classical.byContradiction fun hn => ?_
  have hMT := hM.1.1
  have sta := (ycm_st hg hT (hMT a ha)).1
  have ste := (ycm_st hg hT he).1
  have ma : ∀ x, yb (ycm g T a) x ↔ yb T x ∧ ycn g T a x := fun x => ycm_b hT
  have me : ∀ x, yb (ycm g T e) x ↔ yb T x ∧ ycn g T e x := fun x => ycm_b hT
  have kill : ∀ N, ymo g T N → (∃ x, yb M x ∧ yb N x) → (∃ x, yb M x ∧ ¬ yb N x) → yb N e → False := by
    rintro N hN h1 ⟨x, x1, x2⟩ h3
    rcases hM.2 N hN h1 with h | h
    · exact x2 (h x x1)
    · exact hen (h e h3)
  by_cases hbe : ycn g T e b
  · exact kill _ ste ⟨b, hb, (me b).mpr ⟨hMT b hb, hbe⟩⟩ ⟨a, ha, fun h => hn (ycn_t (ycn_sy hg he ((me a).mp h).2) hbe)⟩ ((me e).mpr ⟨he, ycn_r g T e⟩)
  · refine kill (ycm g T a ||| ycm g T e) ?_ ⟨a, ha, yb_or.mpr (Or.inl ((ma a).mpr ⟨hMT a ha, ycn_r g T a⟩))⟩ ⟨b, hb, fun h => ?_⟩ (yb_or.mpr (Or.inr ((me e).mpr ⟨he, ycn_r g T e⟩)))
    · refine ymo_cl hg (fun x hx => ?_) ⟨a, yb_or.mpr (Or.inl ((ma a).mpr ⟨hMT a ha, ycn_r g T a⟩))⟩ fun u v hu huv hv => ?_
      · rcases yb_or.mp hx with h | h
        · exact ((ma x).mp h).1
        · exact ((me x).mp h).1
      · rcases yb_or.mp hu with h | h
        · exact yb_or.mpr (Or.inl ((ma v).mpr ⟨hv, ycn_s ((ma u).mp h).2 huv hv⟩))
        · exact yb_or.mpr (Or.inr ((me v).mpr ⟨hv, ycn_s ((me u).mp h).2 huv hv⟩))
    · rcases yb_or.mp h with h | h
      · exact hn ((ma b).mp h).2
      · exact hbe ((me b).mp h).2
/-- with one for a strong set there are as many parts -/
theorem ypt_qt {g : yG} (hg : ysy g) {T M m0 : Nat} (hT : T < 2 ^ 8) (hM : yst g T M) {e : Nat} (he : yb T e) (hen : ¬ yb M e) (h0 : yb M m0) (hmin : ∀ b, b < m0 → ¬ yb M b) : ypt g (yqt T M m0) = ypt g T := by
  have hMT := hM.1.1
  have hQT : ysb (yqt T M m0) T := fun a ha => by
    rcases yqt_b.mp ha with h | h
    · exact h.1
    · rw [h]; exact hMT _ h0
  have up : ∀ {a b}, ycn g (yqt T M m0) a b → ycn g T a b := fun h X h1 h2 => h X h1 fun u v hu huv hv => h2 u v hu huv (hQT v hv)
  have down : ∀ {a b}, yb (yqt T M m0) a → yb (yqt T M m0) b → ycn g T a b → ycn g (yqt T M m0) a b := by
    intro a b ha hb h X h1 h2
    have piid : ∀ {a : Nat}, yb (yqt T M m0) a → ypi M m0 a = a := by
      intro a ha
      by_cases h : yb M a
      · rcases yqt_b.mp ha with h' | h'
        · exact absurd h h'.2
        · rw [ypi_in h, h']
      · exact ypi_out h
    have := h (fun u => yb T u ∧ X (ypi M m0 u)) ⟨hQT a ha, by rw [piid ha]; exact h1⟩ (by
      rintro u v ⟨hu, hX⟩ huv hv
      refine ⟨hv, ?_⟩
      by_cases hum : yb M u
      · rw [ypi_in hum] at hX
        by_cases hvm : yb M v
        · rw [ypi_in hvm]; exact hX
        · rw [ypi_out hvm]
          have : g v m0 := (hM.1.2.2 v hv hvm u m0 hum h0).mp (hg.1 _ _ huv)
          exact h2 m0 v hX (hg.1 _ _ this) (yqt_b.mpr (Or.inl ⟨hv, hvm⟩))
      · rw [ypi_out hum] at hX
        by_cases hvm : yb M v
        · rw [ypi_in hvm]
          exact h2 u m0 hX ((hM.1.2.2 u hu hum v m0 hvm h0).mp huv) (yqt_b.mpr (Or.inr rfl))
        · rw [ypi_out hvm]
          exact h2 u v hX huv (yqt_b.mpr (Or.inl ⟨hv, hvm⟩)))
    rw [← piid hb]
    exact this.2
  have con : ∀ {a b}, yb M a → yb M b → ycn g T a b := fun ha hb => yst_cn hg hT hM he hen ha hb
  unfold ypt
  apply yct_c
  intro a _
  constructor
  · rintro ⟨h1, h2⟩
    refine ⟨hQT a h1, fun b hb hbT hc => ?_⟩
    by_cases hbQ : yb (yqt T M m0) b
    · exact h2 b hb hbQ (down hbQ h1 hc)
    · have hbM : yb M b := Classical.byContradiction fun h => hbQ (yqt_b.mpr (Or.inl ⟨hbT, h⟩))
      have hm : m0 < b := by
        rcases Nat.lt_trichotomy m0 b with h | h | h
        · exact h
        · exact absurd (yqt_b.mpr (Or.inr h.symm)) hbQ
        · exact absurd hbM (hmin b h)
      have hq : yb (yqt T M m0) m0 := yqt_b.mpr (Or.inr rfl)
      exact h2 m0 (by omega) hq (down hq h1 (ycn_t (con h0 hbM) hc))
  · rintro ⟨h1, h2⟩
    have haQ : yb (yqt T M m0) a := by
      by_cases h : yb M a
      · rcases Nat.lt_trichotomy m0 a with e | e | e
        · exact absurd (con h0 h) (h2 m0 e (hMT m0 h0))
        · exact yqt_b.mpr (Or.inr e.symm)
        · exact absurd h (hmin a e)
      · exact yqt_b.mpr (Or.inl ⟨h1, h⟩)
    exact ⟨haQ, fun b hb hbQ hc => h2 b hb (hQT b hbQ) (up hc)⟩
theorem yw_qt {g : yG} (hg : ysy g) {T M m0 : Nat} (hT : T < 2 ^ 8) (hM : yst g T M) {e : Nat} (he : yb T e) (hen : ¬ yb M e) (h0 : yb M m0) (hmin : ∀ b, b < m0 → ¬ yb M b) : yw g (yqt T M m0) = yw g T := by
  have e1 := ypt_qt hg hT hM he hen h0 hmin
  have e2 := ypt_qt (yco_sy hg) hT (yco_st.mpr hM) he hen h0 hmin
  have hne : m0 ≠ e := fun h => hen (by rw [← h]; exact h0)
  have hQ : yqt T M m0 < 2 ^ 8 := by
    apply ytb_lt
    intro i hi
    rcases yqt_b.mp hi with h | h
    · exact ytb_of hT h.1
    · rw [h]; exact ytb_of hT (hM.1.1 _ h0)
  have p1 : ¬ ypp T < 2 := by have := ypp_ge2 hT (hM.1.1 _ h0) he hne; omega
  have p2 : ¬ ypp (yqt T M m0) < 2 := by have := ypp_ge2 hQ (yqt_b.mpr (Or.inr rfl)) (yqt_b.mpr (Or.inl ⟨he, hen⟩)) hne; omega
  unfold yw
  rw [e1, e2]
  exact yif_c (by constructor <;> (rintro (h | h); exact Or.inl h; exact absurd h (by assumption)))
theorem yPr_qt {g : yG} (hg : ysy g) {S M m0 : Nat} (hS : S < 2 ^ 8) (hM : yst g S M) (h0 : yb M m0) (hmin : ∀ b, b < m0 → ¬ yb M b) : yPr g S = yPr g M * yPr g (yqt S M m0) := by
  have hMS := hM.1.1
  have hQS : ysb (yqt S M m0) S := fun a ha => by
    rcases yqt_b.mp ha with h | h
    · exact h.1
    · rw [h]; exact hMS _ h0
  have hq0 : yb (yqt S M m0) m0 := yqt_b.mpr (Or.inr rfl)
  have lt : ∀ {T}, ysb T S → T < 256 := fun h => Nat.lt_of_le_of_lt (ysb_le h) hS
  -- split
  have hsplit : yPr g S = ypr (fun T => yif (yst g S T ∧ ysb T M) (yw g T) 1) 256 * ypr (fun T => yif (yst g S T ∧ ¬ ysb T M) (yw g T) 1) 256 := by
    unfold yPr
    rw [← ypr_ml]
    apply ypr_c
    intro T _
    by_cases h : yst g S T
    · by_cases h2 : ysb T M
      · rw [yif_t h, yif_t ⟨h, h2⟩, yif_f (p := yst g S T ∧ ¬ ysb T M) (fun e => e.2 h2), Nat.mul_one]
      · rw [yif_t h, yif_f (p := yst g S T ∧ ysb T M) (fun e => h2 e.2), yif_t (p := yst g S T ∧ ¬ ysb T M) ⟨h, h2⟩, Nat.one_mul]
    · rw [yif_f h, yif_f (p := yst g S T ∧ ysb T M) (fun e => h e.1), yif_f (p := yst g S T ∧ ¬ ysb T M) (fun e => h e.1)]
  have h1 : ypr (fun T => yif (yst g S T ∧ ysb T M) (yw g T) 1) 256 = yPr g M := by
    unfold yPr
    apply ypr_c
    intro T _
    apply yif_c
    constructor
    · rintro ⟨h, h2⟩
      exact (yst_sub hM h2).mp h
    · intro h
      exact ⟨(yst_sub hM h.1.1).mpr h, h.1.1⟩
  -- what meets M, or holds it
  have hat : ∀ U a, yb (yif (yb U m0) (U ||| M) U) a ↔ yb U a ∨ (yb U m0 ∧ yb M a) := by
    intro U a
    by_cases h : yb U m0
    · rw [yif_t h, yb_or]
      exact ⟨fun e => e.elim Or.inl fun e => Or.inr ⟨h, e⟩, fun e => e.elim Or.inl fun e => Or.inr e.2⟩
    · rw [yif_f h]
      exact ⟨Or.inl, fun e => e.elim id fun e => absurd e.1 h⟩
  have cap : ∀ T a, yb (T &&& yqt S M m0) a ↔ yb T a ∧ ((yb S a ∧ ¬ yb M a) ∨ a = m0) := by
    intro T a
    rw [yb_an, yqt_b]
  have mdn : ∀ {T}, ymo g S T → (∃ a, yb (T &&& yqt S M m0) a) → ymo g (yqt S M m0) (T &&& yqt S M m0) := by
    intro T hT hne
    refine ⟨fun a ha => (yb_an.mp ha).2, hne, fun x hx hxn a b ha hb => ?_⟩
    have hxT : ¬ yb T x := fun h => hxn (yb_an.mpr ⟨h, hx⟩)
    exact hT.2.2 x (hQS x hx) hxT a b (yb_an.mp ha).1 (yb_an.mp hb).1
  have mup : ∀ {U}, ymo g (yqt S M m0) U → ymo g S (yif (yb U m0) (U ||| M) U) := by
    intro U hU
    refine ⟨fun a ha => ?_, ?_, fun x hx hxn a b ha hb => ?_⟩
    · rcases (hat U a).mp ha with h | h
      · exact hQS a (hU.1 a h)
      · exact hMS a h.2
    · obtain ⟨a, ha⟩ := hU.2.1
      exact ⟨a, (hat U a).mpr (Or.inl ha)⟩
    · have hxU : ¬ yb U x := fun h => hxn ((hat U x).mpr (Or.inl h))
      by_cases hxM : yb M x
      · have h0U : ¬ yb U m0 := fun h => hxn ((hat U x).mpr (Or.inr ⟨h, hxM⟩))
        have ha' : yb U a := ((hat U a).mp ha).elim id fun e => absurd e.1 h0U
        have hb' : yb U b := ((hat U b).mp hb).elim id fun e => absurd e.1 h0U
        have nM : ∀ {a}, yb U a → ¬ yb M a := by
          intro a ha hm
          rcases yqt_b.mp (hU.1 a ha) with h | h
          · exact h.2 hm
          · rw [h] at ha; exact h0U ha
        have see : ∀ {a}, yb U a → (g x a ↔ g m0 a) := by
          intro a ha
          have := hM.1.2.2 a (hQS a (hU.1 a ha)) (nM ha) x m0 hxM h0
          exact ⟨fun e => hg.1 _ _ (this.mp (hg.1 _ _ e)), fun e => hg.1 _ _ (this.mpr (hg.1 _ _ e))⟩
        exact (see ha').trans ((hU.2.2 m0 hq0 h0U a b ha' hb').trans (see hb').symm)
      · have hxQ : yb (yqt S M m0) x := yqt_b.mpr (Or.inl ⟨hx, hxM⟩)
        have see : ∀ {a}, yb (yif (yb U m0) (U ||| M) U) a → ∃ c, yb U c ∧ (g x a ↔ g x c) := by
          intro a ha
          rcases (hat U a).mp ha with h | h
          · exact ⟨a, h, Iff.rfl⟩
          · exact ⟨m0, h.1, hM.1.2.2 x hx hxM a m0 h.2 h0⟩
        obtain ⟨c, c1, c2⟩ := see ha
        obtain ⟨d, d1, d2⟩ := see hb
        exact c2.trans ((hU.2.2 x hxQ hxU c d c1 d1).trans d2.symm)
  have tri : ∀ {T}, ymo g S T → ¬ ysb T M → ysb M T ∨ ∀ a, yb M a → ¬ yb T a := by
    intro T hT hn
    by_cases hme : ∃ a, yb M a ∧ yb T a
    · rcases hM.2 T hT hme with h | h
      · exact Or.inl h
      · exact absurd h hn
    · exact Or.inr fun a ha hb => hme ⟨a, ha, hb⟩
  have capne : ∀ {T}, ymo g S T → ¬ ysb T M → ∃ a, yb (T &&& yqt S M m0) a := by
    intro T hT hn
    refine Classical.byContradiction fun h => hn fun a ha => Classical.byContradiction fun h2 => h ⟨a, (cap T a).mpr ⟨ha, Or.inl ⟨hT.1 a ha, h2⟩⟩⟩
  have hback : ∀ {T}, ymo g S T → ¬ ysb T M → yif (yb (T &&& yqt S M m0) m0) ((T &&& yqt S M m0) ||| M) (T &&& yqt S M m0) = T := by
    intro T hT hn
    apply ytb_ext
    intro a
    rw [show ((yif (yb (T &&& yqt S M m0) m0) ((T &&& yqt S M m0) ||| M) (T &&& yqt S M m0)).testBit a = true ↔ _) from hat _ a]
    rcases tri hT hn with h | h
    · constructor
      · rintro (e | e)
        · exact (yb_an.mp e).1
        · exact h a e.2
      · intro e
        by_cases hm : yb M a
        · exact Or.inr ⟨yb_an.mpr ⟨h _ h0, hq0⟩, hm⟩
        · exact Or.inl ((cap T a).mpr ⟨e, Or.inl ⟨hT.1 a e, hm⟩⟩)
    · constructor
      · rintro (e | e)
        · exact (yb_an.mp e).1
        · exact absurd (yb_an.mp e.1).1 (h _ h0)
      · intro e
        exact Or.inl ((cap T a).mpr ⟨e, Or.inl ⟨hT.1 a e, fun hm => h a hm e⟩⟩)
  have hforth : ∀ {U}, ymo g (yqt S M m0) U → (yif (yb U m0) (U ||| M) U) &&& yqt S M m0 = U := by
    intro U hU
    apply ytb_ext
    intro a
    rw [show ((yif (yb U m0) (U ||| M) U &&& yqt S M m0).testBit a = true ↔ _) from cap _ a, hat U a]
    constructor
    · rintro ⟨e | e, h⟩
      · exact e
      · rcases h with h | h
        · exact absurd e.2 h.2
        · rw [h]; exact e.1
    · intro e
      exact ⟨Or.inl e, yqt_b.mp (hU.1 a e)⟩
  have sdn : ∀ {T}, yst g S T → ¬ ysb T M → yst g (yqt S M m0) (T &&& yqt S M m0) := by
    intro T hT hn
    refine ⟨mdn hT.1 (capne hT.1 hn), fun W hW ⟨e, e1, e2⟩ => ?_⟩
    rcases hT.2 _ (mup hW) ⟨e, (yb_an.mp e1).1, (hat W e).mpr (Or.inl e2)⟩ with h | h
    · refine Or.inl fun a ha => ?_
      have := yb_an.mpr ⟨h a (yb_an.mp ha).1, (yb_an.mp ha).2⟩
      rw [hforth hW] at this
      exact this
    · refine Or.inr fun a ha => yb_an.mpr ⟨h a ((hat W a).mpr (Or.inl ha)), hW.1 a ha⟩
  have sup : ∀ {U}, yst g (yqt S M m0) U → U ≠ 2 ^ m0 → yst g S (yif (yb U m0) (U ||| M) U) ∧ ¬ ysb (yif (yb U m0) (U ||| M) U) M := by
    intro U hU hne
    refine ⟨⟨mup hU.1, fun W hW ⟨e, e1, e2⟩ => ?_⟩, ?_⟩
    · by_cases hWM : ysb W M
      · have h0U : yb U m0 := by
          rcases (hat U e).mp e1 with h | h
          · rcases yqt_b.mp (hU.1.1 e h) with h' | h'
            · exact absurd (hWM e e2) h'.2
            · rw [h'] at h; exact h
          · exact h.1
        exact Or.inr fun a ha => (hat U a).mpr (Or.inr ⟨h0U, hWM a ha⟩)
      · have hWne := capne hW hWM
        have hWQ := mdn hW hWne
        rcases tri hW hWM with hMW | hdis
        · have hmeet : ∃ a, yb U a ∧ yb (W &&& yqt S M m0) a := by
            rcases (hat U e).mp e1 with h | h
            · exact ⟨e, h, yb_an.mpr ⟨e2, hU.1.1 e h⟩⟩
            · exact ⟨m0, h.1, yb_an.mpr ⟨hMW _ h0, hq0⟩⟩
          rcases hU.2 _ hWQ hmeet with h | h
          · refine Or.inl fun a ha => ?_
            rcases (hat U a).mp ha with h' | h'
            · exact (yb_an.mp (h a h')).1
            · exact hMW a h'.2
          · refine Or.inr fun a ha => ?_
            by_cases hm : yb M a
            · exact (hat U a).mpr (Or.inr ⟨h m0 (yb_an.mpr ⟨hMW _ h0, hq0⟩), hm⟩)
            · exact (hat U a).mpr (Or.inl (h a ((cap W a).mpr ⟨ha, Or.inl ⟨hW.1 a ha, hm⟩⟩)))
        · have hWin : ∀ a, yb W a → yb (W &&& yqt S M m0) a := fun a ha => (cap W a).mpr ⟨ha, Or.inl ⟨hW.1 a ha, fun hm => hdis a hm ha⟩⟩
          have hmeet : ∃ a, yb U a ∧ yb (W &&& yqt S M m0) a := by
            rcases (hat U e).mp e1 with h | h
            · exact ⟨e, h, hWin e e2⟩
            · exact absurd e2 (hdis e h.2)
          rcases hU.2 _ hWQ hmeet with h | h
          · refine Or.inl fun a ha => ?_
            rcases (hat U a).mp ha with h' | h'
            · exact (yb_an.mp (h a h')).1
            · exact absurd (yb_an.mp (h m0 h'.1)).1 (hdis m0 h0)
          · exact Or.inr fun a ha => (hat U a).mpr (Or.inl (h a (hWin a ha)))
    · intro hsub
      apply hne
      have only : ∀ a, yb U a → a = m0 := by
        intro a ha
        rcases yqt_b.mp (hU.1.1 a ha) with h | h
        · exact absurd (hsub a ((hat U a).mpr (Or.inl ha))) h.2
        · exact h
      apply ytb_ext
      intro a
      constructor
      · intro h
        exact yb_pw.mpr (only a h)
      · intro h
        obtain ⟨c, hc⟩ := hU.1.2.1
        have := only c hc
        rw [yb_pw.mp h, ← this]
        exact hc
  have h2 : ypr (fun T => yif (yst g S T ∧ ¬ ysb T M) (yw g T) 1) 256 = ypr (fun U => yif (yst g (yqt S M m0) U ∧ U ≠ 2 ^ m0) (yw g U) 1) 256 := by
    refine ypr_b (fun T => T &&& yqt S M m0) (fun U => yif (yb U m0) (U ||| M) U) ?_ ?_
    · rintro T _ ⟨hT, hn⟩
      refine ⟨lt fun a ha => hQS a (yb_an.mp ha).2, ⟨sdn hT hn, fun e => hn fun a ha => ?_⟩, hback hT.1 hn, ?_⟩
      · refine Classical.byContradiction fun hm => ?_
        have : yb (T &&& yqt S M m0) a := (cap T a).mpr ⟨ha, Or.inl ⟨hT.1.1 a ha, hm⟩⟩
        have e : T &&& yqt S M m0 = 2 ^ m0 := e
        rw [e, yb_pw] at this
        rw [this] at hm
        exact hm h0
      · rcases tri hT.1 hn with h | h
        · have e : T &&& yqt S M m0 = yqt T M m0 := by
            apply ytb_ext
            intro a
            rw [show ((T &&& yqt S M m0).testBit a = true ↔ _) from cap T a, show ((yqt T M m0).testBit a = true ↔ _) from yqt_b]
            constructor
            · rintro ⟨e1, e2 | e2⟩
              · exact Or.inl ⟨e1, e2.2⟩
              · exact Or.inr e2
            · rintro (e1 | e1)
              · exact ⟨e1.1, Or.inl ⟨hT.1.1 a e1.1, e1.2⟩⟩
              · exact ⟨by rw [e1]; exact h _ h0, Or.inr e1⟩
          have hex : ∃ x, yb T x ∧ ¬ yb M x := Classical.byContradiction fun h => hn fun a ha => Classical.byContradiction fun h3 => h ⟨a, ha, h3⟩
          obtain ⟨x, x1, x2⟩ := hex
          show yw g T = yw g (T &&& yqt S M m0)
          rw [e]
          exact (yw_qt hg (lt hT.1.1) ((yst_sub hT h).mp hM) x1 x2 h0 hmin).symm
        · have e : T &&& yqt S M m0 = T := by
            apply ytb_ext
            intro a
            rw [show ((T &&& yqt S M m0).testBit a = true ↔ _) from cap T a]
            exact ⟨fun e => e.1, fun e => ⟨e, Or.inl ⟨hT.1.1 a e, fun hm => h a hm e⟩⟩⟩
          show yw g T = yw g (T &&& yqt S M m0)
          rw [e]
    · rintro U _ ⟨hU, hne⟩
      exact ⟨lt (mup hU.1).1, sup hU hne, hforth hU.1⟩
  have h3 : ypr (fun U => yif (yst g (yqt S M m0) U ∧ U ≠ 2 ^ m0) (yw g U) 1) 256 = yPr g (yqt S M m0) := by
    unfold yPr
    apply ypr_c
    intro U _
    by_cases h : yst g (yqt S M m0) U
    · by_cases e : U = 2 ^ m0
      · rw [yif_f (p := yst g (yqt S M m0) U ∧ U ≠ 2 ^ m0) (fun h => h.2 e), yif_t h]
        unfold yw
        rw [yif_t]
        refine Or.inr (Classical.byContradiction fun hn => ?_)
        obtain ⟨i, j, i1, i2, i3, i4⟩ := yct_p2 (P := fun a => yb U a) (n := 8) (by have : ypp U = yct (fun a => yb U a) 8 := rfl; omega)
        rw [e, yb_pw] at i3 i4
        omega
      · rw [yif_t (p := yst g (yqt S M m0) U ∧ U ≠ 2 ^ m0) ⟨h, e⟩, yif_t h]
    · rw [yif_f (p := yst g (yqt S M m0) U ∧ U ≠ 2 ^ m0) (fun e => h e.1), yif_f h]
  rw [hsplit, h1, h2, h3]
/-- THE WAYS: as many as the product over strong sets says -/
theorem yways {g : yG} (hg : ysy g) : ∀ (S : Nat), S < 2 ^ 8 → yord (yin g S) → yhc (yTO (yin g S)) (yPr g S) := by
  intro S
  induction S using Nat.strongRecOn with
  | ind S ih =>
    intro hS ho
    have hg' := yin_sy hg S
    have triv : ∀ T, (∀ a b, yb T a → yb T b → a = b) → yw g T = 1 := by
      intro T h
      unfold yw
      rw [yif_t]
      refine Or.inr (Classical.byContradiction fun hn => ?_)
      obtain ⟨i, j, i1, i2, i3, i4⟩ := yct_p2 (P := fun a => yb T a) (n := 8) (by have : ypp T = yct (fun a => yb T a) 8 := rfl; omega)
      have := h i j i3 i4
      omega
    by_cases hM : ∃ M, yst g S M ∧ ¬ ((∀ a b, yb M a → yb M b → a = b) ∨ M = S)
    · obtain ⟨M, hM, hM2⟩ := hM
      obtain ⟨m0, h0, hmin⟩ := yleast hM.1.2.1
      have hex : ∃ x, yb S x ∧ ¬ yb M x := Classical.byContradiction fun h => hM2 (Or.inr (ysb_eq hM.1.1 fun a ha => Classical.byContradiction fun h3 => h ⟨a, ha, h3⟩))
      obtain ⟨x, x1, x2⟩ := hex
      have hlt : M < S := ysb_lt hM.1.1 x1 x2
      have hne : ∃ m1, yb M m1 ∧ m1 ≠ m0 := by
        refine Classical.byContradiction fun h => hM2 (Or.inl fun a b ha hb => ?_)
        have e1 : a = m0 := Classical.byContradiction fun h2 => h ⟨a, ha, h2⟩
        have e2 : b = m0 := Classical.byContradiction fun h2 => h ⟨b, hb, h2⟩
        rw [e1, e2]
      obtain ⟨m1, m2, m3⟩ := hne
      have hQS : ysb (yqt S M m0) S := fun a ha => by
        rcases yqt_b.mp ha with h | h
        · exact h.1
        · rw [h]; exact hM.1.1 _ h0
      have hlt2 : yqt S M m0 < S := ysb_lt hQS (hM.1.1 m1 m2) fun h => by
        rcases yqt_b.mp h with h | h
        · exact h.2 m2
        · exact m3 h
      rw [yPr_qt hg hS hM h0 hmin]
      exact yTO_qt hg hS hM h0 (ih M hlt (Nat.lt_trans hlt hS) (yord_in hM.1.1 ho)) (ih _ hlt2 (Nat.lt_trans hlt2 hS) (yord_in hQS ho))
    · have hst : ∀ M, yst g S M → (∀ a b, yb M a → yb M b → a = b) ∨ M = S := fun M h => Classical.byContradiction fun h2 => hM ⟨M, h, h2⟩
      by_cases hne : ∃ a, yb S a
      · have hSS : yst g S S := ⟨⟨fun a h => h, hne, fun x hx hn => absurd hx hn⟩, fun M' h _ => Or.inr h.1⟩
        have hPr : yPr g S = yw g S := by
          unfold yPr
          rw [ypr_e (j := S) hS, yif_t hSS]
          intro T _ hT
          by_cases h : yst g S T
          · rw [yif_t h]
            rcases hst T h with h2 | h2
            · exact triv T h2
            · exact absurd h2 hT
          · exact yif_f h
        rw [hPr]
        have noline : (∀ a b, yb S a → yb S b → ¬ g a b) → yhc (yTO (yin g S)) 1 := by
          intro hn
          refine yhc_1 (fun _ _ => False) ⟨fun _ _ h => h.elim, fun a b h => absurd h.1 (hn a b h.2.1 h.2.2), fun _ _ h => h.elim, fun _ _ _ h => h.elim⟩ ?_
          intro T hT
          funext a b
          apply propext
          exact ⟨fun h => by have := hT.1 _ _ h; exact hn a b this.2.1 this.2.2 this.1, fun h => h.elim⟩
        by_cases hp : 1 < ypt g S ∨ ypp S < 2
        · have e : yw g S = 1 := by unfold yw; exact yif_t hp
          rw [e]
          apply noline
          intro a b ha hb hl
          rcases hp with hp | hp
          · have hab : a ≠ b := fun e => by rw [e] at hl; exact hg.2 b hl
            rcases hst _ (ycm_st hg hS ha) with h | h
            · exact hab (h a b ((ycm_b hS).mpr ⟨ha, ycn_r g S a⟩) ((ycm_b hS).mpr ⟨hb, ycn_s (ycn_r g S a) hl hb⟩))
            · have all : ∀ c, yb S c → ycn g S a c := fun c hc => ((ycm_b hS).mp (by rw [h]; exact hc)).2
              have := ypt_of (g := g) (S := S) fun c d hc hd => ycn_t (ycn_sy hg ha (all c hc)) (all d hd)
              omega
          · have := ypp_lt2 hS hp ha hb
            rw [this] at hl
            exact hg.2 b hl
        · have hp1 : ypt g S ≤ 1 := by omega
          have hp2 : 2 ≤ ypp S := by omega
          obtain ⟨i, j, i1, i2, i3, i4⟩ := yct_p2 (P := fun a => yb S a) (n := 8) hp2
          by_cases hc : ypt (yco g) S = 1
          · have e : yw g S = 2 := by unfold yw; rw [yif_f hp, yif_t hc]
            rw [e]
            have hprm := yprm_of hg hS hst hp1 (by omega)
            have hcon := ypt_le1 hg hS hp1 i3 i4
            have hline : ∃ x : yA, yin g S x.1 x.2 := by
              refine Classical.byContradiction fun hn => ?_
              have := hcon (fun u => u = i) rfl fun u v hu huv hv => absurd ⟨(u, v), huv, by rw [hu]; exact i3, hv⟩ hn
              omega
            obtain ⟨x, hx⟩ := hline
            exact yprm_2 hg hS hprm ho hx
          · have hall : ∀ a b, yb S a → yb S b → a ≠ b → g a b := by
              intro a b ha hb hab
              refine Classical.byContradiction fun hl => ?_
              rcases hst _ (yco_st.mp (ycm_st (yco_sy hg) hS ha)) with h | h
              · exact hab (h a b ((ycm_b hS).mpr ⟨ha, ycn_r _ S a⟩) ((ycm_b hS).mpr ⟨hb, ycn_s (ycn_r _ S a) ⟨hab, hl⟩ hb⟩))
              · have all : ∀ c, yb S c → ycn (yco g) S a c := fun c hc => ((ycm_b hS).mp (by rw [h]; exact hc)).2
                have h1 := ypt_of (g := yco g) (S := S) fun c d hc hd => ycn_t (ycn_sy (yco_sy hg) ha (all c hc)) (all d hd)
                have h2 := ypt_ge1 (g := yco g) hS hne
                omega
            have e2 : ypt (yco g) S = ypp S := by
              unfold ypt ypp
              apply yct_c
              intro a _
              refine ⟨fun h => h.1, fun h => ⟨h, fun b hb hbS hc => ?_⟩⟩
              have := hc (fun u => u = b) rfl fun u v hu huv hv => by
                rw [hu] at huv
                exact absurd (hall b v hbS hv huv.1) huv.2
              omega
            have e : yw g S = yfa (ypp S) := by unfold yw; rw [yif_f hp, yif_f hc, e2]
            rw [e]
            exact yTO_all hg S hS hall
      · have hn : ∀ a, ¬ yb S a := fun a ha => hne ⟨a, ha⟩
        have hPr : yPr g S = 1 := by
          unfold yPr
          apply ypr_o
          intro T _
          by_cases h : yst g S T
          · rw [yif_t h]
            exact triv T fun a b ha _ => absurd (h.1.1 a ha) (hn a)
          · exact yif_f h
        rw [hPr]
        refine yhc_1 (fun _ _ => False) ⟨fun _ _ h => h.elim, fun a _ h => absurd h.2.1 (hn a), fun _ _ h => h.elim, fun _ _ _ h => h.elim⟩ ?_
        intro T hT
        funext a b
        apply propext
        exact ⟨fun h => hn a (hT.1 _ _ h).2.1, fun h => h.elim⟩
