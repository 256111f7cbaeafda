/-! the model's classes, counted -/
/-- the model's cells but those of a list, and fields of 144 but those of another, are as they were -/
def yfm (L J : List Nat) (m m' : xmm) : Prop := yfr (144 :: L) m m' ∧ ∀ j, j ∉ J → m'.1 144 j = m.1 144 j
theorem yfm_r {L J : List Nat} {m : xmm} : yfm L J m m := ⟨yfr_r, fun _ _ => rfl⟩
theorem yfm_t {L J : List Nat} {m m' m'' : xmm} (h : yfm L J m m') (h' : yfm L J m' m'') : yfm L J m m'' := ⟨yfr_t h.1 h'.1, fun j hj => (h'.2 j hj).trans (h.2 j hj)⟩
theorem yfm_m {L J L' J' : List Nat} {m m' : xmm} (h : yfm L J m m') (hl : ∀ k, k ∈ L → k ∈ L') (hj : ∀ k, k ∈ J → k ∈ J') : yfm L' J' m m' := ⟨yfr_m h.1 (fun k hk => by rcases List.mem_cons.mp hk with e | e; exact List.mem_cons.mpr (Or.inl e); exact List.mem_cons.mpr (Or.inr (hl k e))), fun j h1 => h.2 j fun e => h1 (hj j e)⟩
theorem yfm_w {L J : List Nat} {m m' : xmm} {k i : Nat} {v : Int32} (h : yfm L J m m') (hk : k ∈ L) (h4 : k ≠ 144) : yfm L J m (xwi m' k i v) := ⟨yfr_w h.1 (List.mem_cons_of_mem _ hk), fun j hj => by rw [xwi_k (Ne.symm h4)]; exact h.2 j hj⟩
theorem yfm_f {L J : List Nat} {m m' : xmm} {i : Nat} {v : Int32} (h : yfm L J m m') (hi : i ∈ J) : yfm L J m (xwi m' 144 i v) := ⟨yfr_w h.1 List.mem_cons_self, fun j hj => by rw [xwi_i (fun e => hj (by rw [e]; exact hi))]; exact h.2 j hj⟩
theorem yfm_1 {L J : List Nat} {m m' : xmm} (h : yfm L J m m') (k i : Nat) (hk : k ∉ 144 :: L) : m'.1 k i = m.1 k i := yfr_1 h.1 k i hk
theorem yfm_2 {L J : List Nat} {m m' : xmm} (h : yfm L J m m') (i : Nat) (hk : i ∉ J) : m'.1 144 i = m.1 144 i := h.2 i hk
theorem yfm_of {L J : List Nat} {m m' : xmm} (h : yfr L m m') (hn : 144 ∉ L) : yfm L J m m' := ⟨yfr_m h fun k hk => List.mem_cons_of_mem _ hk, fun j _ => yfr_1 h 144 j hn⟩
def ytn (k : Nat) : Nat := 8 * (k % 8) + k / 8
theorem ytn_lt {k : Nat} (h : k < 64) : ytn k < 64 := by unfold ytn; omega
theorem ytn_ytn {k : Nat} (h : k < 64) : ytn (ytn k) = k := by unfold ytn; omega
theorem ytn_an {k : Nat} (h : k < 64) : yan (ytn k) = yrv (yan k) := yan_rv h
theorem s_against' {x : Nat} (h : x < 64) (m : xmm) : fX11_against (nI x) m = some (nI (ytn x), m) := s_against h m
