/-! KLASS, the model -/
theorem s_mlineAt {n : Nat} {R : Nat → Nat} (hG : yGr n R) {m : xmm} (h : yMN n R m) {c d : Nat} (hc : c < n) (hd : d < n) (hcd : c ≠ d) : fX12_lineAt_144 (nI c) (nI d) m = some (nI (yli R (8 * min c d + max c d)), m) := by
  have hn := hG.1
  have key : ∀ a b, a < b → b < n → bX12_lineAt_144_29 (nI a) (nI b) (nI 0) (nI 0) m = some (nI (yli R (8 * a + b)), m) := by
    intro a b hab hb
    have s := s_mla_41 hG h hab hb 64 0 1 (by omega) (by decide) (by omega) (Nat.zero_le a)
    have e : min (8 * 0 + 1) (8 * a + b) = 1 := by omega
    have z : yli R 1 = 0 := by
      have : yli R 1 = yli R 0 + yif (yLa R 0) 1 0 := rfl
      rw [this, yif_f (fun t => by have := t.2; omega)]
      rfl
    rw [e, z] at s
    have ng : ¬ nI a < nI 0 := nI_pos (by omega)
    apply bX12_lineAt_144_29_i
    rw [if_neg ng]
    exact s
  apply fX12_lineAt_144_i
  by_cases le : d ≤ c
  · have e1 : min c d = d := by omega
    have e2 : max c d = c := by omega
    have l : nI d ≤ nI c := nI_le le (by omega)
    rw [if_pos l, e1, e2]
    apply bX12_lineAt_144_10_i
    rw [if_pos l]
    exact key d c (by omega) hc
  · have e1 : min c d = c := by omega
    have e2 : max c d = d := by omega
    have l : ¬ nI d ≤ nI c := by rw [nI_leI (by omega) (by omega)]; omega
    rw [if_neg l, e1, e2]
    apply bX12_lineAt_144_10_i
    rw [if_neg l]
    exact key c d (by omega) hd
