/-! the QUESTIONS: fifth part -/
theorem yct_or {P Q : Nat → Prop} (hd : ∀ k, P k → ¬ Q k) : ∀ n, yct (fun k => P k ∨ Q k) n = yct P n + yct Q n := by
  intro n
  induction n with
  | zero => rfl
  | succ n ih =>
    rw [yct_s, yct_s, yct_s, ih]
    by_cases hp : P n
    · rw [yif_t (Or.inl hp), yif_t hp, yif_f (hd n hp)]; omega
    · by_cases hq : Q n
      · rw [yif_t (Or.inr hq), yif_f hp, yif_t hq]; omega
      · rw [yif_f (fun t => t.elim hp hq), yif_f hp, yif_f hq]; omega
theorem ypp_ci {n : Nat} {T : yG} (hT : yPo n T) (hn : n ≤ 8) (a : Nat) : ypp (yci T a) = yct (fun q => T q a) n := by
  have e1 : ypp (yci T a) = yct (fun q => T q a) 8 := yct_c fun k _ => yci_b hT hn
  rw [e1, yct_ext hn fun k h1 _ t => by have := (hT.1 _ _ t).1; omega]
theorem ypp_ro {n : Nat} {T : yG} (hT : yPo n T) (hn : n ≤ 8) (a : Nat) : ypp (yro T a) = yct (fun q => T a q) n := by
  have e1 : ypp (yro T a) = yct (fun q => T a q) 8 := yct_c fun k _ => yro_b hT hn
  rw [e1, yct_ext hn fun k h1 _ t => by have := (hT.1 _ _ t).2; omega]
theorem yci8 {T : yG} {p : Nat} : yci T p < 256 := ybs_lt _ 8
