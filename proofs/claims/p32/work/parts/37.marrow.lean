/-! the model's arrows -/
noncomputable def yloI (L : Nat → Nat) : Int32 := yif (∃ k, yar L k) (nI (ylo L)) (-1)
/-- stage i in the model's cells -/
def yMI (R : Nat → Nat) (b i : Nat) (m : xmm) : Prop := yAI R b i 163 164 166 144 39 m ∧ yrw 165 (yci (yTi R b i)) m
