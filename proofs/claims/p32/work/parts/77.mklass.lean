/-! KLASS, the model -/
def ynu (z : Nat) : Nat := 8 * min (z / 8) (z % 8) + max (z / 8) (z % 8)
