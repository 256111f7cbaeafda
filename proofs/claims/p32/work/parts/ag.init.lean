/-! the constructor: a run over an empty memory, by the kernel -/
def zN0 : xM := (fun _ _ => 0, fun _ _ => 0, fun _ _ => 0, 2)
def zA : Option xR := zxk 1000 (xini (114, [.ref 0], zN0))
def zMA : xM := match zA with
  | some r => r.2
  | none => zN0
set_option maxRecDepth 100000 in
theorem zA_ok : (match zA with
  | some (none, M) => Nat.beq M.2.2.2 145
  | _ => false) = true := by decide +kernel
set_option maxRecDepth 100000 in
theorem zMA_i : (zMA.1 10 0 == 0 && zMA.1 10 1 == 0 && zMA.1 14 1 == 0 && zMA.1 14 2 == 0 && zMA.1 0 5 == 0 && zMA.1 0 6 == 0 && zMA.1 1 1 == 0 && zMA.1 1995 0 == 0) = true := by decide +kernel
set_option maxRecDepth 100000 in
theorem zMA_11 : ∀ p, p < 8 → zMA.1 11 p = 0 := by decide +kernel
