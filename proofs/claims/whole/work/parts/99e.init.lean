/-! the two constructors: a run over an empty memory, by the kernel -/
def zM0 : xM := (fun _ _ => 0, fun _ _ => 0, fun _ _ => 0, 0)
def zA : Option xR := zxk 1000 (xini (114, [.ref 0], xpush zM0))
def zMA : xM := match zA with
  | some r => r.2
  | none => zM0
set_option maxRecDepth 100000 in
theorem zA_ok : (match zA with
  | some (none, M) => Nat.beq M.2.2.2 144
  | _ => false) = true := by decide +kernel
def zB : Option xR := zxk 1000 (xini (154, [.ref 144], xpush zMA))
def zMB : xM := match zB with
  | some r => r.2
  | none => zM0
set_option maxRecDepth 100000 in
theorem zB_ok : (match zB with
  | some (none, M) => Nat.beq M.2.2.2 184
  | _ => false) = true := by decide +kernel
set_option maxRecDepth 100000 in
theorem zMB_i : (zMB.1 10 0 == 0 && zMB.1 10 1 == 0 && zMB.1 14 1 == 0 && zMB.1 14 2 == 0 && zMB.1 0 5 == 0 && zMB.1 0 6 == 0 && zMB.1 1 1 == 0 && zMB.1 1 3 == -1 && zMB.1 144 16 == -1 && zMB.1 144 17 == 0 && zMB.1 144 24 == 0 && zMB.1 144 25 == 0 && zMB.1 144 2 == 0) = true := by decide +kernel
set_option maxRecDepth 100000 in
theorem zMB_11 : ∀ p, p < 8 → zMB.1 11 p = 0 := by decide +kernel
set_option maxRecDepth 100000 in
theorem zMB_152 : ∀ p, p < 9 → zMB.1 152 p = 0 := by decide +kernel
set_option maxRecDepth 100000 in
theorem zMB_158 : ∀ p, p < 3 → zMB.1 158 p = 0 := by decide +kernel
set_option maxRecDepth 100000 in
theorem zMB_151 : ∀ k, k < 4 → zMB.2.1 151 k = lN (yzK k) := by decide +kernel
