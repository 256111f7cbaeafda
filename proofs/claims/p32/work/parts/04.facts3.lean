set_option maxRecDepth 100000 in
theorem xoi_c : ((List.range 20).all fun o => (List.range 1100).all fun q => !(xoi o q) || decide ((o, q) ∈ xoiL)) = true := by decide +kernel
set_option maxRecDepth 20000 in
theorem xoi_all : ∀ e ∈ xoiL, Cond.methodLink (xcn e.1) e.2 objectInit ∈ xALL := List.forall_mem_cons.mpr ⟨(xin 185 rfl rfl : Cond.methodLink (xcn 0) 3 objectInit ∈ xALL), List.forall_mem_cons.mpr ⟨(xin 142 rfl rfl : Cond.methodLink (xcn 1) 3 objectInit ∈ xALL), List.forall_mem_cons.mpr ⟨(xin 238 rfl rfl : Cond.methodLink (xcn 2) 3 objectInit ∈ xALL), List.forall_mem_cons.mpr ⟨(xin 43 rfl rfl : Cond.methodLink (xcn 3) 3 objectInit ∈ xALL), List.forall_mem_cons.mpr ⟨(xin 122 rfl rfl : Cond.methodLink (xcn 4) 1 objectInit ∈ xALL), List.forall_mem_cons.mpr ⟨(xin 210 rfl rfl : Cond.methodLink (xcn 5) 3 objectInit ∈ xALL), List.forall_mem_cons.mpr ⟨(xin 148 rfl rfl : Cond.methodLink (xcn 6) 3 objectInit ∈ xALL), List.forall_mem_cons.mpr ⟨(xin 37 rfl rfl : Cond.methodLink (xcn 7) 3 objectInit ∈ xALL), List.forall_mem_cons.mpr ⟨(xin 265 rfl rfl : Cond.methodLink (xcn 8) 3 objectInit ∈ xALL), List.forall_mem_cons.mpr ⟨(xin 249 rfl rfl : Cond.methodLink (xcn 10) 3 objectInit ∈ xALL), List.forall_mem_cons.mpr ⟨(xin 29 rfl rfl : Cond.methodLink (xcn 11) 1 objectInit ∈ xALL), fun _ h => absurd h List.not_mem_nil⟩⟩⟩⟩⟩⟩⟩⟩⟩⟩⟩
theorem xoi_in {o q : Nat} (h : xoi o q = true) : Cond.methodLink (xcn o) q objectInit ∈ xALL := by
  have h1 : (o, q) ∈ xoiL := by
    have ho : o < 20 ∧ q < 1100 := by
      cases hc : (Nat.blt o 20 && Nat.blt q 1100) with
      | true =>
        simp only [Bool.and_eq_true] at hc
        exact ⟨Nat.le_of_ble_eq_true hc.1, Nat.le_of_ble_eq_true hc.2⟩
      | false => unfold xoi at h; rw [hc] at h; cases h
    have h1 := List.all_eq_true.mp (List.all_eq_true.mp xoi_c o (List.mem_range.mpr ho.1)) q (List.mem_range.mpr ho.2)
    rw [h] at h1
    exact of_decide_eq_true (by simpa using h1)
  exact xoi_all (o, q) h1
set_option maxRecDepth 20000 in
theorem xoi_inst : Cond.instanceMethod objectInit ∈ xALL := xin 30 rfl rfl
set_option maxRecDepth 20000 in
theorem xoi_code : Cond.code objectInit ⟨#[0xb1]⟩ 1 none ∈ xALL := xin 31 rfl rfl
set_option maxRecDepth 20000 in
theorem xnw_all : ∀ e ∈ xnwL, Cond.classLink (xcn e.1) e.2.1 (xcn e.2.2) ∈ xALL ∧ Cond.instantiable (xcn e.2.2) (xnsl e.2.2) ∈ xALL ∧ Cond.initialized (xcn e.2.2) ∈ xALL ∧ xoc e.2.2 := List.forall_mem_cons.mpr ⟨⟨xin 186 rfl rfl, xin 144 rfl rfl, xin 11 rfl rfl, by decide⟩, List.forall_mem_cons.mpr ⟨⟨xin 143 rfl rfl, xin 144 rfl rfl, xin 11 rfl rfl, by decide⟩, List.forall_mem_cons.mpr ⟨⟨xin 123 rfl rfl, xin 39 rfl rfl, xin 8 rfl rfl, by decide⟩, List.forall_mem_cons.mpr ⟨⟨xin 38 rfl rfl, xin 39 rfl rfl, xin 8 rfl rfl, by decide⟩, List.forall_mem_cons.mpr ⟨⟨xin 32 rfl rfl, xin 33 rfl rfl, xin 7 rfl rfl, by decide⟩, List.forall_mem_cons.mpr ⟨⟨xin 115 rfl rfl, xin 39 rfl rfl, xin 8 rfl rfl, by decide⟩, List.forall_mem_cons.mpr ⟨⟨xin 117 rfl rfl, xin 118 rfl rfl, xin 9 rfl rfl, by decide⟩, List.forall_mem_cons.mpr ⟨⟨xin 137 rfl rfl, xin 138 rfl rfl, xin 10 rfl rfl, by decide⟩, List.forall_mem_cons.mpr ⟨⟨xin 180 rfl rfl, xin 181 rfl rfl, xin 12 rfl rfl, by decide⟩, List.forall_mem_cons.mpr ⟨⟨xin 205 rfl rfl, xin 206 rfl rfl, xin 13 rfl rfl, by decide⟩, List.forall_mem_cons.mpr ⟨⟨xin 233 rfl rfl, xin 234 rfl rfl, xin 14 rfl rfl, by decide⟩, List.forall_mem_cons.mpr ⟨⟨xin 244 rfl rfl, xin 245 rfl rfl, xin 15 rfl rfl, by decide⟩, List.forall_mem_cons.mpr ⟨⟨xin 260 rfl rfl, xin 261 rfl rfl, xin 16 rfl rfl, by decide⟩, List.forall_mem_cons.mpr ⟨⟨xin 24 rfl rfl, xin 25 rfl rfl, xin 6 rfl rfl, by decide⟩, fun _ h => absurd h List.not_mem_nil⟩⟩⟩⟩⟩⟩⟩⟩⟩⟩⟩⟩⟩⟩
set_option maxRecDepth 20000 in
theorem xkI_all : ∀ e ∈ xkIL, Cond.constant (xcn e.1) e.2.1 e.2.2 ∈ xALL := List.forall_mem_cons.mpr ⟨xin 969 rfl rfl, List.forall_mem_cons.mpr ⟨xin 521 rfl rfl, List.forall_mem_cons.mpr ⟨xin 522 rfl rfl, List.forall_mem_cons.mpr ⟨xin 523 rfl rfl, List.forall_mem_cons.mpr ⟨xin 859 rfl rfl, List.forall_mem_cons.mpr ⟨xin 860 rfl rfl, List.forall_mem_cons.mpr ⟨xin 883 rfl rfl, List.forall_mem_cons.mpr ⟨xin 884 rfl rfl, List.forall_mem_cons.mpr ⟨xin 885 rfl rfl, List.forall_mem_cons.mpr ⟨xin 886 rfl rfl, List.forall_mem_cons.mpr ⟨xin 1003 rfl rfl, fun _ h => absurd h List.not_mem_nil⟩⟩⟩⟩⟩⟩⟩⟩⟩⟩⟩
set_option maxRecDepth 20000 in
theorem xkJ_all : ∀ e ∈ xkJL, Cond.constantLong (xcn e.1) e.2.1 e.2.2 ∈ xALL := List.forall_mem_cons.mpr ⟨xin 431 rfl rfl, List.forall_mem_cons.mpr ⟨xin 432 rfl rfl, fun _ h => absurd h List.not_mem_nil⟩⟩
set_option maxRecDepth 20000 in
theorem xarI : Cond.arrayClass .int ∈ xALL := xin 64 rfl rfl
set_option maxRecDepth 20000 in
theorem xarJ : Cond.arrayClass .long ∈ xALL := xin 114 rfl rfl
set_option maxRecDepth 20000 in
theorem xarB : Cond.arrayClass .byte ∈ xALL := xin 63 rfl rfl
set_option maxRecDepth 20000 in
theorem xarZ : Cond.arrayClass .boolean ∈ xALL := xin 243 rfl rfl
-- ['(arrayOver (FieldType.object "ArrowOrders$Net"))']
theorem xcls_at0 : ∀ c, c < 12 → c ≠ 9 → xcls[c]? = some (xcn c, xTN c, xnsl c) := lt_s (lt_s (lt_s (lt_s (lt_s (lt_s (lt_s (lt_s (lt_s (lt_s (lt_s (lt_s (lt_0) (fun _ => rfl)) (fun _ => rfl)) (fun _ => rfl)) (fun _ => rfl)) (fun _ => rfl)) (fun _ => rfl)) (fun _ => rfl)) (fun _ => rfl)) (fun _ => rfl)) (fun h => absurd rfl h)) (fun _ => rfl)) (fun _ => rfl)
theorem xcls_at : ∀ c, xoc c → xcls[c]? = some (xcn c, xTN c, xnsl c) := fun c h => xcls_at0 c h.1 h.2
set_option maxRecDepth 20000 in
theorem xinst0 : Cond.instantiable RX0 5 ∈ xALL := xin 181 rfl rfl
set_option maxRecDepth 20000 in
theorem xinst1 : Cond.instantiable RX1 5 ∈ xALL := xin 138 rfl rfl
set_option maxRecDepth 20000 in
theorem xinst2 : Cond.instantiable RX2 1 ∈ xALL := xin 234 rfl rfl
set_option maxRecDepth 20000 in
theorem xinst3 : Cond.instantiable RX3 3 ∈ xALL := xin 39 rfl rfl
set_option maxRecDepth 20000 in
theorem xinst4 : Cond.instantiable RX4 3 ∈ xALL := xin 118 rfl rfl
set_option maxRecDepth 20000 in
theorem xinst5 : Cond.instantiable RX5 7 ∈ xALL := xin 206 rfl rfl
set_option maxRecDepth 20000 in
theorem xinst6 : Cond.instantiable RX6 3 ∈ xALL := xin 144 rfl rfl
set_option maxRecDepth 20000 in
theorem xinst7 : Cond.instantiable RX7 15 ∈ xALL := xin 33 rfl rfl
set_option maxRecDepth 20000 in
theorem xinst8 : Cond.instantiable RX8 1 ∈ xALL := xin 261 rfl rfl
set_option maxRecDepth 20000 in
theorem xinst10 : Cond.instantiable RX10 3 ∈ xALL := xin 245 rfl rfl
set_option maxRecDepth 20000 in
theorem xinst11 : Cond.instantiable RX11 15 ∈ xALL := xin 25 rfl rfl
theorem xinst_all : ∀ c, c < 12 → c ≠ 9 → Cond.instantiable (xcn c) (xnsl c) ∈ xALL := lt_s (lt_s (lt_s (lt_s (lt_s (lt_s (lt_s (lt_s (lt_s (lt_s (lt_s (lt_s (lt_0) (fun _ => xinst0)) (fun _ => xinst1)) (fun _ => xinst2)) (fun _ => xinst3)) (fun _ => xinst4)) (fun _ => xinst5)) (fun _ => xinst6)) (fun _ => xinst7)) (fun _ => xinst8)) (fun h => absurd rfl h)) (fun _ => xinst10)) (fun _ => xinst11)
theorem xcls_nm : ∀ c, xoc c → ∀ a, a < xnsl c → ∀ b, b < xnsl c → a ≠ b → (xTN c a).2.1 ≠ (xTN c b).2.1 := fun c h => (lt_s (lt_s (lt_s (lt_s (lt_s (lt_s (lt_s (lt_s (lt_s (lt_s (lt_s (lt_s (lt_0) nmX0) nmX1) nmX2) nmX3) nmX4) nmX5) nmX6) nmX7) nmX8) nmX9) nmX10) nmX11 : ∀ c, c < 12 → ∀ a, a < xnsl c → ∀ b, b < xnsl c → a ≠ b → (xTN c a).2.1 ≠ (xTN c b).2.1) c h.1
theorem xcls_ty : ∀ c, xoc c → ∀ k, k < xnsl c → parseFieldDescriptor (xTN c k).2.2.1 = some (xtyf c k) := fun c h => (lt_s (lt_s (lt_s (lt_s (lt_s (lt_s (lt_s (lt_s (lt_s (lt_s (lt_s (lt_s (lt_0) tyX0_ok) tyX1_ok) tyX2_ok) tyX3_ok) tyX4_ok) tyX5_ok) tyX6_ok) tyX7_ok) tyX8_ok) tyX9_ok) tyX10_ok) tyX11_ok : ∀ c, c < 12 → ∀ k, k < xnsl c → parseFieldDescriptor (xTN c k).2.2.1 = some (xtyf c k)) c h.1
set_option maxRecDepth 20000 in
theorem xw0 : ∀ w ∈ u_ws RX0 TX0 5, w ∈ xALL := List.forall_mem_cons.mpr ⟨xin 194 rfl rfl, List.forall_mem_cons.mpr ⟨xin 196 rfl rfl, List.forall_mem_cons.mpr ⟨xin 198 rfl rfl, List.forall_mem_cons.mpr ⟨xin 200 rfl rfl, List.forall_mem_cons.mpr ⟨xin 202 rfl rfl, fun _ h => absurd h List.not_mem_nil⟩⟩⟩⟩⟩
set_option maxRecDepth 20000 in
theorem xw1 : ∀ w ∈ u_ws RX1 TX1 5, w ∈ xALL := List.forall_mem_cons.mpr ⟨xin 169 rfl rfl, List.forall_mem_cons.mpr ⟨xin 171 rfl rfl, List.forall_mem_cons.mpr ⟨xin 173 rfl rfl, List.forall_mem_cons.mpr ⟨xin 175 rfl rfl, List.forall_mem_cons.mpr ⟨xin 177 rfl rfl, fun _ h => absurd h List.not_mem_nil⟩⟩⟩⟩⟩
set_option maxRecDepth 20000 in
theorem xw2 : ∀ w ∈ u_ws RX2 TX2 1, w ∈ xALL := List.forall_mem_cons.mpr ⟨xin 240 rfl rfl, fun _ h => absurd h List.not_mem_nil⟩
set_option maxRecDepth 20000 in
theorem xw3 : ∀ w ∈ u_ws RX3 TX3 3, w ∈ xALL := List.forall_mem_cons.mpr ⟨xin 56 rfl rfl, List.forall_mem_cons.mpr ⟨xin 58 rfl rfl, List.forall_mem_cons.mpr ⟨xin 60 rfl rfl, fun _ h => absurd h List.not_mem_nil⟩⟩⟩
set_option maxRecDepth 20000 in
theorem xw4 : ∀ w ∈ u_ws RX4 TX4 3, w ∈ xALL := List.forall_mem_cons.mpr ⟨xin 130 rfl rfl, List.forall_mem_cons.mpr ⟨xin 132 rfl rfl, List.forall_mem_cons.mpr ⟨xin 134 rfl rfl, fun _ h => absurd h List.not_mem_nil⟩⟩⟩
set_option maxRecDepth 20000 in
theorem xw5 : ∀ w ∈ u_ws RX5 TX5 7, w ∈ xALL := List.forall_mem_cons.mpr ⟨xin 218 rfl rfl, List.forall_mem_cons.mpr ⟨xin 220 rfl rfl, List.forall_mem_cons.mpr ⟨xin 222 rfl rfl, List.forall_mem_cons.mpr ⟨xin 224 rfl rfl, List.forall_mem_cons.mpr ⟨xin 226 rfl rfl, List.forall_mem_cons.mpr ⟨xin 228 rfl rfl, List.forall_mem_cons.mpr ⟨xin 230 rfl rfl, fun _ h => absurd h List.not_mem_nil⟩⟩⟩⟩⟩⟩⟩
set_option maxRecDepth 20000 in
theorem xw6 : ∀ w ∈ u_ws RX6 TX6 3, w ∈ xALL := List.forall_mem_cons.mpr ⟨xin 157 rfl rfl, List.forall_mem_cons.mpr ⟨xin 159 rfl rfl, List.forall_mem_cons.mpr ⟨xin 161 rfl rfl, fun _ h => absurd h List.not_mem_nil⟩⟩⟩
set_option maxRecDepth 20000 in
theorem xw7 : ∀ w ∈ u_ws RX7 TX7 15, w ∈ xALL := List.forall_mem_cons.mpr ⟨xin 83 rfl rfl, List.forall_mem_cons.mpr ⟨xin 85 rfl rfl, List.forall_mem_cons.mpr ⟨xin 87 rfl rfl, List.forall_mem_cons.mpr ⟨xin 89 rfl rfl, List.forall_mem_cons.mpr ⟨xin 91 rfl rfl, List.forall_mem_cons.mpr ⟨xin 93 rfl rfl, List.forall_mem_cons.mpr ⟨xin 95 rfl rfl, List.forall_mem_cons.mpr ⟨xin 97 rfl rfl, List.forall_mem_cons.mpr ⟨xin 99 rfl rfl, List.forall_mem_cons.mpr ⟨xin 101 rfl rfl, List.forall_mem_cons.mpr ⟨xin 103 rfl rfl, List.forall_mem_cons.mpr ⟨xin 105 rfl rfl, List.forall_mem_cons.mpr ⟨xin 107 rfl rfl, List.forall_mem_cons.mpr ⟨xin 109 rfl rfl, List.forall_mem_cons.mpr ⟨xin 111 rfl rfl, fun _ h => absurd h List.not_mem_nil⟩⟩⟩⟩⟩⟩⟩⟩⟩⟩⟩⟩⟩⟩⟩
set_option maxRecDepth 20000 in
theorem xw8 : ∀ w ∈ u_ws RX8 TX8 1, w ∈ xALL := List.forall_mem_cons.mpr ⟨xin 267 rfl rfl, fun _ h => absurd h List.not_mem_nil⟩
set_option maxRecDepth 20000 in
theorem xw9 : ∀ w ∈ u_ws RX9 TX9 0, w ∈ xALL := fun _ h => absurd h List.not_mem_nil
set_option maxRecDepth 20000 in
theorem xw10 : ∀ w ∈ u_ws RX10 TX10 3, w ∈ xALL := List.forall_mem_cons.mpr ⟨xin 253 rfl rfl, List.forall_mem_cons.mpr ⟨xin 255 rfl rfl, List.forall_mem_cons.mpr ⟨xin 257 rfl rfl, fun _ h => absurd h List.not_mem_nil⟩⟩⟩
set_option maxRecDepth 20000 in
theorem xw11 : ∀ w ∈ u_ws RX11 TX11 15, w ∈ xALL := List.forall_mem_cons.mpr ⟨xin 285 rfl rfl, List.forall_mem_cons.mpr ⟨xin 287 rfl rfl, List.forall_mem_cons.mpr ⟨xin 289 rfl rfl, List.forall_mem_cons.mpr ⟨xin 291 rfl rfl, List.forall_mem_cons.mpr ⟨xin 293 rfl rfl, List.forall_mem_cons.mpr ⟨xin 295 rfl rfl, List.forall_mem_cons.mpr ⟨xin 297 rfl rfl, List.forall_mem_cons.mpr ⟨xin 299 rfl rfl, List.forall_mem_cons.mpr ⟨xin 301 rfl rfl, List.forall_mem_cons.mpr ⟨xin 303 rfl rfl, List.forall_mem_cons.mpr ⟨xin 305 rfl rfl, List.forall_mem_cons.mpr ⟨xin 307 rfl rfl, List.forall_mem_cons.mpr ⟨xin 309 rfl rfl, List.forall_mem_cons.mpr ⟨xin 311 rfl rfl, List.forall_mem_cons.mpr ⟨xin 313 rfl rfl, fun _ h => absurd h List.not_mem_nil⟩⟩⟩⟩⟩⟩⟩⟩⟩⟩⟩⟩⟩⟩⟩
theorem xcls_ws : ∀ c, xoc c → ∀ w ∈ u_ws (xcn c) (xTN c) (xnsl c), w ∈ xALL := fun c h => (lt_s (lt_s (lt_s (lt_s (lt_s (lt_s (lt_s (lt_s (lt_s (lt_s (lt_s (lt_s (lt_0) xw0) xw1) xw2) xw3) xw4) xw5) xw6) xw7) xw8) xw9) xw10) xw11 : ∀ c, c < 12 → ∀ w ∈ u_ws (xcn c) (xTN c) (xnsl c), w ∈ xALL) c h.1
