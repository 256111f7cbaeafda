set_option maxRecDepth 100000 in
theorem xoi_c : ((List.range 20).all fun o => (List.range 1100).all fun q => !(xoi o q) || decide ((o, q) ∈ xoiL)) = true := by decide +kernel
set_option maxRecDepth 20000 in
theorem xoi_all : ∀ e ∈ xoiL, Cond.methodLink (xcn e.1) e.2 objectInit ∈ xALL := List.forall_mem_cons.mpr ⟨(xin 247 rfl rfl : Cond.methodLink (xcn 0) 3 objectInit ∈ xALL), List.forall_mem_cons.mpr ⟨(xin 204 rfl rfl : Cond.methodLink (xcn 1) 3 objectInit ∈ xALL), List.forall_mem_cons.mpr ⟨(xin 300 rfl rfl : Cond.methodLink (xcn 2) 3 objectInit ∈ xALL), List.forall_mem_cons.mpr ⟨(xin 104 rfl rfl : Cond.methodLink (xcn 3) 3 objectInit ∈ xALL), List.forall_mem_cons.mpr ⟨(xin 184 rfl rfl : Cond.methodLink (xcn 4) 1 objectInit ∈ xALL), List.forall_mem_cons.mpr ⟨(xin 272 rfl rfl : Cond.methodLink (xcn 5) 3 objectInit ∈ xALL), List.forall_mem_cons.mpr ⟨(xin 210 rfl rfl : Cond.methodLink (xcn 6) 3 objectInit ∈ xALL), List.forall_mem_cons.mpr ⟨(xin 98 rfl rfl : Cond.methodLink (xcn 7) 3 objectInit ∈ xALL), List.forall_mem_cons.mpr ⟨(xin 327 rfl rfl : Cond.methodLink (xcn 8) 3 objectInit ∈ xALL), List.forall_mem_cons.mpr ⟨(xin 311 rfl rfl : Cond.methodLink (xcn 10) 3 objectInit ∈ xALL), List.forall_mem_cons.mpr ⟨(xin 90 rfl rfl : Cond.methodLink (xcn 11) 1 objectInit ∈ xALL), List.forall_mem_cons.mpr ⟨(xin 1042 rfl rfl : Cond.methodLink (xcn 12) 7 objectInit ∈ xALL), fun _ h => absurd h List.not_mem_nil⟩⟩⟩⟩⟩⟩⟩⟩⟩⟩⟩⟩
theorem xoi_in {o q : Nat} (h : xoi o q = true) : Cond.methodLink (xcn o) q objectInit ∈ xALL := by
  have h1 : (o, q) ∈ xoiL := by
    have ho : o < 20 ∧ q < 1100 := by
      cases hc : (Nat.blt o 20 && Nat.blt q 1100) with
      | true =>
        simp only [Bool.and_eq_true] at hc
        exact ⟨Nat.le_of_ble_eq_true hc.1, Nat.le_of_ble_eq_true hc.2⟩
      | false => unfold xoi at h; rw [hc] at h; cases h
    have h1 := List.all_eq_true.mp (List.all_eq_true.mp xoi_c o (List.mem_range.mpr ho.1)) q (List.mem_range.mpr ho.2)
    rw [h] at h1
    exact of_decide_eq_true (by simpa using h1)
  exact xoi_all (o, q) h1
set_option maxRecDepth 20000 in
theorem xoi_inst : Cond.instanceMethod objectInit ∈ xALL := xin 91 rfl rfl
set_option maxRecDepth 20000 in
theorem xoi_code : Cond.code objectInit ⟨#[0xb1]⟩ 1 none ∈ xALL := xin 92 rfl rfl
set_option maxRecDepth 20000 in
theorem xnw_all : ∀ e ∈ xnwL, Cond.classLink (xcn e.1) e.2.1 (xcn e.2.2) ∈ xALL ∧ Cond.instantiable (xcn e.2.2) (xnsl e.2.2) ∈ xALL ∧ Cond.initialized (xcn e.2.2) ∈ xALL ∧ xoc e.2.2 := List.forall_mem_cons.mpr ⟨⟨xin 248 rfl rfl, xin 206 rfl rfl, xin 71 rfl rfl, by decide⟩, List.forall_mem_cons.mpr ⟨⟨xin 205 rfl rfl, xin 206 rfl rfl, xin 71 rfl rfl, by decide⟩, List.forall_mem_cons.mpr ⟨⟨xin 185 rfl rfl, xin 100 rfl rfl, xin 68 rfl rfl, by decide⟩, List.forall_mem_cons.mpr ⟨⟨xin 99 rfl rfl, xin 100 rfl rfl, xin 68 rfl rfl, by decide⟩, List.forall_mem_cons.mpr ⟨⟨xin 93 rfl rfl, xin 94 rfl rfl, xin 67 rfl rfl, by decide⟩, List.forall_mem_cons.mpr ⟨⟨xin 177 rfl rfl, xin 100 rfl rfl, xin 68 rfl rfl, by decide⟩, List.forall_mem_cons.mpr ⟨⟨xin 179 rfl rfl, xin 180 rfl rfl, xin 69 rfl rfl, by decide⟩, List.forall_mem_cons.mpr ⟨⟨xin 199 rfl rfl, xin 200 rfl rfl, xin 70 rfl rfl, by decide⟩, List.forall_mem_cons.mpr ⟨⟨xin 242 rfl rfl, xin 243 rfl rfl, xin 72 rfl rfl, by decide⟩, List.forall_mem_cons.mpr ⟨⟨xin 267 rfl rfl, xin 268 rfl rfl, xin 73 rfl rfl, by decide⟩, List.forall_mem_cons.mpr ⟨⟨xin 295 rfl rfl, xin 296 rfl rfl, xin 74 rfl rfl, by decide⟩, List.forall_mem_cons.mpr ⟨⟨xin 306 rfl rfl, xin 307 rfl rfl, xin 75 rfl rfl, by decide⟩, List.forall_mem_cons.mpr ⟨⟨xin 322 rfl rfl, xin 323 rfl rfl, xin 76 rfl rfl, by decide⟩, List.forall_mem_cons.mpr ⟨⟨xin 85 rfl rfl, xin 86 rfl rfl, xin 66 rfl rfl, by decide⟩, List.forall_mem_cons.mpr ⟨⟨xin 1037 rfl rfl, xin 1038 rfl rfl, xin 77 rfl rfl, by decide⟩, fun _ h => absurd h List.not_mem_nil⟩⟩⟩⟩⟩⟩⟩⟩⟩⟩⟩⟩⟩⟩⟩
set_option maxRecDepth 20000 in
theorem xkI_all : ∀ e ∈ xkIL, Cond.constant (xcn e.1) e.2.1 e.2.2 ∈ xALL := List.forall_mem_cons.mpr ⟨xin 958 rfl rfl, List.forall_mem_cons.mpr ⟨xin 1519 rfl rfl, List.forall_mem_cons.mpr ⟨xin 603 rfl rfl, List.forall_mem_cons.mpr ⟨xin 604 rfl rfl, List.forall_mem_cons.mpr ⟨xin 605 rfl rfl, fun _ h => absurd h List.not_mem_nil⟩⟩⟩⟩⟩
set_option maxRecDepth 20000 in
theorem xkJ_all : ∀ e ∈ xkJL, Cond.constantLong (xcn e.1) e.2.1 e.2.2 ∈ xALL := List.forall_mem_cons.mpr ⟨xin 509 rfl rfl, List.forall_mem_cons.mpr ⟨xin 510 rfl rfl, List.forall_mem_cons.mpr ⟨xin 1049 rfl rfl, fun _ h => absurd h List.not_mem_nil⟩⟩⟩
set_option maxRecDepth 20000 in
theorem xarI : Cond.arrayClass .int ∈ xALL := xin 125 rfl rfl
set_option maxRecDepth 20000 in
theorem xarJ : Cond.arrayClass .long ∈ xALL := xin 176 rfl rfl
set_option maxRecDepth 20000 in
theorem xarB : Cond.arrayClass .byte ∈ xALL := xin 124 rfl rfl
set_option maxRecDepth 20000 in
theorem xarZ : Cond.arrayClass .boolean ∈ xALL := xin 305 rfl rfl
-- ['(arrayOver (FieldType.object "ArrowOrders$Net"))']
theorem xcls_at0 : ∀ c, c < 13 → c ≠ 9 → xcls[c]? = some (xcn c, xTN c, xnsl c) := lt_s (lt_s (lt_s (lt_s (lt_s (lt_s (lt_s (lt_s (lt_s (lt_s (lt_s (lt_s (lt_s (lt_0) (fun _ => rfl)) (fun _ => rfl)) (fun _ => rfl)) (fun _ => rfl)) (fun _ => rfl)) (fun _ => rfl)) (fun _ => rfl)) (fun _ => rfl)) (fun _ => rfl)) (fun h => absurd rfl h)) (fun _ => rfl)) (fun _ => rfl)) (fun _ => rfl)
theorem xcls_at : ∀ c, xoc c → xcls[c]? = some (xcn c, xTN c, xnsl c) := fun c h => xcls_at0 c h.1 h.2
set_option maxRecDepth 20000 in
theorem xinst0 : Cond.instantiable RX0 5 ∈ xALL := xin 243 rfl rfl
set_option maxRecDepth 20000 in
theorem xinst1 : Cond.instantiable RX1 5 ∈ xALL := xin 200 rfl rfl
set_option maxRecDepth 20000 in
theorem xinst2 : Cond.instantiable RX2 1 ∈ xALL := xin 296 rfl rfl
set_option maxRecDepth 20000 in
theorem xinst3 : Cond.instantiable RX3 3 ∈ xALL := xin 100 rfl rfl
set_option maxRecDepth 20000 in
theorem xinst4 : Cond.instantiable RX4 3 ∈ xALL := xin 180 rfl rfl
set_option maxRecDepth 20000 in
theorem xinst5 : Cond.instantiable RX5 7 ∈ xALL := xin 268 rfl rfl
set_option maxRecDepth 20000 in
theorem xinst6 : Cond.instantiable RX6 3 ∈ xALL := xin 206 rfl rfl
set_option maxRecDepth 20000 in
theorem xinst7 : Cond.instantiable RX7 15 ∈ xALL := xin 94 rfl rfl
set_option maxRecDepth 20000 in
theorem xinst8 : Cond.instantiable RX8 1 ∈ xALL := xin 323 rfl rfl
set_option maxRecDepth 20000 in
theorem xinst10 : Cond.instantiable RX10 3 ∈ xALL := xin 307 rfl rfl
set_option maxRecDepth 20000 in
theorem xinst11 : Cond.instantiable RX11 15 ∈ xALL := xin 86 rfl rfl
set_option maxRecDepth 20000 in
theorem xinst12 : Cond.instantiable RX12 57 ∈ xALL := xin 1038 rfl rfl
theorem xinst_all : ∀ c, c < 13 → c ≠ 9 → Cond.instantiable (xcn c) (xnsl c) ∈ xALL := lt_s (lt_s (lt_s (lt_s (lt_s (lt_s (lt_s (lt_s (lt_s (lt_s (lt_s (lt_s (lt_s (lt_0) (fun _ => xinst0)) (fun _ => xinst1)) (fun _ => xinst2)) (fun _ => xinst3)) (fun _ => xinst4)) (fun _ => xinst5)) (fun _ => xinst6)) (fun _ => xinst7)) (fun _ => xinst8)) (fun h => absurd rfl h)) (fun _ => xinst10)) (fun _ => xinst11)) (fun _ => xinst12)
theorem xcls_nm : ∀ c, xoc c → ∀ a, a < xnsl c → ∀ b, b < xnsl c → a ≠ b → (xTN c a).2.1 ≠ (xTN c b).2.1 := fun c h => (lt_s (lt_s (lt_s (lt_s (lt_s (lt_s (lt_s (lt_s (lt_s (lt_s (lt_s (lt_s (lt_s (lt_0) nmX0) nmX1) nmX2) nmX3) nmX4) nmX5) nmX6) nmX7) nmX8) nmX9) nmX10) nmX11) nmX12 : ∀ c, c < 13 → ∀ a, a < xnsl c → ∀ b, b < xnsl c → a ≠ b → (xTN c a).2.1 ≠ (xTN c b).2.1) c h.1
theorem xcls_ty : ∀ c, xoc c → ∀ k, k < xnsl c → parseFieldDescriptor (xTN c k).2.2.1 = some (xtyf c k) := fun c h => (lt_s (lt_s (lt_s (lt_s (lt_s (lt_s (lt_s (lt_s (lt_s (lt_s (lt_s (lt_s (lt_s (lt_0) tyX0_ok) tyX1_ok) tyX2_ok) tyX3_ok) tyX4_ok) tyX5_ok) tyX6_ok) tyX7_ok) tyX8_ok) tyX9_ok) tyX10_ok) tyX11_ok) tyX12_ok : ∀ c, c < 13 → ∀ k, k < xnsl c → parseFieldDescriptor (xTN c k).2.2.1 = some (xtyf c k)) c h.1
set_option maxRecDepth 20000 in
theorem xw0 : ∀ w ∈ u_ws RX0 TX0 5, w ∈ xALL := List.forall_mem_cons.mpr ⟨xin 256 rfl rfl, List.forall_mem_cons.mpr ⟨xin 258 rfl rfl, List.forall_mem_cons.mpr ⟨xin 260 rfl rfl, List.forall_mem_cons.mpr ⟨xin 262 rfl rfl, List.forall_mem_cons.mpr ⟨xin 264 rfl rfl, fun _ h => absurd h List.not_mem_nil⟩⟩⟩⟩⟩
set_option maxRecDepth 20000 in
theorem xw1 : ∀ w ∈ u_ws RX1 TX1 5, w ∈ xALL := List.forall_mem_cons.mpr ⟨xin 231 rfl rfl, List.forall_mem_cons.mpr ⟨xin 233 rfl rfl, List.forall_mem_cons.mpr ⟨xin 235 rfl rfl, List.forall_mem_cons.mpr ⟨xin 237 rfl rfl, List.forall_mem_cons.mpr ⟨xin 239 rfl rfl, fun _ h => absurd h List.not_mem_nil⟩⟩⟩⟩⟩
set_option maxRecDepth 20000 in
theorem xw2 : ∀ w ∈ u_ws RX2 TX2 1, w ∈ xALL := List.forall_mem_cons.mpr ⟨xin 302 rfl rfl, fun _ h => absurd h List.not_mem_nil⟩
set_option maxRecDepth 20000 in
theorem xw3 : ∀ w ∈ u_ws RX3 TX3 3, w ∈ xALL := List.forall_mem_cons.mpr ⟨xin 117 rfl rfl, List.forall_mem_cons.mpr ⟨xin 119 rfl rfl, List.forall_mem_cons.mpr ⟨xin 121 rfl rfl, fun _ h => absurd h List.not_mem_nil⟩⟩⟩
set_option maxRecDepth 20000 in
theorem xw4 : ∀ w ∈ u_ws RX4 TX4 3, w ∈ xALL := List.forall_mem_cons.mpr ⟨xin 192 rfl rfl, List.forall_mem_cons.mpr ⟨xin 194 rfl rfl, List.forall_mem_cons.mpr ⟨xin 196 rfl rfl, fun _ h => absurd h List.not_mem_nil⟩⟩⟩
set_option maxRecDepth 20000 in
theorem xw5 : ∀ w ∈ u_ws RX5 TX5 7, w ∈ xALL := List.forall_mem_cons.mpr ⟨xin 280 rfl rfl, List.forall_mem_cons.mpr ⟨xin 282 rfl rfl, List.forall_mem_cons.mpr ⟨xin 284 rfl rfl, List.forall_mem_cons.mpr ⟨xin 286 rfl rfl, List.forall_mem_cons.mpr ⟨xin 288 rfl rfl, List.forall_mem_cons.mpr ⟨xin 290 rfl rfl, List.forall_mem_cons.mpr ⟨xin 292 rfl rfl, fun _ h => absurd h List.not_mem_nil⟩⟩⟩⟩⟩⟩⟩
set_option maxRecDepth 20000 in
theorem xw6 : ∀ w ∈ u_ws RX6 TX6 3, w ∈ xALL := List.forall_mem_cons.mpr ⟨xin 219 rfl rfl, List.forall_mem_cons.mpr ⟨xin 221 rfl rfl, List.forall_mem_cons.mpr ⟨xin 223 rfl rfl, fun _ h => absurd h List.not_mem_nil⟩⟩⟩
set_option maxRecDepth 20000 in
theorem xw7 : ∀ w ∈ u_ws RX7 TX7 15, w ∈ xALL := List.forall_mem_cons.mpr ⟨xin 145 rfl rfl, List.forall_mem_cons.mpr ⟨xin 147 rfl rfl, List.forall_mem_cons.mpr ⟨xin 149 rfl rfl, List.forall_mem_cons.mpr ⟨xin 151 rfl rfl, List.forall_mem_cons.mpr ⟨xin 153 rfl rfl, List.forall_mem_cons.mpr ⟨xin 155 rfl rfl, List.forall_mem_cons.mpr ⟨xin 157 rfl rfl, List.forall_mem_cons.mpr ⟨xin 159 rfl rfl, List.forall_mem_cons.mpr ⟨xin 161 rfl rfl, List.forall_mem_cons.mpr ⟨xin 163 rfl rfl, List.forall_mem_cons.mpr ⟨xin 165 rfl rfl, List.forall_mem_cons.mpr ⟨xin 167 rfl rfl, List.forall_mem_cons.mpr ⟨xin 169 rfl rfl, List.forall_mem_cons.mpr ⟨xin 171 rfl rfl, List.forall_mem_cons.mpr ⟨xin 173 rfl rfl, fun _ h => absurd h List.not_mem_nil⟩⟩⟩⟩⟩⟩⟩⟩⟩⟩⟩⟩⟩⟩⟩
set_option maxRecDepth 20000 in
theorem xw8 : ∀ w ∈ u_ws RX8 TX8 1, w ∈ xALL := List.forall_mem_cons.mpr ⟨xin 329 rfl rfl, fun _ h => absurd h List.not_mem_nil⟩
set_option maxRecDepth 20000 in
theorem xw9 : ∀ w ∈ u_ws RX9 TX9 0, w ∈ xALL := fun _ h => absurd h List.not_mem_nil
set_option maxRecDepth 20000 in
theorem xw10 : ∀ w ∈ u_ws RX10 TX10 3, w ∈ xALL := List.forall_mem_cons.mpr ⟨xin 315 rfl rfl, List.forall_mem_cons.mpr ⟨xin 317 rfl rfl, List.forall_mem_cons.mpr ⟨xin 319 rfl rfl, fun _ h => absurd h List.not_mem_nil⟩⟩⟩
set_option maxRecDepth 20000 in
theorem xw11 : ∀ w ∈ u_ws RX11 TX11 15, w ∈ xALL := List.forall_mem_cons.mpr ⟨xin 347 rfl rfl, List.forall_mem_cons.mpr ⟨xin 349 rfl rfl, List.forall_mem_cons.mpr ⟨xin 351 rfl rfl, List.forall_mem_cons.mpr ⟨xin 353 rfl rfl, List.forall_mem_cons.mpr ⟨xin 355 rfl rfl, List.forall_mem_cons.mpr ⟨xin 357 rfl rfl, List.forall_mem_cons.mpr ⟨xin 359 rfl rfl, List.forall_mem_cons.mpr ⟨xin 361 rfl rfl, List.forall_mem_cons.mpr ⟨xin 363 rfl rfl, List.forall_mem_cons.mpr ⟨xin 365 rfl rfl, List.forall_mem_cons.mpr ⟨xin 367 rfl rfl, List.forall_mem_cons.mpr ⟨xin 369 rfl rfl, List.forall_mem_cons.mpr ⟨xin 371 rfl rfl, List.forall_mem_cons.mpr ⟨xin 373 rfl rfl, List.forall_mem_cons.mpr ⟨xin 375 rfl rfl, fun _ h => absurd h List.not_mem_nil⟩⟩⟩⟩⟩⟩⟩⟩⟩⟩⟩⟩⟩⟩⟩
set_option maxRecDepth 20000 in
theorem xw12 : ∀ w ∈ u_ws RX12 TX12 57, w ∈ xALL := List.forall_mem_cons.mpr ⟨xin 1106 rfl rfl, List.forall_mem_cons.mpr ⟨xin 1108 rfl rfl, List.forall_mem_cons.mpr ⟨xin 1110 rfl rfl, List.forall_mem_cons.mpr ⟨xin 1112 rfl rfl, List.forall_mem_cons.mpr ⟨xin 1114 rfl rfl, List.forall_mem_cons.mpr ⟨xin 1116 rfl rfl, List.forall_mem_cons.mpr ⟨xin 1118 rfl rfl, List.forall_mem_cons.mpr ⟨xin 1120 rfl rfl, List.forall_mem_cons.mpr ⟨xin 1122 rfl rfl, List.forall_mem_cons.mpr ⟨xin 1124 rfl rfl, List.forall_mem_cons.mpr ⟨xin 1126 rfl rfl, List.forall_mem_cons.mpr ⟨xin 1128 rfl rfl, List.forall_mem_cons.mpr ⟨xin 1130 rfl rfl, List.forall_mem_cons.mpr ⟨xin 1132 rfl rfl, List.forall_mem_cons.mpr ⟨xin 1134 rfl rfl, List.forall_mem_cons.mpr ⟨xin 1136 rfl rfl, List.forall_mem_cons.mpr ⟨xin 1138 rfl rfl, List.forall_mem_cons.mpr ⟨xin 1140 rfl rfl, List.forall_mem_cons.mpr ⟨xin 1142 rfl rfl, List.forall_mem_cons.mpr ⟨xin 1144 rfl rfl, List.forall_mem_cons.mpr ⟨xin 1146 rfl rfl, List.forall_mem_cons.mpr ⟨xin 1148 rfl rfl, List.forall_mem_cons.mpr ⟨xin 1150 rfl rfl, List.forall_mem_cons.mpr ⟨xin 1152 rfl rfl, List.forall_mem_cons.mpr ⟨xin 1154 rfl rfl, List.forall_mem_cons.mpr ⟨xin 1156 rfl rfl, List.forall_mem_cons.mpr ⟨xin 1158 rfl rfl, List.forall_mem_cons.mpr ⟨xin 1160 rfl rfl, List.forall_mem_cons.mpr ⟨xin 1162 rfl rfl, List.forall_mem_cons.mpr ⟨xin 1164 rfl rfl, List.forall_mem_cons.mpr ⟨xin 1166 rfl rfl, List.forall_mem_cons.mpr ⟨xin 1168 rfl rfl, List.forall_mem_cons.mpr ⟨xin 1170 rfl rfl, List.forall_mem_cons.mpr ⟨xin 1172 rfl rfl, List.forall_mem_cons.mpr ⟨xin 1174 rfl rfl, List.forall_mem_cons.mpr ⟨xin 1176 rfl rfl, List.forall_mem_cons.mpr ⟨xin 1178 rfl rfl, List.forall_mem_cons.mpr ⟨xin 1180 rfl rfl, List.forall_mem_cons.mpr ⟨xin 1182 rfl rfl, List.forall_mem_cons.mpr ⟨xin 1184 rfl rfl, List.forall_mem_cons.mpr ⟨xin 1186 rfl rfl, List.forall_mem_cons.mpr ⟨xin 1188 rfl rfl, List.forall_mem_cons.mpr ⟨xin 1190 rfl rfl, List.forall_mem_cons.mpr ⟨xin 1192 rfl rfl, List.forall_mem_cons.mpr ⟨xin 1194 rfl rfl, List.forall_mem_cons.mpr ⟨xin 1196 rfl rfl, List.forall_mem_cons.mpr ⟨xin 1198 rfl rfl, List.forall_mem_cons.mpr ⟨xin 1200 rfl rfl, List.forall_mem_cons.mpr ⟨xin 1202 rfl rfl, List.forall_mem_cons.mpr ⟨xin 1204 rfl rfl, List.forall_mem_cons.mpr ⟨xin 1206 rfl rfl, List.forall_mem_cons.mpr ⟨xin 1208 rfl rfl, List.forall_mem_cons.mpr ⟨xin 1210 rfl rfl, List.forall_mem_cons.mpr ⟨xin 1212 rfl rfl, List.forall_mem_cons.mpr ⟨xin 1214 rfl rfl, List.forall_mem_cons.mpr ⟨xin 1216 rfl rfl, List.forall_mem_cons.mpr ⟨xin 1218 rfl rfl, fun _ h => absurd h List.not_mem_nil⟩⟩⟩⟩⟩⟩⟩⟩⟩⟩⟩⟩⟩⟩⟩⟩⟩⟩⟩⟩⟩⟩⟩⟩⟩⟩⟩⟩⟩⟩⟩⟩⟩⟩⟩⟩⟩⟩⟩⟩⟩⟩⟩⟩⟩⟩⟩⟩⟩⟩⟩⟩⟩⟩⟩⟩⟩
theorem xcls_ws : ∀ c, xoc c → ∀ w ∈ u_ws (xcn c) (xTN c) (xnsl c), w ∈ xALL := fun c h => (lt_s (lt_s (lt_s (lt_s (lt_s (lt_s (lt_s (lt_s (lt_s (lt_s (lt_s (lt_s (lt_s (lt_0) xw0) xw1) xw2) xw3) xw4) xw5) xw6) xw7) xw8) xw9) xw10) xw11) xw12 : ∀ c, c < 13 → ∀ w ∈ u_ws (xcn c) (xTN c) (xnsl c), w ∈ xALL) c h.1
