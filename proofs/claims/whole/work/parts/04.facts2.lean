/-- what the tables say of a field: of a class of the list, by its place; of a String -/
def xff (e : Nat × Nat × Nat × Nat × Nat) : Prop := match e with
  | (o, q, ci, j, c) => (c < 4 → Cond.fieldLink (xcn o) q (xTN ci j).1 (xTN ci j).2.1 (xTN ci j).2.2.1 ∈ xALL ∧ xoc ci ∧ j < xnsl ci ∧ (c = 0 → xtyf ci j = .int) ∧ (c = 1 → xtyf ci j = .boolean) ∧ (c < 2 → (xTN ci j).2.2.2 = false) ∧ (c = 2 → (xTN ci j).2.2.2 = false) ∧ (c = 3 → (xTN ci j).2.2.2 = true ∧ (xTN ci j).1 = xcn ci) ∧ (2 ≤ c → (xtyf ci j).isReference = true)) ∧ (c = 10 → Cond.fieldLink (xcn o) q "java/lang/String" "value" "[B" ∈ xALL) ∧ (c = 11 → Cond.fieldLink (xcn o) q "java/lang/String" "coder" "B" ∈ xALL) ∧ (c = 12 → Cond.fieldLink (xcn o) q "java/lang/String" "COMPACT_STRINGS" "Z" ∈ xALL) ∧ (c = 13 → Cond.fieldLink (xcn o) q "jdk/internal/util/Preconditions" "SIOOBE_FORMATTER" "Ljava/util/function/BiFunction;" ∈ xALL)
set_option maxRecDepth 20000 in
theorem xf0_12 : xff (0, 12, 0, 0, 3) := ⟨fun _ => ⟨xin 250 rfl rfl, by decide, by decide, fun h => absurd h (by decide), fun h => absurd h (by decide), fun h => absurd h (by decide), fun h => absurd h (by decide), fun _ => ⟨rfl, rfl⟩, fun _ => rfl⟩, fun h => absurd h (by decide), fun h => absurd h (by decide), fun h => absurd h (by decide), fun h => absurd h (by decide)⟩
set_option maxRecDepth 20000 in
theorem xf0_18 : xff (0, 18, 0, 1, 3) := ⟨fun _ => ⟨xin 251 rfl rfl, by decide, by decide, fun h => absurd h (by decide), fun h => absurd h (by decide), fun h => absurd h (by decide), fun h => absurd h (by decide), fun _ => ⟨rfl, rfl⟩, fun _ => rfl⟩, fun h => absurd h (by decide), fun h => absurd h (by decide), fun h => absurd h (by decide), fun h => absurd h (by decide)⟩
set_option maxRecDepth 20000 in
theorem xf0_22 : xff (0, 22, 0, 2, 3) := ⟨fun _ => ⟨xin 252 rfl rfl, by decide, by decide, fun h => absurd h (by decide), fun h => absurd h (by decide), fun h => absurd h (by decide), fun h => absurd h (by decide), fun _ => ⟨rfl, rfl⟩, fun _ => rfl⟩, fun h => absurd h (by decide), fun h => absurd h (by decide), fun h => absurd h (by decide), fun h => absurd h (by decide)⟩
set_option maxRecDepth 20000 in
theorem xf0_25 : xff (0, 25, 0, 3, 3) := ⟨fun _ => ⟨xin 254 rfl rfl, by decide, by decide, fun h => absurd h (by decide), fun h => absurd h (by decide), fun h => absurd h (by decide), fun h => absurd h (by decide), fun _ => ⟨rfl, rfl⟩, fun _ => rfl⟩, fun h => absurd h (by decide), fun h => absurd h (by decide), fun h => absurd h (by decide), fun h => absurd h (by decide)⟩
set_option maxRecDepth 20000 in
theorem xf0_28 : xff (0, 28, 0, 4, 0) := ⟨fun _ => ⟨xin 255 rfl rfl, by decide, by decide, fun _ => rfl, fun h => absurd h (by decide), fun _ => rfl, fun h => absurd h (by decide), fun h => absurd h (by decide), fun h => absurd h (by decide)⟩, fun h => absurd h (by decide), fun h => absurd h (by decide), fun h => absurd h (by decide), fun h => absurd h (by decide)⟩
set_option maxRecDepth 20000 in
theorem xf0_48 : xff (0, 48, 6, 2, 0) := ⟨fun _ => ⟨xin 217 rfl rfl, by decide, by decide, fun _ => rfl, fun h => absurd h (by decide), fun _ => rfl, fun h => absurd h (by decide), fun h => absurd h (by decide), fun h => absurd h (by decide)⟩, fun h => absurd h (by decide), fun h => absurd h (by decide), fun h => absurd h (by decide), fun h => absurd h (by decide)⟩
set_option maxRecDepth 20000 in
theorem xf0_51 : xff (0, 51, 6, 1, 3) := ⟨fun _ => ⟨xin 214 rfl rfl, by decide, by decide, fun h => absurd h (by decide), fun h => absurd h (by decide), fun h => absurd h (by decide), fun h => absurd h (by decide), fun _ => ⟨rfl, rfl⟩, fun _ => rfl⟩, fun h => absurd h (by decide), fun h => absurd h (by decide), fun h => absurd h (by decide), fun h => absurd h (by decide)⟩
set_option maxRecDepth 20000 in
theorem xf1_12 : xff (1, 12, 1, 0, 3) := ⟨fun _ => ⟨xin 226 rfl rfl, by decide, by decide, fun h => absurd h (by decide), fun h => absurd h (by decide), fun h => absurd h (by decide), fun h => absurd h (by decide), fun _ => ⟨rfl, rfl⟩, fun _ => rfl⟩, fun h => absurd h (by decide), fun h => absurd h (by decide), fun h => absurd h (by decide), fun h => absurd h (by decide)⟩
set_option maxRecDepth 20000 in
theorem xf1_18 : xff (1, 18, 1, 1, 3) := ⟨fun _ => ⟨xin 227 rfl rfl, by decide, by decide, fun h => absurd h (by decide), fun h => absurd h (by decide), fun h => absurd h (by decide), fun h => absurd h (by decide), fun _ => ⟨rfl, rfl⟩, fun _ => rfl⟩, fun h => absurd h (by decide), fun h => absurd h (by decide), fun h => absurd h (by decide), fun h => absurd h (by decide)⟩
set_option maxRecDepth 20000 in
theorem xf1_22 : xff (1, 22, 1, 2, 3) := ⟨fun _ => ⟨xin 228 rfl rfl, by decide, by decide, fun h => absurd h (by decide), fun h => absurd h (by decide), fun h => absurd h (by decide), fun h => absurd h (by decide), fun _ => ⟨rfl, rfl⟩, fun _ => rfl⟩, fun h => absurd h (by decide), fun h => absurd h (by decide), fun h => absurd h (by decide), fun h => absurd h (by decide)⟩
set_option maxRecDepth 20000 in
theorem xf1_25 : xff (1, 25, 1, 3, 0) := ⟨fun _ => ⟨xin 229 rfl rfl, by decide, by decide, fun _ => rfl, fun h => absurd h (by decide), fun _ => rfl, fun h => absurd h (by decide), fun h => absurd h (by decide), fun h => absurd h (by decide)⟩, fun h => absurd h (by decide), fun h => absurd h (by decide), fun h => absurd h (by decide), fun h => absurd h (by decide)⟩
set_option maxRecDepth 20000 in
theorem xf1_29 : xff (1, 29, 1, 4, 0) := ⟨fun _ => ⟨xin 230 rfl rfl, by decide, by decide, fun _ => rfl, fun h => absurd h (by decide), fun _ => rfl, fun h => absurd h (by decide), fun h => absurd h (by decide), fun h => absurd h (by decide)⟩, fun h => absurd h (by decide), fun h => absurd h (by decide), fun h => absurd h (by decide), fun h => absurd h (by decide)⟩
set_option maxRecDepth 20000 in
theorem xf1_44 : xff (1, 44, 6, 2, 0) := ⟨fun _ => ⟨xin 216 rfl rfl, by decide, by decide, fun _ => rfl, fun h => absurd h (by decide), fun _ => rfl, fun h => absurd h (by decide), fun h => absurd h (by decide), fun h => absurd h (by decide)⟩, fun h => absurd h (by decide), fun h => absurd h (by decide), fun h => absurd h (by decide), fun h => absurd h (by decide)⟩
set_option maxRecDepth 20000 in
theorem xf1_47 : xff (1, 47, 6, 1, 3) := ⟨fun _ => ⟨xin 215 rfl rfl, by decide, by decide, fun h => absurd h (by decide), fun h => absurd h (by decide), fun h => absurd h (by decide), fun h => absurd h (by decide), fun _ => ⟨rfl, rfl⟩, fun _ => rfl⟩, fun h => absurd h (by decide), fun h => absurd h (by decide), fun h => absurd h (by decide), fun h => absurd h (by decide)⟩
set_option maxRecDepth 20000 in
theorem xf1_58 : xff (1, 58, 6, 0, 3) := ⟨fun _ => ⟨xin 212 rfl rfl, by decide, by decide, fun h => absurd h (by decide), fun h => absurd h (by decide), fun h => absurd h (by decide), fun h => absurd h (by decide), fun _ => ⟨rfl, rfl⟩, fun _ => rfl⟩, fun h => absurd h (by decide), fun h => absurd h (by decide), fun h => absurd h (by decide), fun h => absurd h (by decide)⟩
set_option maxRecDepth 20000 in
theorem xf2_9 : xff (2, 9, 2, 0, 3) := ⟨fun _ => ⟨xin 301 rfl rfl, by decide, by decide, fun h => absurd h (by decide), fun h => absurd h (by decide), fun h => absurd h (by decide), fun h => absurd h (by decide), fun _ => ⟨rfl, rfl⟩, fun _ => rfl⟩, fun h => absurd h (by decide), fun h => absurd h (by decide), fun h => absurd h (by decide), fun h => absurd h (by decide)⟩
set_option maxRecDepth 20000 in
theorem xf2_21 : xff (2, 21, 3, 2, 3) := ⟨fun _ => ⟨xin 115 rfl rfl, by decide, by decide, fun h => absurd h (by decide), fun h => absurd h (by decide), fun h => absurd h (by decide), fun h => absurd h (by decide), fun _ => ⟨rfl, rfl⟩, fun _ => rfl⟩, fun h => absurd h (by decide), fun h => absurd h (by decide), fun h => absurd h (by decide), fun h => absurd h (by decide)⟩
set_option maxRecDepth 20000 in
theorem xf3_9 : xff (3, 9, 3, 2, 3) := ⟨fun _ => ⟨xin 112 rfl rfl, by decide, by decide, fun h => absurd h (by decide), fun h => absurd h (by decide), fun h => absurd h (by decide), fun h => absurd h (by decide), fun _ => ⟨rfl, rfl⟩, fun _ => rfl⟩, fun h => absurd h (by decide), fun h => absurd h (by decide), fun h => absurd h (by decide), fun h => absurd h (by decide)⟩
set_option maxRecDepth 20000 in
theorem xf3_15 : xff (3, 15, 3, 0, 0) := ⟨fun _ => ⟨xin 107 rfl rfl, by decide, by decide, fun _ => rfl, fun h => absurd h (by decide), fun _ => rfl, fun h => absurd h (by decide), fun h => absurd h (by decide), fun h => absurd h (by decide)⟩, fun h => absurd h (by decide), fun h => absurd h (by decide), fun h => absurd h (by decide), fun h => absurd h (by decide)⟩
set_option maxRecDepth 20000 in
theorem xf3_43 : xff (3, 43, 3, 1, 1) := ⟨fun _ => ⟨xin 110 rfl rfl, by decide, by decide, fun h => absurd h (by decide), fun _ => rfl, fun _ => rfl, fun h => absurd h (by decide), fun h => absurd h (by decide), fun h => absurd h (by decide)⟩, fun h => absurd h (by decide), fun h => absurd h (by decide), fun h => absurd h (by decide), fun h => absurd h (by decide)⟩
set_option maxRecDepth 20000 in
theorem xf4_11 : xff (4, 11, 4, 0, 3) := ⟨fun _ => ⟨xin 188 rfl rfl, by decide, by decide, fun h => absurd h (by decide), fun h => absurd h (by decide), fun h => absurd h (by decide), fun h => absurd h (by decide), fun _ => ⟨rfl, rfl⟩, fun _ => rfl⟩, fun h => absurd h (by decide), fun h => absurd h (by decide), fun h => absurd h (by decide), fun h => absurd h (by decide)⟩
set_option maxRecDepth 20000 in
theorem xf4_16 : xff (4, 16, 4, 1, 0) := ⟨fun _ => ⟨xin 189 rfl rfl, by decide, by decide, fun _ => rfl, fun h => absurd h (by decide), fun _ => rfl, fun h => absurd h (by decide), fun h => absurd h (by decide), fun h => absurd h (by decide)⟩, fun h => absurd h (by decide), fun h => absurd h (by decide), fun h => absurd h (by decide), fun h => absurd h (by decide)⟩
set_option maxRecDepth 20000 in
theorem xf4_24 : xff (4, 24, 4, 2, 0) := ⟨fun _ => ⟨xin 190 rfl rfl, by decide, by decide, fun _ => rfl, fun h => absurd h (by decide), fun _ => rfl, fun h => absurd h (by decide), fun h => absurd h (by decide), fun h => absurd h (by decide)⟩, fun h => absurd h (by decide), fun h => absurd h (by decide), fun h => absurd h (by decide), fun h => absurd h (by decide)⟩
set_option maxRecDepth 20000 in
theorem xf5_9 : xff (5, 9, 5, 0, 3) := ⟨fun _ => ⟨xin 273 rfl rfl, by decide, by decide, fun h => absurd h (by decide), fun h => absurd h (by decide), fun h => absurd h (by decide), fun h => absurd h (by decide), fun _ => ⟨rfl, rfl⟩, fun _ => rfl⟩, fun h => absurd h (by decide), fun h => absurd h (by decide), fun h => absurd h (by decide), fun h => absurd h (by decide)⟩
set_option maxRecDepth 20000 in
theorem xf5_15 : xff (5, 15, 5, 1, 3) := ⟨fun _ => ⟨xin 274 rfl rfl, by decide, by decide, fun h => absurd h (by decide), fun h => absurd h (by decide), fun h => absurd h (by decide), fun h => absurd h (by decide), fun _ => ⟨rfl, rfl⟩, fun _ => rfl⟩, fun h => absurd h (by decide), fun h => absurd h (by decide), fun h => absurd h (by decide), fun h => absurd h (by decide)⟩
set_option maxRecDepth 20000 in
theorem xf5_18 : xff (5, 18, 5, 2, 3) := ⟨fun _ => ⟨xin 275 rfl rfl, by decide, by decide, fun h => absurd h (by decide), fun h => absurd h (by decide), fun h => absurd h (by decide), fun h => absurd h (by decide), fun _ => ⟨rfl, rfl⟩, fun _ => rfl⟩, fun h => absurd h (by decide), fun h => absurd h (by decide), fun h => absurd h (by decide), fun h => absurd h (by decide)⟩
set_option maxRecDepth 20000 in
theorem xf5_21 : xff (5, 21, 5, 3, 3) := ⟨fun _ => ⟨xin 276 rfl rfl, by decide, by decide, fun h => absurd h (by decide), fun h => absurd h (by decide), fun h => absurd h (by decide), fun h => absurd h (by decide), fun _ => ⟨rfl, rfl⟩, fun _ => rfl⟩, fun h => absurd h (by decide), fun h => absurd h (by decide), fun h => absurd h (by decide), fun h => absurd h (by decide)⟩
set_option maxRecDepth 20000 in
theorem xf5_24 : xff (5, 24, 5, 4, 3) := ⟨fun _ => ⟨xin 277 rfl rfl, by decide, by decide, fun h => absurd h (by decide), fun h => absurd h (by decide), fun h => absurd h (by decide), fun h => absurd h (by decide), fun _ => ⟨rfl, rfl⟩, fun _ => rfl⟩, fun h => absurd h (by decide), fun h => absurd h (by decide), fun h => absurd h (by decide), fun h => absurd h (by decide)⟩
set_option maxRecDepth 20000 in
theorem xf5_27 : xff (5, 27, 5, 5, 3) := ⟨fun _ => ⟨xin 278 rfl rfl, by decide, by decide, fun h => absurd h (by decide), fun h => absurd h (by decide), fun h => absurd h (by decide), fun h => absurd h (by decide), fun _ => ⟨rfl, rfl⟩, fun _ => rfl⟩, fun h => absurd h (by decide), fun h => absurd h (by decide), fun h => absurd h (by decide), fun h => absurd h (by decide)⟩
set_option maxRecDepth 20000 in
theorem xf5_36 : xff (5, 36, 5, 6, 0) := ⟨fun _ => ⟨xin 279 rfl rfl, by decide, by decide, fun _ => rfl, fun h => absurd h (by decide), fun _ => rfl, fun h => absurd h (by decide), fun h => absurd h (by decide), fun h => absurd h (by decide)⟩, fun h => absurd h (by decide), fun h => absurd h (by decide), fun h => absurd h (by decide), fun h => absurd h (by decide)⟩
set_option maxRecDepth 20000 in
theorem xf5_40 : xff (5, 40, 0, 2, 3) := ⟨fun _ => ⟨xin 253 rfl rfl, by decide, by decide, fun h => absurd h (by decide), fun h => absurd h (by decide), fun h => absurd h (by decide), fun h => absurd h (by decide), fun _ => ⟨rfl, rfl⟩, fun _ => rfl⟩, fun h => absurd h (by decide), fun h => absurd h (by decide), fun h => absurd h (by decide), fun h => absurd h (by decide)⟩
set_option maxRecDepth 20000 in
theorem xf6_9 : xff (6, 9, 6, 0, 3) := ⟨fun _ => ⟨xin 211 rfl rfl, by decide, by decide, fun h => absurd h (by decide), fun h => absurd h (by decide), fun h => absurd h (by decide), fun h => absurd h (by decide), fun _ => ⟨rfl, rfl⟩, fun _ => rfl⟩, fun h => absurd h (by decide), fun h => absurd h (by decide), fun h => absurd h (by decide), fun h => absurd h (by decide)⟩
set_option maxRecDepth 20000 in
theorem xf6_15 : xff (6, 15, 6, 1, 3) := ⟨fun _ => ⟨xin 213 rfl rfl, by decide, by decide, fun h => absurd h (by decide), fun h => absurd h (by decide), fun h => absurd h (by decide), fun h => absurd h (by decide), fun _ => ⟨rfl, rfl⟩, fun _ => rfl⟩, fun h => absurd h (by decide), fun h => absurd h (by decide), fun h => absurd h (by decide), fun h => absurd h (by decide)⟩
set_option maxRecDepth 20000 in
theorem xf6_22 : xff (6, 22, 6, 2, 0) := ⟨fun _ => ⟨xin 218 rfl rfl, by decide, by decide, fun _ => rfl, fun h => absurd h (by decide), fun _ => rfl, fun h => absurd h (by decide), fun h => absurd h (by decide), fun h => absurd h (by decide)⟩, fun h => absurd h (by decide), fun h => absurd h (by decide), fun h => absurd h (by decide), fun h => absurd h (by decide)⟩
set_option maxRecDepth 20000 in
theorem xf7_11 : xff (7, 11, 7, 0, 3) := ⟨fun _ => ⟨xin 126 rfl rfl, by decide, by decide, fun h => absurd h (by decide), fun h => absurd h (by decide), fun h => absurd h (by decide), fun h => absurd h (by decide), fun _ => ⟨rfl, rfl⟩, fun _ => rfl⟩, fun h => absurd h (by decide), fun h => absurd h (by decide), fun h => absurd h (by decide), fun h => absurd h (by decide)⟩
set_option maxRecDepth 20000 in
theorem xf7_15 : xff (7, 15, 7, 3, 0) := ⟨fun _ => ⟨xin 131 rfl rfl, by decide, by decide, fun _ => rfl, fun h => absurd h (by decide), fun _ => rfl, fun h => absurd h (by decide), fun h => absurd h (by decide), fun h => absurd h (by decide)⟩, fun h => absurd h (by decide), fun h => absurd h (by decide), fun h => absurd h (by decide), fun h => absurd h (by decide)⟩
set_option maxRecDepth 20000 in
theorem xf7_22 : xff (7, 22, 7, 4, 3) := ⟨fun _ => ⟨xin 133 rfl rfl, by decide, by decide, fun h => absurd h (by decide), fun h => absurd h (by decide), fun h => absurd h (by decide), fun h => absurd h (by decide), fun _ => ⟨rfl, rfl⟩, fun _ => rfl⟩, fun h => absurd h (by decide), fun h => absurd h (by decide), fun h => absurd h (by decide), fun h => absurd h (by decide)⟩
set_option maxRecDepth 20000 in
theorem xf7_26 : xff (7, 26, 7, 5, 3) := ⟨fun _ => ⟨xin 135 rfl rfl, by decide, by decide, fun h => absurd h (by decide), fun h => absurd h (by decide), fun h => absurd h (by decide), fun h => absurd h (by decide), fun _ => ⟨rfl, rfl⟩, fun _ => rfl⟩, fun h => absurd h (by decide), fun h => absurd h (by decide), fun h => absurd h (by decide), fun h => absurd h (by decide)⟩
set_option maxRecDepth 20000 in
theorem xf7_30 : xff (7, 30, 7, 6, 3) := ⟨fun _ => ⟨xin 136 rfl rfl, by decide, by decide, fun h => absurd h (by decide), fun h => absurd h (by decide), fun h => absurd h (by decide), fun h => absurd h (by decide), fun _ => ⟨rfl, rfl⟩, fun _ => rfl⟩, fun h => absurd h (by decide), fun h => absurd h (by decide), fun h => absurd h (by decide), fun h => absurd h (by decide)⟩
set_option maxRecDepth 20000 in
theorem xf7_33 : xff (7, 33, 7, 7, 3) := ⟨fun _ => ⟨xin 137 rfl rfl, by decide, by decide, fun h => absurd h (by decide), fun h => absurd h (by decide), fun h => absurd h (by decide), fun h => absurd h (by decide), fun _ => ⟨rfl, rfl⟩, fun _ => rfl⟩, fun h => absurd h (by decide), fun h => absurd h (by decide), fun h => absurd h (by decide), fun h => absurd h (by decide)⟩
set_option maxRecDepth 20000 in
theorem xf7_37 : xff (7, 37, 7, 10, 3) := ⟨fun _ => ⟨xin 140 rfl rfl, by decide, by decide, fun h => absurd h (by decide), fun h => absurd h (by decide), fun h => absurd h (by decide), fun h => absurd h (by decide), fun _ => ⟨rfl, rfl⟩, fun _ => rfl⟩, fun h => absurd h (by decide), fun h => absurd h (by decide), fun h => absurd h (by decide), fun h => absurd h (by decide)⟩
set_option maxRecDepth 20000 in
theorem xf7_40 : xff (7, 40, 7, 11, 3) := ⟨fun _ => ⟨xin 141 rfl rfl, by decide, by decide, fun h => absurd h (by decide), fun h => absurd h (by decide), fun h => absurd h (by decide), fun h => absurd h (by decide), fun _ => ⟨rfl, rfl⟩, fun _ => rfl⟩, fun h => absurd h (by decide), fun h => absurd h (by decide), fun h => absurd h (by decide), fun h => absurd h (by decide)⟩
set_option maxRecDepth 20000 in
theorem xf7_43 : xff (7, 43, 7, 1, 0) := ⟨fun _ => ⟨xin 127 rfl rfl, by decide, by decide, fun _ => rfl, fun h => absurd h (by decide), fun _ => rfl, fun h => absurd h (by decide), fun h => absurd h (by decide), fun h => absurd h (by decide)⟩, fun h => absurd h (by decide), fun h => absurd h (by decide), fun h => absurd h (by decide), fun h => absurd h (by decide)⟩
set_option maxRecDepth 20000 in
theorem xf7_46 : xff (7, 46, 7, 2, 0) := ⟨fun _ => ⟨xin 129 rfl rfl, by decide, by decide, fun _ => rfl, fun h => absurd h (by decide), fun _ => rfl, fun h => absurd h (by decide), fun h => absurd h (by decide), fun h => absurd h (by decide)⟩, fun h => absurd h (by decide), fun h => absurd h (by decide), fun h => absurd h (by decide), fun h => absurd h (by decide)⟩
set_option maxRecDepth 20000 in
theorem xf7_55 : xff (7, 55, 7, 8, 0) := ⟨fun _ => ⟨xin 138 rfl rfl, by decide, by decide, fun _ => rfl, fun h => absurd h (by decide), fun _ => rfl, fun h => absurd h (by decide), fun h => absurd h (by decide), fun h => absurd h (by decide)⟩, fun h => absurd h (by decide), fun h => absurd h (by decide), fun h => absurd h (by decide), fun h => absurd h (by decide)⟩
set_option maxRecDepth 20000 in
theorem xf7_62 : xff (7, 62, 7, 9, 0) := ⟨fun _ => ⟨xin 139 rfl rfl, by decide, by decide, fun _ => rfl, fun h => absurd h (by decide), fun _ => rfl, fun h => absurd h (by decide), fun h => absurd h (by decide), fun h => absurd h (by decide)⟩, fun h => absurd h (by decide), fun h => absurd h (by decide), fun h => absurd h (by decide), fun h => absurd h (by decide)⟩
set_option maxRecDepth 20000 in
theorem xf7_131 : xff (7, 131, 7, 12, 0) := ⟨fun _ => ⟨xin 142 rfl rfl, by decide, by decide, fun _ => rfl, fun h => absurd h (by decide), fun _ => rfl, fun h => absurd h (by decide), fun h => absurd h (by decide), fun h => absurd h (by decide)⟩, fun h => absurd h (by decide), fun h => absurd h (by decide), fun h => absurd h (by decide), fun h => absurd h (by decide)⟩
set_option maxRecDepth 20000 in
theorem xf7_144 : xff (7, 144, 7, 14, 0) := ⟨fun _ => ⟨xin 144 rfl rfl, by decide, by decide, fun _ => rfl, fun h => absurd h (by decide), fun _ => rfl, fun h => absurd h (by decide), fun h => absurd h (by decide), fun h => absurd h (by decide)⟩, fun h => absurd h (by decide), fun h => absurd h (by decide), fun h => absurd h (by decide), fun h => absurd h (by decide)⟩
set_option maxRecDepth 20000 in
theorem xf7_147 : xff (7, 147, 3, 0, 0) := ⟨fun _ => ⟨xin 108 rfl rfl, by decide, by decide, fun _ => rfl, fun h => absurd h (by decide), fun _ => rfl, fun h => absurd h (by decide), fun h => absurd h (by decide), fun h => absurd h (by decide)⟩, fun h => absurd h (by decide), fun h => absurd h (by decide), fun h => absurd h (by decide), fun h => absurd h (by decide)⟩
set_option maxRecDepth 20000 in
theorem xf7_149 : xff (7, 149, 7, 13, 0) := ⟨fun _ => ⟨xin 143 rfl rfl, by decide, by decide, fun _ => rfl, fun h => absurd h (by decide), fun _ => rfl, fun h => absurd h (by decide), fun h => absurd h (by decide), fun h => absurd h (by decide)⟩, fun h => absurd h (by decide), fun h => absurd h (by decide), fun h => absurd h (by decide), fun h => absurd h (by decide)⟩
set_option maxRecDepth 20000 in
theorem xf8_9 : xff (8, 9, 8, 0, 3) := ⟨fun _ => ⟨xin 328 rfl rfl, by decide, by decide, fun h => absurd h (by decide), fun h => absurd h (by decide), fun h => absurd h (by decide), fun h => absurd h (by decide), fun _ => ⟨rfl, rfl⟩, fun _ => rfl⟩, fun h => absurd h (by decide), fun h => absurd h (by decide), fun h => absurd h (by decide), fun h => absurd h (by decide)⟩
set_option maxRecDepth 20000 in
theorem xf8_15 : xff (8, 15, 3, 0, 0) := ⟨fun _ => ⟨xin 106 rfl rfl, by decide, by decide, fun _ => rfl, fun h => absurd h (by decide), fun _ => rfl, fun h => absurd h (by decide), fun h => absurd h (by decide), fun h => absurd h (by decide)⟩, fun h => absurd h (by decide), fun h => absurd h (by decide), fun h => absurd h (by decide), fun h => absurd h (by decide)⟩
set_option maxRecDepth 20000 in
theorem xf8_27 : xff (8, 27, 3, 2, 3) := ⟨fun _ => ⟨xin 114 rfl rfl, by decide, by decide, fun h => absurd h (by decide), fun h => absurd h (by decide), fun h => absurd h (by decide), fun h => absurd h (by decide), fun _ => ⟨rfl, rfl⟩, fun _ => rfl⟩, fun h => absurd h (by decide), fun h => absurd h (by decide), fun h => absurd h (by decide), fun h => absurd h (by decide)⟩
set_option maxRecDepth 20000 in
theorem xf10_9 : xff (10, 9, 10, 0, 3) := ⟨fun _ => ⟨xin 312 rfl rfl, by decide, by decide, fun h => absurd h (by decide), fun h => absurd h (by decide), fun h => absurd h (by decide), fun h => absurd h (by decide), fun _ => ⟨rfl, rfl⟩, fun _ => rfl⟩, fun h => absurd h (by decide), fun h => absurd h (by decide), fun h => absurd h (by decide), fun h => absurd h (by decide)⟩
set_option maxRecDepth 20000 in
theorem xf10_15 : xff (10, 15, 10, 1, 3) := ⟨fun _ => ⟨xin 313 rfl rfl, by decide, by decide, fun h => absurd h (by decide), fun h => absurd h (by decide), fun h => absurd h (by decide), fun h => absurd h (by decide), fun _ => ⟨rfl, rfl⟩, fun _ => rfl⟩, fun h => absurd h (by decide), fun h => absurd h (by decide), fun h => absurd h (by decide), fun h => absurd h (by decide)⟩
set_option maxRecDepth 20000 in
theorem xf10_18 : xff (10, 18, 10, 2, 3) := ⟨fun _ => ⟨xin 314 rfl rfl, by decide, by decide, fun h => absurd h (by decide), fun h => absurd h (by decide), fun h => absurd h (by decide), fun h => absurd h (by decide), fun _ => ⟨rfl, rfl⟩, fun _ => rfl⟩, fun h => absurd h (by decide), fun h => absurd h (by decide), fun h => absurd h (by decide), fun h => absurd h (by decide)⟩
set_option maxRecDepth 20000 in
theorem xf10_21 : xff (10, 21, 3, 0, 0) := ⟨fun _ => ⟨xin 105 rfl rfl, by decide, by decide, fun _ => rfl, fun h => absurd h (by decide), fun _ => rfl, fun h => absurd h (by decide), fun h => absurd h (by decide), fun h => absurd h (by decide)⟩, fun h => absurd h (by decide), fun h => absurd h (by decide), fun h => absurd h (by decide), fun h => absurd h (by decide)⟩
set_option maxRecDepth 20000 in
theorem xf10_36 : xff (10, 36, 3, 2, 3) := ⟨fun _ => ⟨xin 113 rfl rfl, by decide, by decide, fun h => absurd h (by decide), fun h => absurd h (by decide), fun h => absurd h (by decide), fun h => absurd h (by decide), fun _ => ⟨rfl, rfl⟩, fun _ => rfl⟩, fun h => absurd h (by decide), fun h => absurd h (by decide), fun h => absurd h (by decide), fun h => absurd h (by decide)⟩
set_option maxRecDepth 20000 in
theorem xf11_10 : xff (11, 10, 11, 0, 3) := ⟨fun _ => ⟨xin 332 rfl rfl, by decide, by decide, fun h => absurd h (by decide), fun h => absurd h (by decide), fun h => absurd h (by decide), fun h => absurd h (by decide), fun _ => ⟨rfl, rfl⟩, fun _ => rfl⟩, fun h => absurd h (by decide), fun h => absurd h (by decide), fun h => absurd h (by decide), fun h => absurd h (by decide)⟩
set_option maxRecDepth 20000 in
theorem xf11_19 : xff (11, 19, 11, 1, 3) := ⟨fun _ => ⟨xin 333 rfl rfl, by decide, by decide, fun h => absurd h (by decide), fun h => absurd h (by decide), fun h => absurd h (by decide), fun h => absurd h (by decide), fun _ => ⟨rfl, rfl⟩, fun _ => rfl⟩, fun h => absurd h (by decide), fun h => absurd h (by decide), fun h => absurd h (by decide), fun h => absurd h (by decide)⟩
set_option maxRecDepth 20000 in
theorem xf11_23 : xff (11, 23, 11, 2, 3) := ⟨fun _ => ⟨xin 334 rfl rfl, by decide, by decide, fun h => absurd h (by decide), fun h => absurd h (by decide), fun h => absurd h (by decide), fun h => absurd h (by decide), fun _ => ⟨rfl, rfl⟩, fun _ => rfl⟩, fun h => absurd h (by decide), fun h => absurd h (by decide), fun h => absurd h (by decide), fun h => absurd h (by decide)⟩
set_option maxRecDepth 20000 in
theorem xf11_29 : xff (11, 29, 11, 3, 3) := ⟨fun _ => ⟨xin 335 rfl rfl, by decide, by decide, fun h => absurd h (by decide), fun h => absurd h (by decide), fun h => absurd h (by decide), fun h => absurd h (by decide), fun _ => ⟨rfl, rfl⟩, fun _ => rfl⟩, fun h => absurd h (by decide), fun h => absurd h (by decide), fun h => absurd h (by decide), fun h => absurd h (by decide)⟩
set_option maxRecDepth 20000 in
theorem xf11_33 : xff (11, 33, 11, 4, 3) := ⟨fun _ => ⟨xin 336 rfl rfl, by decide, by decide, fun h => absurd h (by decide), fun h => absurd h (by decide), fun h => absurd h (by decide), fun h => absurd h (by decide), fun _ => ⟨rfl, rfl⟩, fun _ => rfl⟩, fun h => absurd h (by decide), fun h => absurd h (by decide), fun h => absurd h (by decide), fun h => absurd h (by decide)⟩
set_option maxRecDepth 20000 in
theorem xf11_40 : xff (11, 40, 11, 7, 3) := ⟨fun _ => ⟨xin 339 rfl rfl, by decide, by decide, fun h => absurd h (by decide), fun h => absurd h (by decide), fun h => absurd h (by decide), fun h => absurd h (by decide), fun _ => ⟨rfl, rfl⟩, fun _ => rfl⟩, fun h => absurd h (by decide), fun h => absurd h (by decide), fun h => absurd h (by decide), fun h => absurd h (by decide)⟩
set_option maxRecDepth 20000 in
theorem xf11_44 : xff (11, 44, 11, 8, 3) := ⟨fun _ => ⟨xin 340 rfl rfl, by decide, by decide, fun h => absurd h (by decide), fun h => absurd h (by decide), fun h => absurd h (by decide), fun h => absurd h (by decide), fun _ => ⟨rfl, rfl⟩, fun _ => rfl⟩, fun h => absurd h (by decide), fun h => absurd h (by decide), fun h => absurd h (by decide), fun h => absurd h (by decide)⟩
set_option maxRecDepth 20000 in
theorem xf11_50 : xff (11, 50, 11, 9, 3) := ⟨fun _ => ⟨xin 341 rfl rfl, by decide, by decide, fun h => absurd h (by decide), fun h => absurd h (by decide), fun h => absurd h (by decide), fun h => absurd h (by decide), fun _ => ⟨rfl, rfl⟩, fun _ => rfl⟩, fun h => absurd h (by decide), fun h => absurd h (by decide), fun h => absurd h (by decide), fun h => absurd h (by decide)⟩
set_option maxRecDepth 20000 in
theorem xf11_54 : xff (11, 54, 11, 10, 3) := ⟨fun _ => ⟨xin 342 rfl rfl, by decide, by decide, fun h => absurd h (by decide), fun h => absurd h (by decide), fun h => absurd h (by decide), fun h => absurd h (by decide), fun _ => ⟨rfl, rfl⟩, fun _ => rfl⟩, fun h => absurd h (by decide), fun h => absurd h (by decide), fun h => absurd h (by decide), fun h => absurd h (by decide)⟩
set_option maxRecDepth 20000 in
theorem xf11_60 : xff (11, 60, 11, 11, 3) := ⟨fun _ => ⟨xin 343 rfl rfl, by decide, by decide, fun h => absurd h (by decide), fun h => absurd h (by decide), fun h => absurd h (by decide), fun h => absurd h (by decide), fun _ => ⟨rfl, rfl⟩, fun _ => rfl⟩, fun h => absurd h (by decide), fun h => absurd h (by decide), fun h => absurd h (by decide), fun h => absurd h (by decide)⟩
set_option maxRecDepth 20000 in
theorem xf11_67 : xff (11, 67, 11, 12, 3) := ⟨fun _ => ⟨xin 344 rfl rfl, by decide, by decide, fun h => absurd h (by decide), fun h => absurd h (by decide), fun h => absurd h (by decide), fun h => absurd h (by decide), fun _ => ⟨rfl, rfl⟩, fun _ => rfl⟩, fun h => absurd h (by decide), fun h => absurd h (by decide), fun h => absurd h (by decide), fun h => absurd h (by decide)⟩
set_option maxRecDepth 20000 in
theorem xf11_74 : xff (11, 74, 11, 13, 3) := ⟨fun _ => ⟨xin 345 rfl rfl, by decide, by decide, fun h => absurd h (by decide), fun h => absurd h (by decide), fun h => absurd h (by decide), fun h => absurd h (by decide), fun _ => ⟨rfl, rfl⟩, fun _ => rfl⟩, fun h => absurd h (by decide), fun h => absurd h (by decide), fun h => absurd h (by decide), fun h => absurd h (by decide)⟩
set_option maxRecDepth 20000 in
theorem xf11_81 : xff (11, 81, 11, 14, 3) := ⟨fun _ => ⟨xin 346 rfl rfl, by decide, by decide, fun h => absurd h (by decide), fun h => absurd h (by decide), fun h => absurd h (by decide), fun h => absurd h (by decide), fun _ => ⟨rfl, rfl⟩, fun _ => rfl⟩, fun h => absurd h (by decide), fun h => absurd h (by decide), fun h => absurd h (by decide), fun h => absurd h (by decide)⟩
set_option maxRecDepth 20000 in
theorem xf11_93 : xff (11, 93, 7, 1, 0) := ⟨fun _ => ⟨xin 128 rfl rfl, by decide, by decide, fun _ => rfl, fun h => absurd h (by decide), fun _ => rfl, fun h => absurd h (by decide), fun h => absurd h (by decide), fun h => absurd h (by decide)⟩, fun h => absurd h (by decide), fun h => absurd h (by decide), fun h => absurd h (by decide), fun h => absurd h (by decide)⟩
set_option maxRecDepth 20000 in
theorem xf11_100 : xff (11, 100, 7, 2, 0) := ⟨fun _ => ⟨xin 130 rfl rfl, by decide, by decide, fun _ => rfl, fun h => absurd h (by decide), fun _ => rfl, fun h => absurd h (by decide), fun h => absurd h (by decide), fun h => absurd h (by decide)⟩, fun h => absurd h (by decide), fun h => absurd h (by decide), fun h => absurd h (by decide), fun h => absurd h (by decide)⟩
set_option maxRecDepth 20000 in
theorem xf11_103 : xff (11, 103, 7, 4, 3) := ⟨fun _ => ⟨xin 134 rfl rfl, by decide, by decide, fun h => absurd h (by decide), fun h => absurd h (by decide), fun h => absurd h (by decide), fun h => absurd h (by decide), fun _ => ⟨rfl, rfl⟩, fun _ => rfl⟩, fun h => absurd h (by decide), fun h => absurd h (by decide), fun h => absurd h (by decide), fun h => absurd h (by decide)⟩
set_option maxRecDepth 20000 in
theorem xf11_110 : xff (11, 110, 11, 6, 1) := ⟨fun _ => ⟨xin 338 rfl rfl, by decide, by decide, fun h => absurd h (by decide), fun _ => rfl, fun _ => rfl, fun h => absurd h (by decide), fun h => absurd h (by decide), fun h => absurd h (by decide)⟩, fun h => absurd h (by decide), fun h => absurd h (by decide), fun h => absurd h (by decide), fun h => absurd h (by decide)⟩
set_option maxRecDepth 20000 in
theorem xf11_117 : xff (11, 117, 11, 5, 0) := ⟨fun _ => ⟨xin 337 rfl rfl, by decide, by decide, fun _ => rfl, fun h => absurd h (by decide), fun _ => rfl, fun h => absurd h (by decide), fun h => absurd h (by decide), fun h => absurd h (by decide)⟩, fun h => absurd h (by decide), fun h => absurd h (by decide), fun h => absurd h (by decide), fun h => absurd h (by decide)⟩
set_option maxRecDepth 20000 in
theorem xf11_120 : xff (11, 120, 7, 3, 0) := ⟨fun _ => ⟨xin 132 rfl rfl, by decide, by decide, fun _ => rfl, fun h => absurd h (by decide), fun _ => rfl, fun h => absurd h (by decide), fun h => absurd h (by decide), fun h => absurd h (by decide)⟩, fun h => absurd h (by decide), fun h => absurd h (by decide), fun h => absurd h (by decide), fun h => absurd h (by decide)⟩
set_option maxRecDepth 20000 in
theorem xf11_160 : xff (11, 160, 3, 1, 1) := ⟨fun _ => ⟨xin 111 rfl rfl, by decide, by decide, fun h => absurd h (by decide), fun _ => rfl, fun _ => rfl, fun h => absurd h (by decide), fun h => absurd h (by decide), fun h => absurd h (by decide)⟩, fun h => absurd h (by decide), fun h => absurd h (by decide), fun h => absurd h (by decide), fun h => absurd h (by decide)⟩
set_option maxRecDepth 20000 in
theorem xf11_189 : xff (11, 189, 3, 2, 3) := ⟨fun _ => ⟨xin 116 rfl rfl, by decide, by decide, fun h => absurd h (by decide), fun h => absurd h (by decide), fun h => absurd h (by decide), fun h => absurd h (by decide), fun _ => ⟨rfl, rfl⟩, fun _ => rfl⟩, fun h => absurd h (by decide), fun h => absurd h (by decide), fun h => absurd h (by decide), fun h => absurd h (by decide)⟩
set_option maxRecDepth 20000 in
theorem xf11_322 : xff (11, 322, 3, 0, 0) := ⟨fun _ => ⟨xin 109 rfl rfl, by decide, by decide, fun _ => rfl, fun h => absurd h (by decide), fun _ => rfl, fun h => absurd h (by decide), fun h => absurd h (by decide), fun h => absurd h (by decide)⟩, fun h => absurd h (by decide), fun h => absurd h (by decide), fun h => absurd h (by decide), fun h => absurd h (by decide)⟩
set_option maxRecDepth 20000 in
theorem xf11_334 : xff (11, 334, 4, 2, 0) := ⟨fun _ => ⟨xin 191 rfl rfl, by decide, by decide, fun _ => rfl, fun h => absurd h (by decide), fun _ => rfl, fun h => absurd h (by decide), fun h => absurd h (by decide), fun h => absurd h (by decide)⟩, fun h => absurd h (by decide), fun h => absurd h (by decide), fun h => absurd h (by decide), fun h => absurd h (by decide)⟩
set_option maxRecDepth 20000 in
theorem xf12_13 : xff (12, 13, 12, 1, 3) := ⟨fun _ => ⟨xin 1050 rfl rfl, by decide, by decide, fun h => absurd h (by decide), fun h => absurd h (by decide), fun h => absurd h (by decide), fun h => absurd h (by decide), fun _ => ⟨rfl, rfl⟩, fun _ => rfl⟩, fun h => absurd h (by decide), fun h => absurd h (by decide), fun h => absurd h (by decide), fun h => absurd h (by decide)⟩
set_option maxRecDepth 20000 in
theorem xf12_17 : xff (12, 17, 12, 3, 3) := ⟨fun _ => ⟨xin 1052 rfl rfl, by decide, by decide, fun h => absurd h (by decide), fun h => absurd h (by decide), fun h => absurd h (by decide), fun h => absurd h (by decide), fun _ => ⟨rfl, rfl⟩, fun _ => rfl⟩, fun h => absurd h (by decide), fun h => absurd h (by decide), fun h => absurd h (by decide), fun h => absurd h (by decide)⟩
set_option maxRecDepth 20000 in
theorem xf12_20 : xff (12, 20, 12, 5, 3) := ⟨fun _ => ⟨xin 1054 rfl rfl, by decide, by decide, fun h => absurd h (by decide), fun h => absurd h (by decide), fun h => absurd h (by decide), fun h => absurd h (by decide), fun _ => ⟨rfl, rfl⟩, fun _ => rfl⟩, fun h => absurd h (by decide), fun h => absurd h (by decide), fun h => absurd h (by decide), fun h => absurd h (by decide)⟩
set_option maxRecDepth 20000 in
theorem xf12_24 : xff (12, 24, 12, 6, 3) := ⟨fun _ => ⟨xin 1055 rfl rfl, by decide, by decide, fun h => absurd h (by decide), fun h => absurd h (by decide), fun h => absurd h (by decide), fun h => absurd h (by decide), fun _ => ⟨rfl, rfl⟩, fun _ => rfl⟩, fun h => absurd h (by decide), fun h => absurd h (by decide), fun h => absurd h (by decide), fun h => absurd h (by decide)⟩
set_option maxRecDepth 20000 in
theorem xf12_27 : xff (12, 27, 12, 7, 3) := ⟨fun _ => ⟨xin 1056 rfl rfl, by decide, by decide, fun h => absurd h (by decide), fun h => absurd h (by decide), fun h => absurd h (by decide), fun h => absurd h (by decide), fun _ => ⟨rfl, rfl⟩, fun _ => rfl⟩, fun h => absurd h (by decide), fun h => absurd h (by decide), fun h => absurd h (by decide), fun h => absurd h (by decide)⟩
set_option maxRecDepth 20000 in
theorem xf12_30 : xff (12, 30, 12, 8, 3) := ⟨fun _ => ⟨xin 1057 rfl rfl, by decide, by decide, fun h => absurd h (by decide), fun h => absurd h (by decide), fun h => absurd h (by decide), fun h => absurd h (by decide), fun _ => ⟨rfl, rfl⟩, fun _ => rfl⟩, fun h => absurd h (by decide), fun h => absurd h (by decide), fun h => absurd h (by decide), fun h => absurd h (by decide)⟩
set_option maxRecDepth 20000 in
theorem xf12_34 : xff (12, 34, 12, 9, 3) := ⟨fun _ => ⟨xin 1058 rfl rfl, by decide, by decide, fun h => absurd h (by decide), fun h => absurd h (by decide), fun h => absurd h (by decide), fun h => absurd h (by decide), fun _ => ⟨rfl, rfl⟩, fun _ => rfl⟩, fun h => absurd h (by decide), fun h => absurd h (by decide), fun h => absurd h (by decide), fun h => absurd h (by decide)⟩
set_option maxRecDepth 20000 in
theorem xf12_37 : xff (12, 37, 12, 16, 0) := ⟨fun _ => ⟨xin 1065 rfl rfl, by decide, by decide, fun _ => rfl, fun h => absurd h (by decide), fun _ => rfl, fun h => absurd h (by decide), fun h => absurd h (by decide), fun h => absurd h (by decide)⟩, fun h => absurd h (by decide), fun h => absurd h (by decide), fun h => absurd h (by decide), fun h => absurd h (by decide)⟩
set_option maxRecDepth 20000 in
theorem xf12_40 : xff (12, 40, 12, 18, 3) := ⟨fun _ => ⟨xin 1067 rfl rfl, by decide, by decide, fun h => absurd h (by decide), fun h => absurd h (by decide), fun h => absurd h (by decide), fun h => absurd h (by decide), fun _ => ⟨rfl, rfl⟩, fun _ => rfl⟩, fun h => absurd h (by decide), fun h => absurd h (by decide), fun h => absurd h (by decide), fun h => absurd h (by decide)⟩
set_option maxRecDepth 20000 in
theorem xf12_43 : xff (12, 43, 12, 19, 3) := ⟨fun _ => ⟨xin 1068 rfl rfl, by decide, by decide, fun h => absurd h (by decide), fun h => absurd h (by decide), fun h => absurd h (by decide), fun h => absurd h (by decide), fun _ => ⟨rfl, rfl⟩, fun _ => rfl⟩, fun h => absurd h (by decide), fun h => absurd h (by decide), fun h => absurd h (by decide), fun h => absurd h (by decide)⟩
set_option maxRecDepth 20000 in
theorem xf12_46 : xff (12, 46, 12, 21, 3) := ⟨fun _ => ⟨xin 1070 rfl rfl, by decide, by decide, fun h => absurd h (by decide), fun h => absurd h (by decide), fun h => absurd h (by decide), fun h => absurd h (by decide), fun _ => ⟨rfl, rfl⟩, fun _ => rfl⟩, fun h => absurd h (by decide), fun h => absurd h (by decide), fun h => absurd h (by decide), fun h => absurd h (by decide)⟩
set_option maxRecDepth 20000 in
theorem xf12_49 : xff (12, 49, 12, 22, 3) := ⟨fun _ => ⟨xin 1071 rfl rfl, by decide, by decide, fun h => absurd h (by decide), fun h => absurd h (by decide), fun h => absurd h (by decide), fun h => absurd h (by decide), fun _ => ⟨rfl, rfl⟩, fun _ => rfl⟩, fun h => absurd h (by decide), fun h => absurd h (by decide), fun h => absurd h (by decide), fun h => absurd h (by decide)⟩
set_option maxRecDepth 20000 in
theorem xf12_52 : xff (12, 52, 12, 23, 3) := ⟨fun _ => ⟨xin 1072 rfl rfl, by decide, by decide, fun h => absurd h (by decide), fun h => absurd h (by decide), fun h => absurd h (by decide), fun h => absurd h (by decide), fun _ => ⟨rfl, rfl⟩, fun _ => rfl⟩, fun h => absurd h (by decide), fun h => absurd h (by decide), fun h => absurd h (by decide), fun h => absurd h (by decide)⟩
set_option maxRecDepth 20000 in
theorem xf12_55 : xff (12, 55, 12, 26, 3) := ⟨fun _ => ⟨xin 1075 rfl rfl, by decide, by decide, fun h => absurd h (by decide), fun h => absurd h (by decide), fun h => absurd h (by decide), fun h => absurd h (by decide), fun _ => ⟨rfl, rfl⟩, fun _ => rfl⟩, fun h => absurd h (by decide), fun h => absurd h (by decide), fun h => absurd h (by decide), fun h => absurd h (by decide)⟩
set_option maxRecDepth 20000 in
theorem xf12_58 : xff (12, 58, 12, 27, 3) := ⟨fun _ => ⟨xin 1076 rfl rfl, by decide, by decide, fun h => absurd h (by decide), fun h => absurd h (by decide), fun h => absurd h (by decide), fun h => absurd h (by decide), fun _ => ⟨rfl, rfl⟩, fun _ => rfl⟩, fun h => absurd h (by decide), fun h => absurd h (by decide), fun h => absurd h (by decide), fun h => absurd h (by decide)⟩
set_option maxRecDepth 20000 in
theorem xf12_62 : xff (12, 62, 12, 28, 3) := ⟨fun _ => ⟨xin 1077 rfl rfl, by decide, by decide, fun h => absurd h (by decide), fun h => absurd h (by decide), fun h => absurd h (by decide), fun h => absurd h (by decide), fun _ => ⟨rfl, rfl⟩, fun _ => rfl⟩, fun h => absurd h (by decide), fun h => absurd h (by decide), fun h => absurd h (by decide), fun h => absurd h (by decide)⟩
set_option maxRecDepth 20000 in
theorem xf12_65 : xff (12, 65, 12, 29, 3) := ⟨fun _ => ⟨xin 1078 rfl rfl, by decide, by decide, fun h => absurd h (by decide), fun h => absurd h (by decide), fun h => absurd h (by decide), fun h => absurd h (by decide), fun _ => ⟨rfl, rfl⟩, fun _ => rfl⟩, fun h => absurd h (by decide), fun h => absurd h (by decide), fun h => absurd h (by decide), fun h => absurd h (by decide)⟩
set_option maxRecDepth 20000 in
theorem xf12_68 : xff (12, 68, 12, 30, 3) := ⟨fun _ => ⟨xin 1079 rfl rfl, by decide, by decide, fun h => absurd h (by decide), fun h => absurd h (by decide), fun h => absurd h (by decide), fun h => absurd h (by decide), fun _ => ⟨rfl, rfl⟩, fun _ => rfl⟩, fun h => absurd h (by decide), fun h => absurd h (by decide), fun h => absurd h (by decide), fun h => absurd h (by decide)⟩
set_option maxRecDepth 20000 in
theorem xf12_71 : xff (12, 71, 12, 34, 3) := ⟨fun _ => ⟨xin 1083 rfl rfl, by decide, by decide, fun h => absurd h (by decide), fun h => absurd h (by decide), fun h => absurd h (by decide), fun h => absurd h (by decide), fun _ => ⟨rfl, rfl⟩, fun _ => rfl⟩, fun h => absurd h (by decide), fun h => absurd h (by decide), fun h => absurd h (by decide), fun h => absurd h (by decide)⟩
set_option maxRecDepth 20000 in
theorem xf12_74 : xff (12, 74, 12, 35, 3) := ⟨fun _ => ⟨xin 1084 rfl rfl, by decide, by decide, fun h => absurd h (by decide), fun h => absurd h (by decide), fun h => absurd h (by decide), fun h => absurd h (by decide), fun _ => ⟨rfl, rfl⟩, fun _ => rfl⟩, fun h => absurd h (by decide), fun h => absurd h (by decide), fun h => absurd h (by decide), fun h => absurd h (by decide)⟩
set_option maxRecDepth 20000 in
theorem xf12_77 : xff (12, 77, 12, 36, 3) := ⟨fun _ => ⟨xin 1085 rfl rfl, by decide, by decide, fun h => absurd h (by decide), fun h => absurd h (by decide), fun h => absurd h (by decide), fun h => absurd h (by decide), fun _ => ⟨rfl, rfl⟩, fun _ => rfl⟩, fun h => absurd h (by decide), fun h => absurd h (by decide), fun h => absurd h (by decide), fun h => absurd h (by decide)⟩
set_option maxRecDepth 20000 in
theorem xf12_80 : xff (12, 80, 12, 37, 3) := ⟨fun _ => ⟨xin 1086 rfl rfl, by decide, by decide, fun h => absurd h (by decide), fun h => absurd h (by decide), fun h => absurd h (by decide), fun h => absurd h (by decide), fun _ => ⟨rfl, rfl⟩, fun _ => rfl⟩, fun h => absurd h (by decide), fun h => absurd h (by decide), fun h => absurd h (by decide), fun h => absurd h (by decide)⟩
set_option maxRecDepth 20000 in
theorem xf12_83 : xff (12, 83, 12, 38, 3) := ⟨fun _ => ⟨xin 1087 rfl rfl, by decide, by decide, fun h => absurd h (by decide), fun h => absurd h (by decide), fun h => absurd h (by decide), fun h => absurd h (by decide), fun _ => ⟨rfl, rfl⟩, fun _ => rfl⟩, fun h => absurd h (by decide), fun h => absurd h (by decide), fun h => absurd h (by decide), fun h => absurd h (by decide)⟩
set_option maxRecDepth 20000 in
theorem xf12_86 : xff (12, 86, 12, 40, 3) := ⟨fun _ => ⟨xin 1089 rfl rfl, by decide, by decide, fun h => absurd h (by decide), fun h => absurd h (by decide), fun h => absurd h (by decide), fun h => absurd h (by decide), fun _ => ⟨rfl, rfl⟩, fun _ => rfl⟩, fun h => absurd h (by decide), fun h => absurd h (by decide), fun h => absurd h (by decide), fun h => absurd h (by decide)⟩
set_option maxRecDepth 20000 in
theorem xf12_89 : xff (12, 89, 12, 41, 3) := ⟨fun _ => ⟨xin 1090 rfl rfl, by decide, by decide, fun h => absurd h (by decide), fun h => absurd h (by decide), fun h => absurd h (by decide), fun h => absurd h (by decide), fun _ => ⟨rfl, rfl⟩, fun _ => rfl⟩, fun h => absurd h (by decide), fun h => absurd h (by decide), fun h => absurd h (by decide), fun h => absurd h (by decide)⟩
set_option maxRecDepth 20000 in
theorem xf12_92 : xff (12, 92, 12, 42, 3) := ⟨fun _ => ⟨xin 1091 rfl rfl, by decide, by decide, fun h => absurd h (by decide), fun h => absurd h (by decide), fun h => absurd h (by decide), fun h => absurd h (by decide), fun _ => ⟨rfl, rfl⟩, fun _ => rfl⟩, fun h => absurd h (by decide), fun h => absurd h (by decide), fun h => absurd h (by decide), fun h => absurd h (by decide)⟩
set_option maxRecDepth 20000 in
theorem xf12_95 : xff (12, 95, 12, 43, 3) := ⟨fun _ => ⟨xin 1092 rfl rfl, by decide, by decide, fun h => absurd h (by decide), fun h => absurd h (by decide), fun h => absurd h (by decide), fun h => absurd h (by decide), fun _ => ⟨rfl, rfl⟩, fun _ => rfl⟩, fun h => absurd h (by decide), fun h => absurd h (by decide), fun h => absurd h (by decide), fun h => absurd h (by decide)⟩
set_option maxRecDepth 20000 in
theorem xf12_98 : xff (12, 98, 12, 44, 3) := ⟨fun _ => ⟨xin 1093 rfl rfl, by decide, by decide, fun h => absurd h (by decide), fun h => absurd h (by decide), fun h => absurd h (by decide), fun h => absurd h (by decide), fun _ => ⟨rfl, rfl⟩, fun _ => rfl⟩, fun h => absurd h (by decide), fun h => absurd h (by decide), fun h => absurd h (by decide), fun h => absurd h (by decide)⟩
set_option maxRecDepth 20000 in
theorem xf12_101 : xff (12, 101, 12, 45, 3) := ⟨fun _ => ⟨xin 1094 rfl rfl, by decide, by decide, fun h => absurd h (by decide), fun h => absurd h (by decide), fun h => absurd h (by decide), fun h => absurd h (by decide), fun _ => ⟨rfl, rfl⟩, fun _ => rfl⟩, fun h => absurd h (by decide), fun h => absurd h (by decide), fun h => absurd h (by decide), fun h => absurd h (by decide)⟩
set_option maxRecDepth 20000 in
theorem xf12_104 : xff (12, 104, 12, 46, 3) := ⟨fun _ => ⟨xin 1095 rfl rfl, by decide, by decide, fun h => absurd h (by decide), fun h => absurd h (by decide), fun h => absurd h (by decide), fun h => absurd h (by decide), fun _ => ⟨rfl, rfl⟩, fun _ => rfl⟩, fun h => absurd h (by decide), fun h => absurd h (by decide), fun h => absurd h (by decide), fun h => absurd h (by decide)⟩
set_option maxRecDepth 20000 in
theorem xf12_107 : xff (12, 107, 12, 47, 3) := ⟨fun _ => ⟨xin 1096 rfl rfl, by decide, by decide, fun h => absurd h (by decide), fun h => absurd h (by decide), fun h => absurd h (by decide), fun h => absurd h (by decide), fun _ => ⟨rfl, rfl⟩, fun _ => rfl⟩, fun h => absurd h (by decide), fun h => absurd h (by decide), fun h => absurd h (by decide), fun h => absurd h (by decide)⟩
set_option maxRecDepth 20000 in
theorem xf12_110 : xff (12, 110, 12, 48, 3) := ⟨fun _ => ⟨xin 1097 rfl rfl, by decide, by decide, fun h => absurd h (by decide), fun h => absurd h (by decide), fun h => absurd h (by decide), fun h => absurd h (by decide), fun _ => ⟨rfl, rfl⟩, fun _ => rfl⟩, fun h => absurd h (by decide), fun h => absurd h (by decide), fun h => absurd h (by decide), fun h => absurd h (by decide)⟩
set_option maxRecDepth 20000 in
theorem xf12_113 : xff (12, 113, 12, 49, 3) := ⟨fun _ => ⟨xin 1098 rfl rfl, by decide, by decide, fun h => absurd h (by decide), fun h => absurd h (by decide), fun h => absurd h (by decide), fun h => absurd h (by decide), fun _ => ⟨rfl, rfl⟩, fun _ => rfl⟩, fun h => absurd h (by decide), fun h => absurd h (by decide), fun h => absurd h (by decide), fun h => absurd h (by decide)⟩
set_option maxRecDepth 20000 in
theorem xf12_116 : xff (12, 116, 12, 50, 3) := ⟨fun _ => ⟨xin 1099 rfl rfl, by decide, by decide, fun h => absurd h (by decide), fun h => absurd h (by decide), fun h => absurd h (by decide), fun h => absurd h (by decide), fun _ => ⟨rfl, rfl⟩, fun _ => rfl⟩, fun h => absurd h (by decide), fun h => absurd h (by decide), fun h => absurd h (by decide), fun h => absurd h (by decide)⟩
set_option maxRecDepth 20000 in
theorem xf12_119 : xff (12, 119, 12, 51, 3) := ⟨fun _ => ⟨xin 1100 rfl rfl, by decide, by decide, fun h => absurd h (by decide), fun h => absurd h (by decide), fun h => absurd h (by decide), fun h => absurd h (by decide), fun _ => ⟨rfl, rfl⟩, fun _ => rfl⟩, fun h => absurd h (by decide), fun h => absurd h (by decide), fun h => absurd h (by decide), fun h => absurd h (by decide)⟩
set_option maxRecDepth 20000 in
theorem xf12_122 : xff (12, 122, 12, 52, 3) := ⟨fun _ => ⟨xin 1101 rfl rfl, by decide, by decide, fun h => absurd h (by decide), fun h => absurd h (by decide), fun h => absurd h (by decide), fun h => absurd h (by decide), fun _ => ⟨rfl, rfl⟩, fun _ => rfl⟩, fun h => absurd h (by decide), fun h => absurd h (by decide), fun h => absurd h (by decide), fun h => absurd h (by decide)⟩
set_option maxRecDepth 20000 in
theorem xf12_125 : xff (12, 125, 12, 53, 3) := ⟨fun _ => ⟨xin 1102 rfl rfl, by decide, by decide, fun h => absurd h (by decide), fun h => absurd h (by decide), fun h => absurd h (by decide), fun h => absurd h (by decide), fun _ => ⟨rfl, rfl⟩, fun _ => rfl⟩, fun h => absurd h (by decide), fun h => absurd h (by decide), fun h => absurd h (by decide), fun h => absurd h (by decide)⟩
set_option maxRecDepth 20000 in
theorem xf12_128 : xff (12, 128, 12, 54, 3) := ⟨fun _ => ⟨xin 1103 rfl rfl, by decide, by decide, fun h => absurd h (by decide), fun h => absurd h (by decide), fun h => absurd h (by decide), fun h => absurd h (by decide), fun _ => ⟨rfl, rfl⟩, fun _ => rfl⟩, fun h => absurd h (by decide), fun h => absurd h (by decide), fun h => absurd h (by decide), fun h => absurd h (by decide)⟩
set_option maxRecDepth 20000 in
theorem xf12_131 : xff (12, 131, 12, 55, 3) := ⟨fun _ => ⟨xin 1104 rfl rfl, by decide, by decide, fun h => absurd h (by decide), fun h => absurd h (by decide), fun h => absurd h (by decide), fun h => absurd h (by decide), fun _ => ⟨rfl, rfl⟩, fun _ => rfl⟩, fun h => absurd h (by decide), fun h => absurd h (by decide), fun h => absurd h (by decide), fun h => absurd h (by decide)⟩
set_option maxRecDepth 20000 in
theorem xf12_134 : xff (12, 134, 12, 56, 3) := ⟨fun _ => ⟨xin 1105 rfl rfl, by decide, by decide, fun h => absurd h (by decide), fun h => absurd h (by decide), fun h => absurd h (by decide), fun h => absurd h (by decide), fun _ => ⟨rfl, rfl⟩, fun _ => rfl⟩, fun h => absurd h (by decide), fun h => absurd h (by decide), fun h => absurd h (by decide), fun h => absurd h (by decide)⟩
set_option maxRecDepth 20000 in
theorem xf12_141 : xff (12, 141, 12, 2, 0) := ⟨fun _ => ⟨xin 1051 rfl rfl, by decide, by decide, fun _ => rfl, fun h => absurd h (by decide), fun _ => rfl, fun h => absurd h (by decide), fun h => absurd h (by decide), fun h => absurd h (by decide)⟩, fun h => absurd h (by decide), fun h => absurd h (by decide), fun h => absurd h (by decide), fun h => absurd h (by decide)⟩
set_option maxRecDepth 20000 in
theorem xf12_148 : xff (12, 148, 12, 4, 0) := ⟨fun _ => ⟨xin 1053 rfl rfl, by decide, by decide, fun _ => rfl, fun h => absurd h (by decide), fun _ => rfl, fun h => absurd h (by decide), fun h => absurd h (by decide), fun h => absurd h (by decide)⟩, fun h => absurd h (by decide), fun h => absurd h (by decide), fun h => absurd h (by decide), fun h => absurd h (by decide)⟩
set_option maxRecDepth 20000 in
theorem xf12_157 : xff (12, 157, 12, 10, 0) := ⟨fun _ => ⟨xin 1059 rfl rfl, by decide, by decide, fun _ => rfl, fun h => absurd h (by decide), fun _ => rfl, fun h => absurd h (by decide), fun h => absurd h (by decide), fun h => absurd h (by decide)⟩, fun h => absurd h (by decide), fun h => absurd h (by decide), fun h => absurd h (by decide), fun h => absurd h (by decide)⟩
set_option maxRecDepth 20000 in
theorem xf12_179 : xff (12, 179, 12, 12, 0) := ⟨fun _ => ⟨xin 1061 rfl rfl, by decide, by decide, fun _ => rfl, fun h => absurd h (by decide), fun _ => rfl, fun h => absurd h (by decide), fun h => absurd h (by decide), fun h => absurd h (by decide)⟩, fun h => absurd h (by decide), fun h => absurd h (by decide), fun h => absurd h (by decide), fun h => absurd h (by decide)⟩
set_option maxRecDepth 20000 in
theorem xf12_182 : xff (12, 182, 12, 11, 0) := ⟨fun _ => ⟨xin 1060 rfl rfl, by decide, by decide, fun _ => rfl, fun h => absurd h (by decide), fun _ => rfl, fun h => absurd h (by decide), fun h => absurd h (by decide), fun h => absurd h (by decide)⟩, fun h => absurd h (by decide), fun h => absurd h (by decide), fun h => absurd h (by decide), fun h => absurd h (by decide)⟩
set_option maxRecDepth 20000 in
theorem xf12_185 : xff (12, 185, 12, 13, 0) := ⟨fun _ => ⟨xin 1062 rfl rfl, by decide, by decide, fun _ => rfl, fun h => absurd h (by decide), fun _ => rfl, fun h => absurd h (by decide), fun h => absurd h (by decide), fun h => absurd h (by decide)⟩, fun h => absurd h (by decide), fun h => absurd h (by decide), fun h => absurd h (by decide), fun h => absurd h (by decide)⟩
set_option maxRecDepth 20000 in
theorem xf12_188 : xff (12, 188, 12, 14, 0) := ⟨fun _ => ⟨xin 1063 rfl rfl, by decide, by decide, fun _ => rfl, fun h => absurd h (by decide), fun _ => rfl, fun h => absurd h (by decide), fun h => absurd h (by decide), fun h => absurd h (by decide)⟩, fun h => absurd h (by decide), fun h => absurd h (by decide), fun h => absurd h (by decide), fun h => absurd h (by decide)⟩
set_option maxRecDepth 20000 in
theorem xf12_191 : xff (12, 191, 12, 15, 0) := ⟨fun _ => ⟨xin 1064 rfl rfl, by decide, by decide, fun _ => rfl, fun h => absurd h (by decide), fun _ => rfl, fun h => absurd h (by decide), fun h => absurd h (by decide), fun h => absurd h (by decide)⟩, fun h => absurd h (by decide), fun h => absurd h (by decide), fun h => absurd h (by decide), fun h => absurd h (by decide)⟩
set_option maxRecDepth 20000 in
theorem xf12_206 : xff (12, 206, 12, 20, 0) := ⟨fun _ => ⟨xin 1069 rfl rfl, by decide, by decide, fun _ => rfl, fun h => absurd h (by decide), fun _ => rfl, fun h => absurd h (by decide), fun h => absurd h (by decide), fun h => absurd h (by decide)⟩, fun h => absurd h (by decide), fun h => absurd h (by decide), fun h => absurd h (by decide), fun h => absurd h (by decide)⟩
set_option maxRecDepth 20000 in
theorem xf12_218 : xff (12, 218, 12, 17, 0) := ⟨fun _ => ⟨xin 1066 rfl rfl, by decide, by decide, fun _ => rfl, fun h => absurd h (by decide), fun _ => rfl, fun h => absurd h (by decide), fun h => absurd h (by decide), fun h => absurd h (by decide)⟩, fun h => absurd h (by decide), fun h => absurd h (by decide), fun h => absurd h (by decide), fun h => absurd h (by decide)⟩
set_option maxRecDepth 20000 in
theorem xf12_225 : xff (12, 225, 12, 25, 0) := ⟨fun _ => ⟨xin 1074 rfl rfl, by decide, by decide, fun _ => rfl, fun h => absurd h (by decide), fun _ => rfl, fun h => absurd h (by decide), fun h => absurd h (by decide), fun h => absurd h (by decide)⟩, fun h => absurd h (by decide), fun h => absurd h (by decide), fun h => absurd h (by decide), fun h => absurd h (by decide)⟩
set_option maxRecDepth 20000 in
theorem xf12_257 : xff (12, 257, 12, 24, 0) := ⟨fun _ => ⟨xin 1073 rfl rfl, by decide, by decide, fun _ => rfl, fun h => absurd h (by decide), fun _ => rfl, fun h => absurd h (by decide), fun h => absurd h (by decide), fun h => absurd h (by decide)⟩, fun h => absurd h (by decide), fun h => absurd h (by decide), fun h => absurd h (by decide), fun h => absurd h (by decide)⟩
set_option maxRecDepth 20000 in
theorem xf12_283 : xff (12, 283, 12, 31, 0) := ⟨fun _ => ⟨xin 1080 rfl rfl, by decide, by decide, fun _ => rfl, fun h => absurd h (by decide), fun _ => rfl, fun h => absurd h (by decide), fun h => absurd h (by decide), fun h => absurd h (by decide)⟩, fun h => absurd h (by decide), fun h => absurd h (by decide), fun h => absurd h (by decide), fun h => absurd h (by decide)⟩
set_option maxRecDepth 20000 in
theorem xf12_289 : xff (12, 289, 12, 32, 0) := ⟨fun _ => ⟨xin 1081 rfl rfl, by decide, by decide, fun _ => rfl, fun h => absurd h (by decide), fun _ => rfl, fun h => absurd h (by decide), fun h => absurd h (by decide), fun h => absurd h (by decide)⟩, fun h => absurd h (by decide), fun h => absurd h (by decide), fun h => absurd h (by decide), fun h => absurd h (by decide)⟩
set_option maxRecDepth 20000 in
theorem xf12_292 : xff (12, 292, 12, 33, 0) := ⟨fun _ => ⟨xin 1082 rfl rfl, by decide, by decide, fun _ => rfl, fun h => absurd h (by decide), fun _ => rfl, fun h => absurd h (by decide), fun h => absurd h (by decide), fun h => absurd h (by decide)⟩, fun h => absurd h (by decide), fun h => absurd h (by decide), fun h => absurd h (by decide), fun h => absurd h (by decide)⟩
set_option maxRecDepth 20000 in
theorem xf12_310 : xff (12, 310, 12, 39, 0) := ⟨fun _ => ⟨xin 1088 rfl rfl, by decide, by decide, fun _ => rfl, fun h => absurd h (by decide), fun _ => rfl, fun h => absurd h (by decide), fun h => absurd h (by decide), fun h => absurd h (by decide)⟩, fun h => absurd h (by decide), fun h => absurd h (by decide), fun h => absurd h (by decide), fun h => absurd h (by decide)⟩
set_option maxRecDepth 20000 in
theorem xf15_9 : xff (15, 9, 0, 0, 10) := ⟨fun h => absurd h (by decide), fun _ => xin 1608 rfl rfl, fun h => absurd h (by decide), fun h => absurd h (by decide), fun h => absurd h (by decide)⟩
set_option maxRecDepth 20000 in
theorem xf15_15 : xff (15, 15, 0, 0, 11) := ⟨fun h => absurd h (by decide), fun h => absurd h (by decide), fun _ => xin 1609 rfl rfl, fun h => absurd h (by decide), fun h => absurd h (by decide)⟩
set_option maxRecDepth 20000 in
theorem xf15_38 : xff (15, 38, 0, 0, 12) := ⟨fun h => absurd h (by decide), fun h => absurd h (by decide), fun h => absurd h (by decide), fun _ => xin 443 rfl rfl, fun h => absurd h (by decide)⟩
set_option maxRecDepth 20000 in
theorem xf15_1053 : xff (15, 1053, 0, 0, 13) := ⟨fun h => absurd h (by decide), fun h => absurd h (by decide), fun h => absurd h (by decide), fun h => absurd h (by decide), fun _ => xin 459 rfl rfl⟩
set_option maxRecDepth 20000 in
theorem xff_all : ∀ e ∈ xflL, xff e := List.forall_mem_cons.mpr ⟨xf0_12, List.forall_mem_cons.mpr ⟨xf0_18, List.forall_mem_cons.mpr ⟨xf0_22, List.forall_mem_cons.mpr ⟨xf0_25, List.forall_mem_cons.mpr ⟨xf0_28, List.forall_mem_cons.mpr ⟨xf0_48, List.forall_mem_cons.mpr ⟨xf0_51, List.forall_mem_cons.mpr ⟨xf1_12, List.forall_mem_cons.mpr ⟨xf1_18, List.forall_mem_cons.mpr ⟨xf1_22, List.forall_mem_cons.mpr ⟨xf1_25, List.forall_mem_cons.mpr ⟨xf1_29, List.forall_mem_cons.mpr ⟨xf1_44, List.forall_mem_cons.mpr ⟨xf1_47, List.forall_mem_cons.mpr ⟨xf1_58, List.forall_mem_cons.mpr ⟨xf2_9, List.forall_mem_cons.mpr ⟨xf2_21, List.forall_mem_cons.mpr ⟨xf3_9, List.forall_mem_cons.mpr ⟨xf3_15, List.forall_mem_cons.mpr ⟨xf3_43, List.forall_mem_cons.mpr ⟨xf4_11, List.forall_mem_cons.mpr ⟨xf4_16, List.forall_mem_cons.mpr ⟨xf4_24, List.forall_mem_cons.mpr ⟨xf5_9, List.forall_mem_cons.mpr ⟨xf5_15, List.forall_mem_cons.mpr ⟨xf5_18, List.forall_mem_cons.mpr ⟨xf5_21, List.forall_mem_cons.mpr ⟨xf5_24, List.forall_mem_cons.mpr ⟨xf5_27, List.forall_mem_cons.mpr ⟨xf5_36, List.forall_mem_cons.mpr ⟨xf5_40, List.forall_mem_cons.mpr ⟨xf6_9, List.forall_mem_cons.mpr ⟨xf6_15, List.forall_mem_cons.mpr ⟨xf6_22, List.forall_mem_cons.mpr ⟨xf7_11, List.forall_mem_cons.mpr ⟨xf7_15, List.forall_mem_cons.mpr ⟨xf7_22, List.forall_mem_cons.mpr ⟨xf7_26, List.forall_mem_cons.mpr ⟨xf7_30, List.forall_mem_cons.mpr ⟨xf7_33, List.forall_mem_cons.mpr ⟨xf7_37, List.forall_mem_cons.mpr ⟨xf7_40, List.forall_mem_cons.mpr ⟨xf7_43, List.forall_mem_cons.mpr ⟨xf7_46, List.forall_mem_cons.mpr ⟨xf7_55, List.forall_mem_cons.mpr ⟨xf7_62, List.forall_mem_cons.mpr ⟨xf7_131, List.forall_mem_cons.mpr ⟨xf7_144, List.forall_mem_cons.mpr ⟨xf7_147, List.forall_mem_cons.mpr ⟨xf7_149, List.forall_mem_cons.mpr ⟨xf8_9, List.forall_mem_cons.mpr ⟨xf8_15, List.forall_mem_cons.mpr ⟨xf8_27, List.forall_mem_cons.mpr ⟨xf10_9, List.forall_mem_cons.mpr ⟨xf10_15, List.forall_mem_cons.mpr ⟨xf10_18, List.forall_mem_cons.mpr ⟨xf10_21, List.forall_mem_cons.mpr ⟨xf10_36, List.forall_mem_cons.mpr ⟨xf11_10, List.forall_mem_cons.mpr ⟨xf11_19, List.forall_mem_cons.mpr ⟨xf11_23, List.forall_mem_cons.mpr ⟨xf11_29, List.forall_mem_cons.mpr ⟨xf11_33, List.forall_mem_cons.mpr ⟨xf11_40, List.forall_mem_cons.mpr ⟨xf11_44, List.forall_mem_cons.mpr ⟨xf11_50, List.forall_mem_cons.mpr ⟨xf11_54, List.forall_mem_cons.mpr ⟨xf11_60, List.forall_mem_cons.mpr ⟨xf11_67, List.forall_mem_cons.mpr ⟨xf11_74, List.forall_mem_cons.mpr ⟨xf11_81, List.forall_mem_cons.mpr ⟨xf11_93, List.forall_mem_cons.mpr ⟨xf11_100, List.forall_mem_cons.mpr ⟨xf11_103, List.forall_mem_cons.mpr ⟨xf11_110, List.forall_mem_cons.mpr ⟨xf11_117, List.forall_mem_cons.mpr ⟨xf11_120, List.forall_mem_cons.mpr ⟨xf11_160, List.forall_mem_cons.mpr ⟨xf11_189, List.forall_mem_cons.mpr ⟨xf11_322, List.forall_mem_cons.mpr ⟨xf11_334, List.forall_mem_cons.mpr ⟨xf12_13, List.forall_mem_cons.mpr ⟨xf12_17, List.forall_mem_cons.mpr ⟨xf12_20, List.forall_mem_cons.mpr ⟨xf12_24, List.forall_mem_cons.mpr ⟨xf12_27, List.forall_mem_cons.mpr ⟨xf12_30, List.forall_mem_cons.mpr ⟨xf12_34, List.forall_mem_cons.mpr ⟨xf12_37, List.forall_mem_cons.mpr ⟨xf12_40, List.forall_mem_cons.mpr ⟨xf12_43, List.forall_mem_cons.mpr ⟨xf12_46, List.forall_mem_cons.mpr ⟨xf12_49, List.forall_mem_cons.mpr ⟨xf12_52, List.forall_mem_cons.mpr ⟨xf12_55, List.forall_mem_cons.mpr ⟨xf12_58, List.forall_mem_cons.mpr ⟨xf12_62, List.forall_mem_cons.mpr ⟨xf12_65, List.forall_mem_cons.mpr ⟨xf12_68, List.forall_mem_cons.mpr ⟨xf12_71, List.forall_mem_cons.mpr ⟨xf12_74, List.forall_mem_cons.mpr ⟨xf12_77, List.forall_mem_cons.mpr ⟨xf12_80, List.forall_mem_cons.mpr ⟨xf12_83, List.forall_mem_cons.mpr ⟨xf12_86, List.forall_mem_cons.mpr ⟨xf12_89, List.forall_mem_cons.mpr ⟨xf12_92, List.forall_mem_cons.mpr ⟨xf12_95, List.forall_mem_cons.mpr ⟨xf12_98, List.forall_mem_cons.mpr ⟨xf12_101, List.forall_mem_cons.mpr ⟨xf12_104, List.forall_mem_cons.mpr ⟨xf12_107, List.forall_mem_cons.mpr ⟨xf12_110, List.forall_mem_cons.mpr ⟨xf12_113, List.forall_mem_cons.mpr ⟨xf12_116, List.forall_mem_cons.mpr ⟨xf12_119, List.forall_mem_cons.mpr ⟨xf12_122, List.forall_mem_cons.mpr ⟨xf12_125, List.forall_mem_cons.mpr ⟨xf12_128, List.forall_mem_cons.mpr ⟨xf12_131, List.forall_mem_cons.mpr ⟨xf12_134, List.forall_mem_cons.mpr ⟨xf12_141, List.forall_mem_cons.mpr ⟨xf12_148, List.forall_mem_cons.mpr ⟨xf12_157, List.forall_mem_cons.mpr ⟨xf12_179, List.forall_mem_cons.mpr ⟨xf12_182, List.forall_mem_cons.mpr ⟨xf12_185, List.forall_mem_cons.mpr ⟨xf12_188, List.forall_mem_cons.mpr ⟨xf12_191, List.forall_mem_cons.mpr ⟨xf12_206, List.forall_mem_cons.mpr ⟨xf12_218, List.forall_mem_cons.mpr ⟨xf12_225, List.forall_mem_cons.mpr ⟨xf12_257, List.forall_mem_cons.mpr ⟨xf12_283, List.forall_mem_cons.mpr ⟨xf12_289, List.forall_mem_cons.mpr ⟨xf12_292, List.forall_mem_cons.mpr ⟨xf12_310, List.forall_mem_cons.mpr ⟨xf15_9, List.forall_mem_cons.mpr ⟨xf15_15, List.forall_mem_cons.mpr ⟨xf15_38, List.forall_mem_cons.mpr ⟨xf15_1053, fun _ h => absurd h List.not_mem_nil⟩⟩⟩⟩⟩⟩⟩⟩⟩⟩⟩⟩⟩⟩⟩⟩⟩⟩⟩⟩⟩⟩⟩⟩⟩⟩⟩⟩⟩⟩⟩⟩⟩⟩⟩⟩⟩⟩⟩⟩⟩⟩⟩⟩⟩⟩⟩⟩⟩⟩⟩⟩⟩⟩⟩⟩⟩⟩⟩⟩⟩⟩⟩⟩⟩⟩⟩⟩⟩⟩⟩⟩⟩⟩⟩⟩⟩⟩⟩⟩⟩⟩⟩⟩⟩⟩⟩⟩⟩⟩⟩⟩⟩⟩⟩⟩⟩⟩⟩⟩⟩⟩⟩⟩⟩⟩⟩⟩⟩⟩⟩⟩⟩⟩⟩⟩⟩⟩⟩⟩⟩⟩⟩⟩⟩⟩⟩⟩⟩⟩⟩⟩⟩⟩⟩⟩⟩⟩⟩⟩⟩
def xcf (e : Nat × Nat × Nat × Nat) : Prop := match e with
  | (o, q, j, n) => j < 266 ∧ (n = 0 → Cond.methodLink (xcn o) q (xy j) ∈ xALL) ∧ (n = 1 → ∃ h, (o, q, j, h) ∈ xNL ∧ ¬ xki j = 1) ∧ n < 2
set_option maxRecDepth 20000 in
theorem xc0_11 : xcf (0, 11, 64, 1) := ⟨by decide, fun h => absurd h (by decide), fun _ => ⟨"ArrowOrders", by decide +kernel, by decide⟩, by decide⟩
set_option maxRecDepth 20000 in
theorem xc0_32 : xcf (0, 32, 148, 1) := ⟨by decide, fun h => absurd h (by decide), fun _ => ⟨"ArrowOrders", by decide +kernel, by decide⟩, by decide⟩
set_option maxRecDepth 20000 in
theorem xc0_36 : xcf (0, 36, 146, 1) := ⟨by decide, fun h => absurd h (by decide), fun _ => ⟨"ArrowOrders", by decide +kernel, by decide⟩, by decide⟩
set_option maxRecDepth 20000 in
theorem xc0_40 : xcf (0, 40, 2, 0) := ⟨by decide, fun _ => xin 706 rfl rfl, fun h => absurd h (by decide), by decide⟩
set_option maxRecDepth 20000 in
theorem xc0_44 : xcf (0, 44, 66, 0) := ⟨by decide, fun _ => xin 710 rfl rfl, fun h => absurd h (by decide), by decide⟩
set_option maxRecDepth 20000 in
theorem xc1_11 : xcf (1, 11, 64, 1) := ⟨by decide, fun h => absurd h (by decide), fun _ => ⟨"ArrowOrders", by decide +kernel, by decide⟩, by decide⟩
set_option maxRecDepth 20000 in
theorem xc1_32 : xcf (1, 32, 148, 1) := ⟨by decide, fun h => absurd h (by decide), fun _ => ⟨"ArrowOrders", by decide +kernel, by decide⟩, by decide⟩
set_option maxRecDepth 20000 in
theorem xc1_36 : xcf (1, 36, 8, 0) := ⟨by decide, fun _ => xin 673 rfl rfl, fun h => absurd h (by decide), by decide⟩
set_option maxRecDepth 20000 in
theorem xc1_40 : xcf (1, 40, 66, 0) := ⟨by decide, fun _ => xin 677 rfl rfl, fun h => absurd h (by decide), by decide⟩
set_option maxRecDepth 20000 in
theorem xc1_50 : xcf (1, 50, 13, 0) := ⟨by decide, fun _ => xin 691 rfl rfl, fun h => absurd h (by decide), by decide⟩
set_option maxRecDepth 20000 in
theorem xc1_54 : xcf (1, 54, 146, 1) := ⟨by decide, fun h => absurd h (by decide), fun _ => ⟨"ArrowOrders", by decide +kernel, by decide⟩, by decide⟩
set_option maxRecDepth 20000 in
theorem xc1_61 : xcf (1, 61, 15, 0) := ⟨by decide, fun _ => xin 789 rfl rfl, fun h => absurd h (by decide), by decide⟩
set_option maxRecDepth 20000 in
theorem xc1_64 : xcf (1, 64, 17, 0) := ⟨by decide, fun _ => xin 790 rfl rfl, fun h => absurd h (by decide), by decide⟩
set_option maxRecDepth 20000 in
theorem xc1_67 : xcf (1, 67, 65, 0) := ⟨by decide, fun _ => xin 794 rfl rfl, fun h => absurd h (by decide), by decide⟩
set_option maxRecDepth 20000 in
theorem xc2_15 : xcf (2, 15, 28, 0) := ⟨by decide, fun _ => xin 811 rfl rfl, fun h => absurd h (by decide), by decide⟩
set_option maxRecDepth 20000 in
theorem xc2_25 : xcf (2, 25, 99, 0) := ⟨by decide, fun _ => xin 812 rfl rfl, fun h => absurd h (by decide), by decide⟩
set_option maxRecDepth 20000 in
theorem xc2_31 : xcf (2, 31, 20, 0) := ⟨by decide, fun _ => xin 815 rfl rfl, fun h => absurd h (by decide), by decide⟩
set_option maxRecDepth 20000 in
theorem xc2_35 : xcf (2, 35, 21, 0) := ⟨by decide, fun _ => xin 819 rfl rfl, fun h => absurd h (by decide), by decide⟩
set_option maxRecDepth 20000 in
theorem xc2_39 : xcf (2, 39, 101, 0) := ⟨by decide, fun _ => xin 822 rfl rfl, fun h => absurd h (by decide), by decide⟩
set_option maxRecDepth 20000 in
theorem xc2_43 : xcf (2, 43, 256, 0) := ⟨by decide, fun _ => xin 829 rfl rfl, fun h => absurd h (by decide), by decide⟩
set_option maxRecDepth 20000 in
theorem xc2_49 : xcf (2, 49, 22, 0) := ⟨by decide, fun _ => xin 830 rfl rfl, fun h => absurd h (by decide), by decide⟩
set_option maxRecDepth 20000 in
theorem xc3_19 : xcf (3, 19, 24, 0) := ⟨by decide, fun _ => xin 546 rfl rfl, fun h => absurd h (by decide), by decide⟩
set_option maxRecDepth 20000 in
theorem xc3_23 : xcf (3, 23, 25, 0) := ⟨by decide, fun _ => xin 542 rfl rfl, fun h => absurd h (by decide), by decide⟩
set_option maxRecDepth 20000 in
theorem xc3_27 : xcf (3, 27, 147, 1) := ⟨by decide, fun h => absurd h (by decide), fun _ => ⟨"ArrowOrders", by decide +kernel, by decide⟩, by decide⟩
set_option maxRecDepth 20000 in
theorem xc3_30 : xcf (3, 30, 256, 0) := ⟨by decide, fun _ => xin 600 rfl rfl, fun h => absurd h (by decide), by decide⟩
set_option maxRecDepth 20000 in
theorem xc3_36 : xcf (3, 36, 146, 1) := ⟨by decide, fun h => absurd h (by decide), fun _ => ⟨"ArrowOrders", by decide +kernel, by decide⟩, by decide⟩
set_option maxRecDepth 20000 in
theorem xc3_39 : xcf (3, 39, 148, 1) := ⟨by decide, fun h => absurd h (by decide), fun _ => ⟨"ArrowOrders", by decide +kernel, by decide⟩, by decide⟩
set_option maxRecDepth 20000 in
theorem xc3_47 : xcf (3, 47, 28, 0) := ⟨by decide, fun _ => xin 592 rfl rfl, fun h => absurd h (by decide), by decide⟩
set_option maxRecDepth 20000 in
theorem xc3_51 : xcf (3, 51, 26, 0) := ⟨by decide, fun _ => xin 614 rfl rfl, fun h => absurd h (by decide), by decide⟩
set_option maxRecDepth 20000 in
theorem xc3_54 : xcf (3, 54, 34, 0) := ⟨by decide, fun _ => xin 619 rfl rfl, fun h => absurd h (by decide), by decide⟩
set_option maxRecDepth 20000 in
theorem xc4_15 : xcf (4, 15, 23, 1) := ⟨by decide, fun h => absurd h (by decide), fun _ => ⟨"ArrowOrders", by decide +kernel, by decide⟩, by decide⟩
set_option maxRecDepth 20000 in
theorem xc4_20 : xcf (4, 20, 32, 0) := ⟨by decide, fun _ => xin 576 rfl rfl, fun h => absurd h (by decide), by decide⟩
set_option maxRecDepth 20000 in
theorem xc4_27 : xcf (4, 27, 258, 0) := ⟨by decide, fun _ => xin 577 rfl rfl, fun h => absurd h (by decide), by decide⟩
set_option maxRecDepth 20000 in
theorem xc5_30 : xcf (5, 30, 258, 0) := ⟨by decide, fun _ => xin 715 rfl rfl, fun h => absurd h (by decide), by decide⟩
set_option maxRecDepth 20000 in
theorem xc5_43 : xcf (5, 43, 148, 1) := ⟨by decide, fun h => absurd h (by decide), fun _ => ⟨"ArrowOrders", by decide +kernel, by decide⟩, by decide⟩
set_option maxRecDepth 20000 in
theorem xc5_47 : xcf (5, 47, 44, 0) := ⟨by decide, fun _ => xin 717 rfl rfl, fun h => absurd h (by decide), by decide⟩
set_option maxRecDepth 20000 in
theorem xc5_50 : xcf (5, 50, 45, 0) := ⟨by decide, fun _ => xin 724 rfl rfl, fun h => absurd h (by decide), by decide⟩
set_option maxRecDepth 20000 in
theorem xc5_53 : xcf (5, 53, 257, 0) := ⟨by decide, fun _ => xin 721 rfl rfl, fun h => absurd h (by decide), by decide⟩
set_option maxRecDepth 20000 in
theorem xc5_56 : xcf (5, 56, 46, 0) := ⟨by decide, fun _ => xin 728 rfl rfl, fun h => absurd h (by decide), by decide⟩
set_option maxRecDepth 20000 in
theorem xc5_60 : xcf (5, 60, 147, 1) := ⟨by decide, fun h => absurd h (by decide), fun _ => ⟨"ArrowOrders", by decide +kernel, by decide⟩, by decide⟩
set_option maxRecDepth 20000 in
theorem xc5_63 : xcf (5, 63, 51, 0) := ⟨by decide, fun _ => xin 895 rfl rfl, fun h => absurd h (by decide), by decide⟩
set_option maxRecDepth 20000 in
theorem xc5_67 : xcf (5, 67, 256, 0) := ⟨by decide, fun _ => xin 896 rfl rfl, fun h => absurd h (by decide), by decide⟩
set_option maxRecDepth 20000 in
theorem xc5_72 : xcf (5, 72, 55, 0) := ⟨by decide, fun _ => xin 875 rfl rfl, fun h => absurd h (by decide), by decide⟩
set_option maxRecDepth 20000 in
theorem xc5_75 : xcf (5, 75, 58, 0) := ⟨by decide, fun _ => xin 924 rfl rfl, fun h => absurd h (by decide), by decide⟩
set_option maxRecDepth 20000 in
theorem xc5_79 : xcf (5, 79, 47, 0) := ⟨by decide, fun _ => xin 939 rfl rfl, fun h => absurd h (by decide), by decide⟩
set_option maxRecDepth 20000 in
theorem xc5_82 : xcf (5, 82, 60, 0) := ⟨by decide, fun _ => xin 963 rfl rfl, fun h => absurd h (by decide), by decide⟩
set_option maxRecDepth 20000 in
theorem xc5_85 : xcf (5, 85, 62, 0) := ⟨by decide, fun _ => xin 932 rfl rfl, fun h => absurd h (by decide), by decide⟩
set_option maxRecDepth 20000 in
theorem xc5_88 : xcf (5, 88, 63, 0) := ⟨by decide, fun _ => xin 935 rfl rfl, fun h => absurd h (by decide), by decide⟩
set_option maxRecDepth 20000 in
theorem xc5_92 : xcf (5, 92, 144, 1) := ⟨by decide, fun h => absurd h (by decide), fun _ => ⟨"ArrowOrders", by decide +kernel, by decide⟩, by decide⟩
set_option maxRecDepth 20000 in
theorem xc6_18 : xcf (6, 18, 147, 1) := ⟨by decide, fun h => absurd h (by decide), fun _ => ⟨"ArrowOrders", by decide +kernel, by decide⟩, by decide⟩
set_option maxRecDepth 20000 in
theorem xc6_26 : xcf (6, 26, 68, 0) := ⟨by decide, fun _ => xin 681 rfl rfl, fun h => absurd h (by decide), by decide⟩
set_option maxRecDepth 20000 in
theorem xc6_30 : xcf (6, 30, 67, 0) := ⟨by decide, fun _ => xin 685 rfl rfl, fun h => absurd h (by decide), by decide⟩
set_option maxRecDepth 20000 in
theorem xc6_34 : xcf (6, 34, 145, 1) := ⟨by decide, fun h => absurd h (by decide), fun _ => ⟨"ArrowOrders", by decide +kernel, by decide⟩, by decide⟩
set_option maxRecDepth 20000 in
theorem xc7_21 : xcf (7, 21, 23, 1) := ⟨by decide, fun h => absurd h (by decide), fun _ => ⟨"ArrowOrders", by decide +kernel, by decide⟩, by decide⟩
set_option maxRecDepth 20000 in
theorem xc7_49 : xcf (7, 49, 74, 0) := ⟨by decide, fun _ => xin 402 rfl rfl, fun h => absurd h (by decide), by decide⟩
set_option maxRecDepth 20000 in
theorem xc7_52 : xcf (7, 52, 31, 0) := ⟨by decide, fun _ => xin 511 rfl rfl, fun h => absurd h (by decide), by decide⟩
set_option maxRecDepth 20000 in
theorem xc7_58 : xcf (7, 58, 87, 0) := ⟨by decide, fun _ => xin 515 rfl rfl, fun h => absurd h (by decide), by decide⟩
set_option maxRecDepth 20000 in
theorem xc7_65 : xcf (7, 65, 77, 0) := ⟨by decide, fun _ => xin 406 rfl rfl, fun h => absurd h (by decide), by decide⟩
set_option maxRecDepth 20000 in
theorem xc7_68 : xcf (7, 68, 78, 0) := ⟨by decide, fun _ => xin 418 rfl rfl, fun h => absurd h (by decide), by decide⟩
set_option maxRecDepth 20000 in
theorem xc7_72 : xcf (7, 72, 76, 0) := ⟨by decide, fun _ => xin 490 rfl rfl, fun h => absurd h (by decide), by decide⟩
set_option maxRecDepth 20000 in
theorem xc7_76 : xcf (7, 76, 73, 0) := ⟨by decide, fun _ => xin 493 rfl rfl, fun h => absurd h (by decide), by decide⟩
set_option maxRecDepth 20000 in
theorem xc7_80 : xcf (7, 80, 75, 0) := ⟨by decide, fun _ => xin 497 rfl rfl, fun h => absurd h (by decide), by decide⟩
set_option maxRecDepth 20000 in
theorem xc7_83 : xcf (7, 83, 85, 0) := ⟨by decide, fun _ => xin 501 rfl rfl, fun h => absurd h (by decide), by decide⟩
set_option maxRecDepth 20000 in
theorem xc7_87 : xcf (7, 87, 86, 0) := ⟨by decide, fun _ => xin 505 rfl rfl, fun h => absurd h (by decide), by decide⟩
set_option maxRecDepth 20000 in
theorem xc7_90 : xcf (7, 90, 82, 0) := ⟨by decide, fun _ => xin 410 rfl rfl, fun h => absurd h (by decide), by decide⟩
set_option maxRecDepth 20000 in
theorem xc7_94 : xcf (7, 94, 83, 0) := ⟨by decide, fun _ => xin 422 rfl rfl, fun h => absurd h (by decide), by decide⟩
set_option maxRecDepth 20000 in
theorem xc7_97 : xcf (7, 97, 79, 0) := ⟨by decide, fun _ => xin 426 rfl rfl, fun h => absurd h (by decide), by decide⟩
set_option maxRecDepth 20000 in
theorem xc7_100 : xcf (7, 100, 84, 0) := ⟨by decide, fun _ => xin 486 rfl rfl, fun h => absurd h (by decide), by decide⟩
set_option maxRecDepth 20000 in
theorem xc7_103 : xcf (7, 103, 81, 0) := ⟨by decide, fun _ => xin 414 rfl rfl, fun h => absurd h (by decide), by decide⟩
set_option maxRecDepth 20000 in
theorem xc7_109 : xcf (7, 109, 80, 0) := ⟨by decide, fun _ => xin 431 rfl rfl, fun h => absurd h (by decide), by decide⟩
set_option maxRecDepth 20000 in
theorem xc7_119 : xcf (7, 119, 259, 0) := ⟨by decide, fun _ => xin 435 rfl rfl, fun h => absurd h (by decide), by decide⟩
set_option maxRecDepth 20000 in
theorem xc7_123 : xcf (7, 123, 260, 0) := ⟨by decide, fun _ => xin 445 rfl rfl, fun h => absurd h (by decide), by decide⟩
set_option maxRecDepth 20000 in
theorem xc7_134 : xcf (7, 134, 89, 0) := ⟨by decide, fun _ => xin 519 rfl rfl, fun h => absurd h (by decide), by decide⟩
set_option maxRecDepth 20000 in
theorem xc7_138 : xcf (7, 138, 90, 0) := ⟨by decide, fun _ => xin 531 rfl rfl, fun h => absurd h (by decide), by decide⟩
set_option maxRecDepth 20000 in
theorem xc7_141 : xcf (7, 141, 91, 0) := ⟨by decide, fun _ => xin 547 rfl rfl, fun h => absurd h (by decide), by decide⟩
set_option maxRecDepth 20000 in
theorem xc7_152 : xcf (7, 152, 24, 0) := ⟨by decide, fun _ => xin 527 rfl rfl, fun h => absurd h (by decide), by decide⟩
set_option maxRecDepth 20000 in
theorem xc7_155 : xcf (7, 155, 88, 0) := ⟨by decide, fun _ => xin 523 rfl rfl, fun h => absurd h (by decide), by decide⟩
set_option maxRecDepth 20000 in
theorem xc7_159 : xcf (7, 159, 147, 1) := ⟨by decide, fun h => absurd h (by decide), fun _ => ⟨"ArrowOrders", by decide +kernel, by decide⟩, by decide⟩
set_option maxRecDepth 20000 in
theorem xc7_163 : xcf (7, 163, 33, 0) := ⟨by decide, fun _ => xin 538 rfl rfl, fun h => absurd h (by decide), by decide⟩
set_option maxRecDepth 20000 in
theorem xc8_21 : xcf (8, 21, 258, 0) := ⟨by decide, fun _ => xin 1000 rfl rfl, fun h => absurd h (by decide), by decide⟩
set_option maxRecDepth 20000 in
theorem xc8_30 : xcf (8, 30, 96, 0) := ⟨by decide, fun _ => xin 1001 rfl rfl, fun h => absurd h (by decide), by decide⟩
set_option maxRecDepth 20000 in
theorem xc8_34 : xcf (8, 34, 94, 0) := ⟨by decide, fun _ => xin 1008 rfl rfl, fun h => absurd h (by decide), by decide⟩
set_option maxRecDepth 20000 in
theorem xc8_38 : xcf (8, 38, 95, 0) := ⟨by decide, fun _ => xin 1005 rfl rfl, fun h => absurd h (by decide), by decide⟩
set_option maxRecDepth 20000 in
theorem xc8_42 : xcf (8, 42, 144, 1) := ⟨by decide, fun h => absurd h (by decide), fun _ => ⟨"ArrowOrders", by decide +kernel, by decide⟩, by decide⟩
set_option maxRecDepth 20000 in
theorem xc8_46 : xcf (8, 46, 147, 1) := ⟨by decide, fun h => absurd h (by decide), fun _ => ⟨"ArrowOrders", by decide +kernel, by decide⟩, by decide⟩
set_option maxRecDepth 20000 in
theorem xc9_9 : xcf (9, 9, 147, 1) := ⟨by decide, fun h => absurd h (by decide), fun _ => ⟨"ArrowOrders", by decide +kernel, by decide⟩, by decide⟩
set_option maxRecDepth 20000 in
theorem xc9_13 : xcf (9, 13, 97, 0) := ⟨by decide, fun _ => xin 828 rfl rfl, fun h => absurd h (by decide), by decide⟩
set_option maxRecDepth 20000 in
theorem xc9_19 : xcf (9, 19, 256, 0) := ⟨by decide, fun _ => xin 900 rfl rfl, fun h => absurd h (by decide), by decide⟩
set_option maxRecDepth 20000 in
theorem xc9_25 : xcf (9, 25, 101, 0) := ⟨by decide, fun _ => xin 987 rfl rfl, fun h => absurd h (by decide), by decide⟩
set_option maxRecDepth 20000 in
theorem xc9_28 : xcf (9, 28, 102, 0) := ⟨by decide, fun _ => xin 825 rfl rfl, fun h => absurd h (by decide), by decide⟩
set_option maxRecDepth 20000 in
theorem xc9_32 : xcf (9, 32, 98, 0) := ⟨by decide, fun _ => xin 901 rfl rfl, fun h => absurd h (by decide), by decide⟩
set_option maxRecDepth 20000 in
theorem xc9_36 : xcf (9, 36, 144, 1) := ⟨by decide, fun h => absurd h (by decide), fun _ => ⟨"ArrowOrders", by decide +kernel, by decide⟩, by decide⟩
set_option maxRecDepth 20000 in
theorem xc9_40 : xcf (9, 40, 99, 0) := ⟨by decide, fun _ => xin 1028 rfl rfl, fun h => absurd h (by decide), by decide⟩
set_option maxRecDepth 20000 in
theorem xc9_44 : xcf (9, 44, 100, 0) := ⟨by decide, fun _ => xin 1033 rfl rfl, fun h => absurd h (by decide), by decide⟩
set_option maxRecDepth 20000 in
theorem xc10_27 : xcf (10, 27, 258, 0) := ⟨by decide, fun _ => xin 908 rfl rfl, fun h => absurd h (by decide), by decide⟩
set_option maxRecDepth 20000 in
theorem xc10_33 : xcf (10, 33, 110, 0) := ⟨by decide, fun _ => xin 909 rfl rfl, fun h => absurd h (by decide), by decide⟩
set_option maxRecDepth 20000 in
theorem xc10_39 : xcf (10, 39, 111, 0) := ⟨by decide, fun _ => xin 913 rfl rfl, fun h => absurd h (by decide), by decide⟩
set_option maxRecDepth 20000 in
theorem xc10_43 : xcf (10, 43, 113, 0) := ⟨by decide, fun _ => xin 975 rfl rfl, fun h => absurd h (by decide), by decide⟩
set_option maxRecDepth 20000 in
theorem xc11_9 : xcf (11, 9, 69, 1) := ⟨by decide, fun h => absurd h (by decide), fun _ => ⟨"ArrowOrders", by decide +kernel, by decide⟩, by decide⟩
set_option maxRecDepth 20000 in
theorem xc11_18 : xcf (11, 18, 23, 1) := ⟨by decide, fun h => absurd h (by decide), fun _ => ⟨"ArrowOrders", by decide +kernel, by decide⟩, by decide⟩
set_option maxRecDepth 20000 in
theorem xc11_28 : xcf (11, 28, 38, 0) := ⟨by decide, fun _ => xin 181 rfl rfl, fun h => absurd h (by decide), by decide⟩
set_option maxRecDepth 20000 in
theorem xc11_39 : xcf (11, 39, 6, 1) := ⟨by decide, fun h => absurd h (by decide), fun _ => ⟨"ArrowOrders", by decide +kernel, by decide⟩, by decide⟩
set_option maxRecDepth 20000 in
theorem xc11_49 : xcf (11, 49, 0, 1) := ⟨by decide, fun h => absurd h (by decide), fun _ => ⟨"ArrowOrders", by decide +kernel, by decide⟩, by decide⟩
set_option maxRecDepth 20000 in
theorem xc11_59 : xcf (11, 59, 42, 1) := ⟨by decide, fun h => absurd h (by decide), fun _ => ⟨"ArrowOrders", by decide +kernel, by decide⟩, by decide⟩
set_option maxRecDepth 20000 in
theorem xc11_66 : xcf (11, 66, 18, 1) := ⟨by decide, fun h => absurd h (by decide), fun _ => ⟨"ArrowOrders", by decide +kernel, by decide⟩, by decide⟩
set_option maxRecDepth 20000 in
theorem xc11_73 : xcf (11, 73, 107, 1) := ⟨by decide, fun h => absurd h (by decide), fun _ => ⟨"ArrowOrders", by decide +kernel, by decide⟩, by decide⟩
set_option maxRecDepth 20000 in
theorem xc11_80 : xcf (11, 80, 92, 1) := ⟨by decide, fun h => absurd h (by decide), fun _ => ⟨"ArrowOrders", by decide +kernel, by decide⟩, by decide⟩
set_option maxRecDepth 20000 in
theorem xc11_85 : xcf (11, 85, 70, 0) := ⟨by decide, fun _ => xin 382 rfl rfl, fun h => absurd h (by decide), by decide⟩
set_option maxRecDepth 20000 in
theorem xc11_89 : xcf (11, 89, 71, 0) := ⟨by decide, fun _ => xin 386 rfl rfl, fun h => absurd h (by decide), by decide⟩
set_option maxRecDepth 20000 in
theorem xc11_97 : xcf (11, 97, 72, 0) := ⟨by decide, fun _ => xin 398 rfl rfl, fun h => absurd h (by decide), by decide⟩
set_option maxRecDepth 20000 in
theorem xc11_106 : xcf (11, 106, 32, 0) := ⟨by decide, fun _ => xin 551 rfl rfl, fun h => absurd h (by decide), by decide⟩
set_option maxRecDepth 20000 in
theorem xc11_114 : xcf (11, 114, 41, 0) := ⟨by decide, fun _ => xin 555 rfl rfl, fun h => absurd h (by decide), by decide⟩
set_option maxRecDepth 20000 in
theorem xc11_123 : xcf (11, 123, 25, 0) := ⟨by decide, fun _ => xin 567 rfl rfl, fun h => absurd h (by decide), by decide⟩
set_option maxRecDepth 20000 in
theorem xc11_127 : xcf (11, 127, 149, 0) := ⟨by decide, fun _ => xin 568 rfl rfl, fun h => absurd h (by decide), by decide⟩
set_option maxRecDepth 20000 in
theorem xc11_130 : xcf (11, 130, 34, 0) := ⟨by decide, fun _ => xin 580 rfl rfl, fun h => absurd h (by decide), by decide⟩
set_option maxRecDepth 20000 in
theorem xc11_134 : xcf (11, 134, 35, 0) := ⟨by decide, fun _ => xin 588 rfl rfl, fun h => absurd h (by decide), by decide⟩
set_option maxRecDepth 20000 in
theorem xc11_137 : xcf (11, 137, 29, 0) := ⟨by decide, fun _ => xin 596 rfl rfl, fun h => absurd h (by decide), by decide⟩
set_option maxRecDepth 20000 in
theorem xc11_141 : xcf (11, 141, 36, 0) := ⟨by decide, fun _ => xin 610 rfl rfl, fun h => absurd h (by decide), by decide⟩
set_option maxRecDepth 20000 in
theorem xc11_144 : xcf (11, 144, 24, 0) := ⟨by decide, fun _ => xin 624 rfl rfl, fun h => absurd h (by decide), by decide⟩
set_option maxRecDepth 20000 in
theorem xc11_148 : xcf (11, 148, 27, 0) := ⟨by decide, fun _ => xin 625 rfl rfl, fun h => absurd h (by decide), by decide⟩
set_option maxRecDepth 20000 in
theorem xc11_152 : xcf (11, 152, 256, 0) := ⟨by decide, fun _ => xin 629 rfl rfl, fun h => absurd h (by decide), by decide⟩
set_option maxRecDepth 20000 in
theorem xc11_157 : xcf (11, 157, 37, 0) := ⟨by decide, fun _ => xin 630 rfl rfl, fun h => absurd h (by decide), by decide⟩
set_option maxRecDepth 20000 in
theorem xc11_163 : xcf (11, 163, 40, 0) := ⟨by decide, fun _ => xin 642 rfl rfl, fun h => absurd h (by decide), by decide⟩
set_option maxRecDepth 20000 in
theorem xc11_167 : xcf (11, 167, 30, 0) := ⟨by decide, fun _ => xin 650 rfl rfl, fun h => absurd h (by decide), by decide⟩
set_option maxRecDepth 20000 in
theorem xc11_170 : xcf (11, 170, 152, 0) := ⟨by decide, fun _ => xin 664 rfl rfl, fun h => absurd h (by decide), by decide⟩
set_option maxRecDepth 20000 in
theorem xc11_173 : xcf (11, 173, 9, 0) := ⟨by decide, fun _ => xin 696 rfl rfl, fun h => absurd h (by decide), by decide⟩
set_option maxRecDepth 20000 in
theorem xc11_176 : xcf (11, 176, 4, 0) := ⟨by decide, fun _ => xin 733 rfl rfl, fun h => absurd h (by decide), by decide⟩
set_option maxRecDepth 20000 in
theorem xc11_179 : xcf (11, 179, 3, 0) := ⟨by decide, fun _ => xin 737 rfl rfl, fun h => absurd h (by decide), by decide⟩
set_option maxRecDepth 20000 in
theorem xc11_182 : xcf (11, 182, 144, 0) := ⟨by decide, fun _ => xin 741 rfl rfl, fun h => absurd h (by decide), by decide⟩
set_option maxRecDepth 20000 in
theorem xc11_186 : xcf (11, 186, 147, 0) := ⟨by decide, fun _ => xin 663 rfl rfl, fun h => absurd h (by decide), by decide⟩
set_option maxRecDepth 20000 in
theorem xc11_193 : xcf (11, 193, 97, 0) := ⟨by decide, fun _ => xin 748 rfl rfl, fun h => absurd h (by decide), by decide⟩
set_option maxRecDepth 20000 in
theorem xc11_199 : xcf (11, 199, 26, 0) := ⟨by decide, fun _ => xin 760 rfl rfl, fun h => absurd h (by decide), by decide⟩
set_option maxRecDepth 20000 in
theorem xc11_202 : xcf (11, 202, 145, 0) := ⟨by decide, fun _ => xin 657 rfl rfl, fun h => absurd h (by decide), by decide⟩
set_option maxRecDepth 20000 in
theorem xc11_206 : xcf (11, 206, 65, 0) := ⟨by decide, fun _ => xin 761 rfl rfl, fun h => absurd h (by decide), by decide⟩
set_option maxRecDepth 20000 in
theorem xc11_212 : xcf (11, 212, 12, 0) := ⟨by decide, fun _ => xin 768 rfl rfl, fun h => absurd h (by decide), by decide⟩
set_option maxRecDepth 20000 in
theorem xc11_215 : xcf (11, 215, 13, 0) := ⟨by decide, fun _ => xin 772 rfl rfl, fun h => absurd h (by decide), by decide⟩
set_option maxRecDepth 20000 in
theorem xc11_218 : xcf (11, 218, 14, 0) := ⟨by decide, fun _ => xin 773 rfl rfl, fun h => absurd h (by decide), by decide⟩
set_option maxRecDepth 20000 in
theorem xc11_221 : xcf (11, 221, 15, 0) := ⟨by decide, fun _ => xin 777 rfl rfl, fun h => absurd h (by decide), by decide⟩
set_option maxRecDepth 20000 in
theorem xc11_224 : xcf (11, 224, 16, 0) := ⟨by decide, fun _ => xin 785 rfl rfl, fun h => absurd h (by decide), by decide⟩
set_option maxRecDepth 20000 in
theorem xc11_227 : xcf (11, 227, 10, 0) := ⟨by decide, fun _ => xin 799 rfl rfl, fun h => absurd h (by decide), by decide⟩
set_option maxRecDepth 20000 in
theorem xc11_230 : xcf (11, 230, 11, 0) := ⟨by decide, fun _ => xin 803 rfl rfl, fun h => absurd h (by decide), by decide⟩
set_option maxRecDepth 20000 in
theorem xc11_233 : xcf (11, 233, 19, 0) := ⟨by decide, fun _ => xin 807 rfl rfl, fun h => absurd h (by decide), by decide⟩
set_option maxRecDepth 20000 in
theorem xc11_237 : xcf (11, 237, 5, 0) := ⟨by decide, fun _ => xin 833 rfl rfl, fun h => absurd h (by decide), by decide⟩
set_option maxRecDepth 20000 in
theorem xc11_240 : xcf (11, 240, 151, 0) := ⟨by decide, fun _ => xin 837 rfl rfl, fun h => absurd h (by decide), by decide⟩
set_option maxRecDepth 20000 in
theorem xc11_243 : xcf (11, 243, 28, 0) := ⟨by decide, fun _ => xin 841 rfl rfl, fun h => absurd h (by decide), by decide⟩
set_option maxRecDepth 20000 in
theorem xc11_246 : xcf (11, 246, 101, 0) := ⟨by decide, fun _ => xin 842 rfl rfl, fun h => absurd h (by decide), by decide⟩
set_option maxRecDepth 20000 in
theorem xc11_249 : xcf (11, 249, 47, 0) := ⟨by decide, fun _ => xin 847 rfl rfl, fun h => absurd h (by decide), by decide⟩
set_option maxRecDepth 20000 in
theorem xc11_252 : xcf (11, 252, 48, 0) := ⟨by decide, fun _ => xin 855 rfl rfl, fun h => absurd h (by decide), by decide⟩
set_option maxRecDepth 20000 in
theorem xc11_255 : xcf (11, 255, 49, 0) := ⟨by decide, fun _ => xin 859 rfl rfl, fun h => absurd h (by decide), by decide⟩
set_option maxRecDepth 20000 in
theorem xc11_258 : xcf (11, 258, 50, 0) := ⟨by decide, fun _ => xin 863 rfl rfl, fun h => absurd h (by decide), by decide⟩
set_option maxRecDepth 20000 in
theorem xc11_261 : xcf (11, 261, 51, 0) := ⟨by decide, fun _ => xin 867 rfl rfl, fun h => absurd h (by decide), by decide⟩
set_option maxRecDepth 20000 in
theorem xc11_264 : xcf (11, 264, 56, 0) := ⟨by decide, fun _ => xin 871 rfl rfl, fun h => absurd h (by decide), by decide⟩
set_option maxRecDepth 20000 in
theorem xc11_267 : xcf (11, 267, 153, 0) := ⟨by decide, fun _ => xin 879 rfl rfl, fun h => absurd h (by decide), by decide⟩
set_option maxRecDepth 20000 in
theorem xc11_271 : xcf (11, 271, 54, 0) := ⟨by decide, fun _ => xin 887 rfl rfl, fun h => absurd h (by decide), by decide⟩
set_option maxRecDepth 20000 in
theorem xc11_274 : xcf (11, 274, 52, 0) := ⟨by decide, fun _ => xin 891 rfl rfl, fun h => absurd h (by decide), by decide⟩
set_option maxRecDepth 20000 in
theorem xc11_277 : xcf (11, 277, 103, 0) := ⟨by decide, fun _ => xin 897 rfl rfl, fun h => absurd h (by decide), by decide⟩
set_option maxRecDepth 20000 in
theorem xc11_280 : xcf (11, 280, 108, 0) := ⟨by decide, fun _ => xin 904 rfl rfl, fun h => absurd h (by decide), by decide⟩
set_option maxRecDepth 20000 in
theorem xc11_284 : xcf (11, 284, 53, 0) := ⟨by decide, fun _ => xin 916 rfl rfl, fun h => absurd h (by decide), by decide⟩
set_option maxRecDepth 20000 in
theorem xc11_287 : xcf (11, 287, 57, 0) := ⟨by decide, fun _ => xin 920 rfl rfl, fun h => absurd h (by decide), by decide⟩
set_option maxRecDepth 20000 in
theorem xc11_290 : xcf (11, 290, 61, 0) := ⟨by decide, fun _ => xin 928 rfl rfl, fun h => absurd h (by decide), by decide⟩
set_option maxRecDepth 20000 in
theorem xc11_293 : xcf (11, 293, 109, 0) := ⟨by decide, fun _ => xin 945 rfl rfl, fun h => absurd h (by decide), by decide⟩
set_option maxRecDepth 20000 in
theorem xc11_296 : xcf (11, 296, 55, 0) := ⟨by decide, fun _ => xin 953 rfl rfl, fun h => absurd h (by decide), by decide⟩
set_option maxRecDepth 20000 in
theorem xc11_300 : xcf (11, 300, 59, 0) := ⟨by decide, fun _ => xin 959 rfl rfl, fun h => absurd h (by decide), by decide⟩
set_option maxRecDepth 20000 in
theorem xc11_303 : xcf (11, 303, 112, 0) := ⟨by decide, fun _ => xin 971 rfl rfl, fun h => absurd h (by decide), by decide⟩
set_option maxRecDepth 20000 in
theorem xc11_307 : xcf (11, 307, 98, 0) := ⟨by decide, fun _ => xin 982 rfl rfl, fun h => absurd h (by decide), by decide⟩
set_option maxRecDepth 20000 in
theorem xc11_311 : xcf (11, 311, 99, 0) := ⟨by decide, fun _ => xin 983 rfl rfl, fun h => absurd h (by decide), by decide⟩
set_option maxRecDepth 20000 in
theorem xc11_314 : xcf (11, 314, 100, 0) := ⟨by decide, fun _ => xin 984 rfl rfl, fun h => absurd h (by decide), by decide⟩
set_option maxRecDepth 20000 in
theorem xc11_317 : xcf (11, 317, 150, 0) := ⟨by decide, fun _ => xin 992 rfl rfl, fun h => absurd h (by decide), by decide⟩
set_option maxRecDepth 20000 in
theorem xc11_321 : xcf (11, 321, 93, 0) := ⟨by decide, fun _ => xin 996 rfl rfl, fun h => absurd h (by decide), by decide⟩
set_option maxRecDepth 20000 in
theorem xc11_325 : xcf (11, 325, 105, 0) := ⟨by decide, fun _ => xin 1025 rfl rfl, fun h => absurd h (by decide), by decide⟩
set_option maxRecDepth 20000 in
theorem xc11_328 : xcf (11, 328, 106, 0) := ⟨by decide, fun _ => xin 1030 rfl rfl, fun h => absurd h (by decide), by decide⟩
set_option maxRecDepth 20000 in
theorem xc11_331 : xcf (11, 331, 104, 0) := ⟨by decide, fun _ => xin 1034 rfl rfl, fun h => absurd h (by decide), by decide⟩
set_option maxRecDepth 20000 in
theorem xc11_337 : xcf (11, 337, 39, 0) := ⟨by decide, fun _ => xin 572 rfl rfl, fun h => absurd h (by decide), by decide⟩
set_option maxRecDepth 20000 in
theorem xc11_340 : xcf (11, 340, 7, 0) := ⟨by decide, fun _ => xin 668 rfl rfl, fun h => absurd h (by decide), by decide⟩
set_option maxRecDepth 20000 in
theorem xc11_344 : xcf (11, 344, 1, 0) := ⟨by decide, fun _ => xin 700 rfl rfl, fun h => absurd h (by decide), by decide⟩
set_option maxRecDepth 20000 in
theorem xc11_347 : xcf (11, 347, 43, 0) := ⟨by decide, fun _ => xin 711 rfl rfl, fun h => absurd h (by decide), by decide⟩
set_option maxRecDepth 20000 in
theorem xc12_137 : xcf (12, 137, 162, 0) := ⟨by decide, fun _ => xin 1043 rfl rfl, fun h => absurd h (by decide), by decide⟩
set_option maxRecDepth 20000 in
theorem xc12_144 : xcf (12, 144, 156, 0) := ⟨by decide, fun _ => xin 1225 rfl rfl, fun h => absurd h (by decide), by decide⟩
set_option maxRecDepth 20000 in
theorem xc12_153 : xcf (12, 153, 161, 0) := ⟨by decide, fun _ => xin 1046 rfl rfl, fun h => absurd h (by decide), by decide⟩
set_option maxRecDepth 20000 in
theorem xc12_160 : xcf (12, 160, 158, 0) := ⟨by decide, fun _ => xin 1241 rfl rfl, fun h => absurd h (by decide), by decide⟩
set_option maxRecDepth 20000 in
theorem xc12_164 : xcf (12, 164, 163, 0) := ⟨by decide, fun _ => xin 1245 rfl rfl, fun h => absurd h (by decide), by decide⟩
set_option maxRecDepth 20000 in
theorem xc12_168 : xcf (12, 168, 160, 0) := ⟨by decide, fun _ => xin 1249 rfl rfl, fun h => absurd h (by decide), by decide⟩
set_option maxRecDepth 20000 in
theorem xc12_172 : xcf (12, 172, 159, 0) := ⟨by decide, fun _ => xin 1252 rfl rfl, fun h => absurd h (by decide), by decide⟩
set_option maxRecDepth 20000 in
theorem xc12_175 : xcf (12, 175, 165, 0) := ⟨by decide, fun _ => xin 1255 rfl rfl, fun h => absurd h (by decide), by decide⟩
set_option maxRecDepth 20000 in
theorem xc12_194 : xcf (12, 194, 167, 0) := ⟨by decide, fun _ => xin 1271 rfl rfl, fun h => absurd h (by decide), by decide⟩
set_option maxRecDepth 20000 in
theorem xc12_197 : xcf (12, 197, 166, 0) := ⟨by decide, fun _ => xin 1263 rfl rfl, fun h => absurd h (by decide), by decide⟩
set_option maxRecDepth 20000 in
theorem xc12_200 : xcf (12, 200, 169, 0) := ⟨by decide, fun _ => xin 1267 rfl rfl, fun h => absurd h (by decide), by decide⟩
set_option maxRecDepth 20000 in
theorem xc12_203 : xcf (12, 203, 164, 0) := ⟨by decide, fun _ => xin 1237 rfl rfl, fun h => absurd h (by decide), by decide⟩
set_option maxRecDepth 20000 in
theorem xc12_209 : xcf (12, 209, 170, 0) := ⟨by decide, fun _ => xin 1259 rfl rfl, fun h => absurd h (by decide), by decide⟩
set_option maxRecDepth 20000 in
theorem xc12_212 : xcf (12, 212, 173, 0) := ⟨by decide, fun _ => xin 1275 rfl rfl, fun h => absurd h (by decide), by decide⟩
set_option maxRecDepth 20000 in
theorem xc12_215 : xcf (12, 215, 175, 0) := ⟨by decide, fun _ => xin 1279 rfl rfl, fun h => absurd h (by decide), by decide⟩
set_option maxRecDepth 20000 in
theorem xc12_221 : xcf (12, 221, 183, 0) := ⟨by decide, fun _ => xin 1306 rfl rfl, fun h => absurd h (by decide), by decide⟩
set_option maxRecDepth 20000 in
theorem xc12_228 : xcf (12, 228, 174, 0) := ⟨by decide, fun _ => xin 1283 rfl rfl, fun h => absurd h (by decide), by decide⟩
set_option maxRecDepth 20000 in
theorem xc12_232 : xcf (12, 232, 168, 0) := ⟨by decide, fun _ => xin 1287 rfl rfl, fun h => absurd h (by decide), by decide⟩
set_option maxRecDepth 20000 in
theorem xc12_236 : xcf (12, 236, 177, 0) := ⟨by decide, fun _ => xin 1291 rfl rfl, fun h => absurd h (by decide), by decide⟩
set_option maxRecDepth 20000 in
theorem xc12_239 : xcf (12, 239, 178, 0) := ⟨by decide, fun _ => xin 1298 rfl rfl, fun h => absurd h (by decide), by decide⟩
set_option maxRecDepth 20000 in
theorem xc12_242 : xcf (12, 242, 176, 0) := ⟨by decide, fun _ => xin 1295 rfl rfl, fun h => absurd h (by decide), by decide⟩
set_option maxRecDepth 20000 in
theorem xc12_246 : xcf (12, 246, 179, 0) := ⟨by decide, fun _ => xin 1302 rfl rfl, fun h => absurd h (by decide), by decide⟩
set_option maxRecDepth 20000 in
theorem xc12_250 : xcf (12, 250, 181, 0) := ⟨by decide, fun _ => xin 1355 rfl rfl, fun h => absurd h (by decide), by decide⟩
set_option maxRecDepth 20000 in
theorem xc12_253 : xcf (12, 253, 180, 0) := ⟨by decide, fun _ => xin 1321 rfl rfl, fun h => absurd h (by decide), by decide⟩
set_option maxRecDepth 20000 in
theorem xc12_260 : xcf (12, 260, 184, 0) := ⟨by decide, fun _ => xin 1332 rfl rfl, fun h => absurd h (by decide), by decide⟩
set_option maxRecDepth 20000 in
theorem xc12_263 : xcf (12, 263, 185, 0) := ⟨by decide, fun _ => xin 1336 rfl rfl, fun h => absurd h (by decide), by decide⟩
set_option maxRecDepth 20000 in
theorem xc12_266 : xcf (12, 266, 190, 0) := ⟨by decide, fun _ => xin 1344 rfl rfl, fun h => absurd h (by decide), by decide⟩
set_option maxRecDepth 20000 in
theorem xc12_269 : xcf (12, 269, 195, 0) := ⟨by decide, fun _ => xin 1348 rfl rfl, fun h => absurd h (by decide), by decide⟩
set_option maxRecDepth 20000 in
theorem xc12_273 : xcf (12, 273, 182, 0) := ⟨by decide, fun _ => xin 1352 rfl rfl, fun h => absurd h (by decide), by decide⟩
set_option maxRecDepth 20000 in
theorem xc12_276 : xcf (12, 276, 199, 0) := ⟨by decide, fun _ => xin 1378 rfl rfl, fun h => absurd h (by decide), by decide⟩
set_option maxRecDepth 20000 in
theorem xc12_280 : xcf (12, 280, 200, 0) := ⟨by decide, fun _ => xin 1381 rfl rfl, fun h => absurd h (by decide), by decide⟩
set_option maxRecDepth 20000 in
theorem xc12_286 : xcf (12, 286, 203, 0) := ⟨by decide, fun _ => xin 1396 rfl rfl, fun h => absurd h (by decide), by decide⟩
set_option maxRecDepth 20000 in
theorem xc12_295 : xcf (12, 295, 202, 0) := ⟨by decide, fun _ => xin 1388 rfl rfl, fun h => absurd h (by decide), by decide⟩
set_option maxRecDepth 20000 in
theorem xc12_299 : xcf (12, 299, 204, 0) := ⟨by decide, fun _ => xin 1392 rfl rfl, fun h => absurd h (by decide), by decide⟩
set_option maxRecDepth 20000 in
theorem xc12_303 : xcf (12, 303, 205, 0) := ⟨by decide, fun _ => xin 1423 rfl rfl, fun h => absurd h (by decide), by decide⟩
set_option maxRecDepth 20000 in
theorem xc12_307 : xcf (12, 307, 196, 0) := ⟨by decide, fun _ => xin 1399 rfl rfl, fun h => absurd h (by decide), by decide⟩
set_option maxRecDepth 20000 in
theorem xc12_313 : xcf (12, 313, 210, 0) := ⟨by decide, fun _ => xin 1431 rfl rfl, fun h => absurd h (by decide), by decide⟩
set_option maxRecDepth 20000 in
theorem xc12_316 : xcf (12, 316, 206, 0) := ⟨by decide, fun _ => xin 1419 rfl rfl, fun h => absurd h (by decide), by decide⟩
set_option maxRecDepth 20000 in
theorem xc12_320 : xcf (12, 320, 209, 0) := ⟨by decide, fun _ => xin 1427 rfl rfl, fun h => absurd h (by decide), by decide⟩
set_option maxRecDepth 20000 in
theorem xc12_324 : xcf (12, 324, 197, 0) := ⟨by decide, fun _ => xin 1411 rfl rfl, fun h => absurd h (by decide), by decide⟩
set_option maxRecDepth 20000 in
theorem xc12_327 : xcf (12, 327, 211, 0) := ⟨by decide, fun _ => xin 1415 rfl rfl, fun h => absurd h (by decide), by decide⟩
set_option maxRecDepth 20000 in
theorem xc12_330 : xcf (12, 330, 218, 0) := ⟨by decide, fun _ => xin 1455 rfl rfl, fun h => absurd h (by decide), by decide⟩
set_option maxRecDepth 20000 in
theorem xc12_333 : xcf (12, 333, 217, 0) := ⟨by decide, fun _ => xin 1467 rfl rfl, fun h => absurd h (by decide), by decide⟩
set_option maxRecDepth 20000 in
theorem xc12_336 : xcf (12, 336, 219, 0) := ⟨by decide, fun _ => xin 1471 rfl rfl, fun h => absurd h (by decide), by decide⟩
set_option maxRecDepth 20000 in
theorem xc12_339 : xcf (12, 339, 215, 0) := ⟨by decide, fun _ => xin 1459 rfl rfl, fun h => absurd h (by decide), by decide⟩
set_option maxRecDepth 20000 in
theorem xc12_342 : xcf (12, 342, 216, 0) := ⟨by decide, fun _ => xin 1463 rfl rfl, fun h => absurd h (by decide), by decide⟩
set_option maxRecDepth 20000 in
theorem xc12_345 : xcf (12, 345, 221, 0) := ⟨by decide, fun _ => xin 1443 rfl rfl, fun h => absurd h (by decide), by decide⟩
set_option maxRecDepth 20000 in
theorem xc12_348 : xcf (12, 348, 214, 0) := ⟨by decide, fun _ => xin 1451 rfl rfl, fun h => absurd h (by decide), by decide⟩
set_option maxRecDepth 20000 in
theorem xc12_351 : xcf (12, 351, 220, 0) := ⟨by decide, fun _ => xin 1475 rfl rfl, fun h => absurd h (by decide), by decide⟩
set_option maxRecDepth 20000 in
theorem xc12_354 : xcf (12, 354, 223, 0) := ⟨by decide, fun _ => xin 1479 rfl rfl, fun h => absurd h (by decide), by decide⟩
set_option maxRecDepth 20000 in
theorem xc12_357 : xcf (12, 357, 226, 0) := ⟨by decide, fun _ => xin 1491 rfl rfl, fun h => absurd h (by decide), by decide⟩
set_option maxRecDepth 20000 in
theorem xc12_360 : xcf (12, 360, 225, 0) := ⟨by decide, fun _ => xin 1487 rfl rfl, fun h => absurd h (by decide), by decide⟩
set_option maxRecDepth 20000 in
theorem xc12_363 : xcf (12, 363, 229, 0) := ⟨by decide, fun _ => xin 1495 rfl rfl, fun h => absurd h (by decide), by decide⟩
set_option maxRecDepth 20000 in
theorem xc12_366 : xcf (12, 366, 230, 0) := ⟨by decide, fun _ => xin 1499 rfl rfl, fun h => absurd h (by decide), by decide⟩
set_option maxRecDepth 20000 in
theorem xc12_370 : xcf (12, 370, 228, 0) := ⟨by decide, fun _ => xin 1507 rfl rfl, fun h => absurd h (by decide), by decide⟩
set_option maxRecDepth 20000 in
theorem xc12_373 : xcf (12, 373, 233, 0) := ⟨by decide, fun _ => xin 1511 rfl rfl, fun h => absurd h (by decide), by decide⟩
set_option maxRecDepth 20000 in
theorem xc12_376 : xcf (12, 376, 236, 0) := ⟨by decide, fun _ => xin 1572 rfl rfl, fun h => absurd h (by decide), by decide⟩
set_option maxRecDepth 20000 in
theorem xc12_380 : xcf (12, 380, 240, 0) := ⟨by decide, fun _ => xin 1524 rfl rfl, fun h => absurd h (by decide), by decide⟩
set_option maxRecDepth 20000 in
theorem xc12_383 : xcf (12, 383, 239, 0) := ⟨by decide, fun _ => xin 1536 rfl rfl, fun h => absurd h (by decide), by decide⟩
set_option maxRecDepth 20000 in
theorem xc12_386 : xcf (12, 386, 241, 0) := ⟨by decide, fun _ => xin 1540 rfl rfl, fun h => absurd h (by decide), by decide⟩
set_option maxRecDepth 20000 in
theorem xc12_389 : xcf (12, 389, 242, 0) := ⟨by decide, fun _ => xin 1544 rfl rfl, fun h => absurd h (by decide), by decide⟩
set_option maxRecDepth 20000 in
theorem xc12_392 : xcf (12, 392, 243, 0) := ⟨by decide, fun _ => xin 1532 rfl rfl, fun h => absurd h (by decide), by decide⟩
set_option maxRecDepth 20000 in
theorem xc12_395 : xcf (12, 395, 227, 0) := ⟨by decide, fun _ => xin 1552 rfl rfl, fun h => absurd h (by decide), by decide⟩
set_option maxRecDepth 20000 in
theorem xc12_398 : xcf (12, 398, 246, 0) := ⟨by decide, fun _ => xin 1556 rfl rfl, fun h => absurd h (by decide), by decide⟩
set_option maxRecDepth 20000 in
theorem xc12_401 : xcf (12, 401, 247, 0) := ⟨by decide, fun _ => xin 1560 rfl rfl, fun h => absurd h (by decide), by decide⟩
set_option maxRecDepth 20000 in
theorem xc12_404 : xcf (12, 404, 234, 0) := ⟨by decide, fun _ => xin 1564 rfl rfl, fun h => absurd h (by decide), by decide⟩
set_option maxRecDepth 20000 in
theorem xc12_407 : xcf (12, 407, 235, 0) := ⟨by decide, fun _ => xin 1568 rfl rfl, fun h => absurd h (by decide), by decide⟩
set_option maxRecDepth 20000 in
theorem xc12_410 : xcf (12, 410, 249, 0) := ⟨by decide, fun _ => xin 1580 rfl rfl, fun h => absurd h (by decide), by decide⟩
set_option maxRecDepth 20000 in
theorem xc12_413 : xcf (12, 413, 251, 0) := ⟨by decide, fun _ => xin 1592 rfl rfl, fun h => absurd h (by decide), by decide⟩
set_option maxRecDepth 20000 in
theorem xc12_416 : xcf (12, 416, 252, 0) := ⟨by decide, fun _ => xin 1588 rfl rfl, fun h => absurd h (by decide), by decide⟩
set_option maxRecDepth 20000 in
theorem xc12_419 : xcf (12, 419, 245, 0) := ⟨by decide, fun _ => xin 1600 rfl rfl, fun h => absurd h (by decide), by decide⟩
set_option maxRecDepth 20000 in
theorem xc12_422 : xcf (12, 422, 254, 0) := ⟨by decide, fun _ => xin 1604 rfl rfl, fun h => absurd h (by decide), by decide⟩
set_option maxRecDepth 20000 in
theorem xc15_335 : xcf (15, 335, 261, 0) := ⟨by decide, fun _ => xin 439 rfl rfl, fun h => absurd h (by decide), by decide⟩
set_option maxRecDepth 20000 in
theorem xc15_492 : xcf (15, 492, 262, 0) := ⟨by decide, fun _ => xin 449 rfl rfl, fun h => absurd h (by decide), by decide⟩
set_option maxRecDepth 20000 in
theorem xc15_495 : xcf (15, 495, 264, 0) := ⟨by decide, fun _ => xin 453 rfl rfl, fun h => absurd h (by decide), by decide⟩
set_option maxRecDepth 20000 in
theorem xc15_1059 : xcf (15, 1059, 265, 0) := ⟨by decide, fun _ => xin 461 rfl rfl, fun h => absurd h (by decide), by decide⟩
set_option maxRecDepth 20000 in
theorem xc16_9 : xcf (16, 9, 263, 0) := ⟨by decide, fun _ => xin 456 rfl rfl, fun h => absurd h (by decide), by decide⟩
set_option maxRecDepth 20000 in
theorem xc17_414 : xcf (17, 414, 263, 0) := ⟨by decide, fun _ => xin 473 rfl rfl, fun h => absurd h (by decide), by decide⟩
set_option maxRecDepth 20000 in
theorem xc19_9 : xcf (19, 9, 114, 0) := ⟨by decide, fun _ => xin 87 rfl rfl, fun h => absurd h (by decide), by decide⟩
set_option maxRecDepth 20000 in
theorem xc19_12 : xcf (19, 12, 154, 0) := ⟨by decide, fun _ => xin 1039 rfl rfl, fun h => absurd h (by decide), by decide⟩
set_option maxRecDepth 20000 in
theorem xc19_13 : xcf (19, 13, 115, 0) := ⟨by decide, fun _ => xin 378 rfl rfl, fun h => absurd h (by decide), by decide⟩
set_option maxRecDepth 20000 in
theorem xc19_17 : xcf (19, 17, 155, 0) := ⟨by decide, fun _ => xin 1221 rfl rfl, fun h => absurd h (by decide), by decide⟩
set_option maxRecDepth 20000 in
theorem xc19_18 : xcf (19, 18, 116, 0) := ⟨by decide, fun _ => xin 390 rfl rfl, fun h => absurd h (by decide), by decide⟩
set_option maxRecDepth 20000 in
theorem xc19_22 : xcf (19, 22, 157, 0) := ⟨by decide, fun _ => xin 1229 rfl rfl, fun h => absurd h (by decide), by decide⟩
set_option maxRecDepth 20000 in
theorem xc19_23 : xcf (19, 23, 117, 0) := ⟨by decide, fun _ => xin 394 rfl rfl, fun h => absurd h (by decide), by decide⟩
set_option maxRecDepth 20000 in
theorem xc19_27 : xcf (19, 27, 171, 0) := ⟨by decide, fun _ => xin 1233 rfl rfl, fun h => absurd h (by decide), by decide⟩
set_option maxRecDepth 20000 in
theorem xc19_28 : xcf (19, 28, 118, 0) := ⟨by decide, fun _ => xin 559 rfl rfl, fun h => absurd h (by decide), by decide⟩
set_option maxRecDepth 20000 in
theorem xc19_31 : xcf (19, 31, 172, 0) := ⟨by decide, fun _ => xin 1309 rfl rfl, fun h => absurd h (by decide), by decide⟩
set_option maxRecDepth 20000 in
theorem xc19_32 : xcf (19, 32, 119, 0) := ⟨by decide, fun _ => xin 563 rfl rfl, fun h => absurd h (by decide), by decide⟩
set_option maxRecDepth 20000 in
theorem xc19_36 : xcf (19, 36, 189, 0) := ⟨by decide, fun _ => xin 1328 rfl rfl, fun h => absurd h (by decide), by decide⟩
set_option maxRecDepth 20000 in
theorem xc19_37 : xcf (19, 37, 120, 0) := ⟨by decide, fun _ => xin 584 rfl rfl, fun h => absurd h (by decide), by decide⟩
set_option maxRecDepth 20000 in
theorem xc19_40 : xcf (19, 40, 191, 0) := ⟨by decide, fun _ => xin 1340 rfl rfl, fun h => absurd h (by decide), by decide⟩
set_option maxRecDepth 20000 in
theorem xc19_41 : xcf (19, 41, 121, 0) := ⟨by decide, fun _ => xin 606 rfl rfl, fun h => absurd h (by decide), by decide⟩
set_option maxRecDepth 20000 in
theorem xc19_44 : xcf (19, 44, 192, 0) := ⟨by decide, fun _ => xin 1358 rfl rfl, fun h => absurd h (by decide), by decide⟩
set_option maxRecDepth 20000 in
theorem xc19_45 : xcf (19, 45, 122, 0) := ⟨by decide, fun _ => xin 620 rfl rfl, fun h => absurd h (by decide), by decide⟩
set_option maxRecDepth 20000 in
theorem xc19_48 : xcf (19, 48, 193, 0) := ⟨by decide, fun _ => xin 1362 rfl rfl, fun h => absurd h (by decide), by decide⟩
set_option maxRecDepth 20000 in
theorem xc19_49 : xcf (19, 49, 123, 0) := ⟨by decide, fun _ => xin 634 rfl rfl, fun h => absurd h (by decide), by decide⟩
set_option maxRecDepth 20000 in
theorem xc19_53 : xcf (19, 53, 194, 0) := ⟨by decide, fun _ => xin 1366 rfl rfl, fun h => absurd h (by decide), by decide⟩
set_option maxRecDepth 20000 in
theorem xc19_54 : xcf (19, 54, 124, 0) := ⟨by decide, fun _ => xin 638 rfl rfl, fun h => absurd h (by decide), by decide⟩
set_option maxRecDepth 20000 in
theorem xc19_57 : xcf (19, 57, 186, 0) := ⟨by decide, fun _ => xin 1313 rfl rfl, fun h => absurd h (by decide), by decide⟩
set_option maxRecDepth 20000 in
theorem xc19_58 : xcf (19, 58, 125, 0) := ⟨by decide, fun _ => xin 646 rfl rfl, fun h => absurd h (by decide), by decide⟩
set_option maxRecDepth 20000 in
theorem xc19_62 : xcf (19, 62, 212, 0) := ⟨by decide, fun _ => xin 1407 rfl rfl, fun h => absurd h (by decide), by decide⟩
set_option maxRecDepth 20000 in
theorem xc19_63 : xcf (19, 63, 126, 0) := ⟨by decide, fun _ => xin 744 rfl rfl, fun h => absurd h (by decide), by decide⟩
set_option maxRecDepth 20000 in
theorem xc19_66 : xcf (19, 66, 222, 0) := ⟨by decide, fun _ => xin 1439 rfl rfl, fun h => absurd h (by decide), by decide⟩
set_option maxRecDepth 20000 in
theorem xc19_67 : xcf (19, 67, 127, 0) := ⟨by decide, fun _ => xin 752 rfl rfl, fun h => absurd h (by decide), by decide⟩
set_option maxRecDepth 20000 in
theorem xc19_70 : xcf (19, 70, 198, 0) := ⟨by decide, fun _ => xin 1370 rfl rfl, fun h => absurd h (by decide), by decide⟩
set_option maxRecDepth 20000 in
theorem xc19_71 : xcf (19, 71, 128, 0) := ⟨by decide, fun _ => xin 756 rfl rfl, fun h => absurd h (by decide), by decide⟩
set_option maxRecDepth 20000 in
theorem xc19_75 : xcf (19, 75, 201, 0) := ⟨by decide, fun _ => xin 1374 rfl rfl, fun h => absurd h (by decide), by decide⟩
set_option maxRecDepth 20000 in
theorem xc19_76 : xcf (19, 76, 129, 0) := ⟨by decide, fun _ => xin 764 rfl rfl, fun h => absurd h (by decide), by decide⟩
set_option maxRecDepth 20000 in
theorem xc19_80 : xcf (19, 80, 207, 0) := ⟨by decide, fun _ => xin 1384 rfl rfl, fun h => absurd h (by decide), by decide⟩
set_option maxRecDepth 20000 in
theorem xc19_81 : xcf (19, 81, 130, 0) := ⟨by decide, fun _ => xin 781 rfl rfl, fun h => absurd h (by decide), by decide⟩
set_option maxRecDepth 20000 in
theorem xc19_84 : xcf (19, 84, 208, 0) := ⟨by decide, fun _ => xin 1403 rfl rfl, fun h => absurd h (by decide), by decide⟩
set_option maxRecDepth 20000 in
theorem xc19_85 : xcf (19, 85, 131, 0) := ⟨by decide, fun _ => xin 795 rfl rfl, fun h => absurd h (by decide), by decide⟩
set_option maxRecDepth 20000 in
theorem xc19_88 : xcf (19, 88, 224, 0) := ⟨by decide, fun _ => xin 1447 rfl rfl, fun h => absurd h (by decide), by decide⟩
set_option maxRecDepth 20000 in
theorem xc19_89 : xcf (19, 89, 132, 0) := ⟨by decide, fun _ => xin 843 rfl rfl, fun h => absurd h (by decide), by decide⟩
set_option maxRecDepth 20000 in
theorem xc19_92 : xcf (19, 92, 213, 0) := ⟨by decide, fun _ => xin 1435 rfl rfl, fun h => absurd h (by decide), by decide⟩
set_option maxRecDepth 20000 in
theorem xc19_93 : xcf (19, 93, 133, 0) := ⟨by decide, fun _ => xin 851 rfl rfl, fun h => absurd h (by decide), by decide⟩
set_option maxRecDepth 20000 in
theorem xc19_96 : xcf (19, 96, 231, 0) := ⟨by decide, fun _ => xin 1483 rfl rfl, fun h => absurd h (by decide), by decide⟩
set_option maxRecDepth 20000 in
theorem xc19_97 : xcf (19, 97, 134, 0) := ⟨by decide, fun _ => xin 883 rfl rfl, fun h => absurd h (by decide), by decide⟩
set_option maxRecDepth 20000 in
theorem xc19_100 : xcf (19, 100, 248, 0) := ⟨by decide, fun _ => xin 1548 rfl rfl, fun h => absurd h (by decide), by decide⟩
set_option maxRecDepth 20000 in
theorem xc19_101 : xcf (19, 101, 135, 0) := ⟨by decide, fun _ => xin 941 rfl rfl, fun h => absurd h (by decide), by decide⟩
set_option maxRecDepth 20000 in
theorem xc19_104 : xcf (19, 104, 250, 0) := ⟨by decide, fun _ => xin 1576 rfl rfl, fun h => absurd h (by decide), by decide⟩
set_option maxRecDepth 20000 in
theorem xc19_105 : xcf (19, 105, 136, 0) := ⟨by decide, fun _ => xin 949 rfl rfl, fun h => absurd h (by decide), by decide⟩
set_option maxRecDepth 20000 in
theorem xc19_108 : xcf (19, 108, 232, 0) := ⟨by decide, fun _ => xin 1503 rfl rfl, fun h => absurd h (by decide), by decide⟩
set_option maxRecDepth 20000 in
theorem xc19_109 : xcf (19, 109, 137, 0) := ⟨by decide, fun _ => xin 954 rfl rfl, fun h => absurd h (by decide), by decide⟩
set_option maxRecDepth 20000 in
theorem xc19_112 : xcf (19, 112, 237, 0) := ⟨by decide, fun _ => xin 1515 rfl rfl, fun h => absurd h (by decide), by decide⟩
set_option maxRecDepth 20000 in
theorem xc19_113 : xcf (19, 113, 138, 0) := ⟨by decide, fun _ => xin 967 rfl rfl, fun h => absurd h (by decide), by decide⟩
set_option maxRecDepth 20000 in
theorem xc19_116 : xcf (19, 116, 238, 0) := ⟨by decide, fun _ => xin 1520 rfl rfl, fun h => absurd h (by decide), by decide⟩
set_option maxRecDepth 20000 in
theorem xc19_117 : xcf (19, 117, 139, 0) := ⟨by decide, fun _ => xin 978 rfl rfl, fun h => absurd h (by decide), by decide⟩
set_option maxRecDepth 20000 in
theorem xc19_120 : xcf (19, 120, 244, 0) := ⟨by decide, fun _ => xin 1528 rfl rfl, fun h => absurd h (by decide), by decide⟩
set_option maxRecDepth 20000 in
theorem xc19_121 : xcf (19, 121, 140, 0) := ⟨by decide, fun _ => xin 988 rfl rfl, fun h => absurd h (by decide), by decide⟩
set_option maxRecDepth 20000 in
theorem xc19_124 : xcf (19, 124, 253, 0) := ⟨by decide, fun _ => xin 1584 rfl rfl, fun h => absurd h (by decide), by decide⟩
set_option maxRecDepth 20000 in
theorem xc19_125 : xcf (19, 125, 141, 0) := ⟨by decide, fun _ => xin 1013 rfl rfl, fun h => absurd h (by decide), by decide⟩
set_option maxRecDepth 20000 in
theorem xc19_129 : xcf (19, 129, 187, 0) := ⟨by decide, fun _ => xin 1317 rfl rfl, fun h => absurd h (by decide), by decide⟩
set_option maxRecDepth 20000 in
theorem xc19_130 : xcf (19, 130, 142, 0) := ⟨by decide, fun _ => xin 1017 rfl rfl, fun h => absurd h (by decide), by decide⟩
set_option maxRecDepth 20000 in
theorem xc19_133 : xcf (19, 133, 188, 0) := ⟨by decide, fun _ => xin 1324 rfl rfl, fun h => absurd h (by decide), by decide⟩
set_option maxRecDepth 20000 in
theorem xc19_134 : xcf (19, 134, 143, 0) := ⟨by decide, fun _ => xin 1021 rfl rfl, fun h => absurd h (by decide), by decide⟩
set_option maxRecDepth 20000 in
theorem xc19_137 : xcf (19, 137, 255, 0) := ⟨by decide, fun _ => xin 1596 rfl rfl, fun h => absurd h (by decide), by decide⟩
set_option maxRecDepth 20000 in
theorem xcf_all : ∀ e ∈ xclL, xcf e := List.forall_mem_cons.mpr ⟨xc0_11, List.forall_mem_cons.mpr ⟨xc0_32, List.forall_mem_cons.mpr ⟨xc0_36, List.forall_mem_cons.mpr ⟨xc0_40, List.forall_mem_cons.mpr ⟨xc0_44, List.forall_mem_cons.mpr ⟨xc1_11, List.forall_mem_cons.mpr ⟨xc1_32, List.forall_mem_cons.mpr ⟨xc1_36, List.forall_mem_cons.mpr ⟨xc1_40, List.forall_mem_cons.mpr ⟨xc1_50, List.forall_mem_cons.mpr ⟨xc1_54, List.forall_mem_cons.mpr ⟨xc1_61, List.forall_mem_cons.mpr ⟨xc1_64, List.forall_mem_cons.mpr ⟨xc1_67, List.forall_mem_cons.mpr ⟨xc2_15, List.forall_mem_cons.mpr ⟨xc2_25, List.forall_mem_cons.mpr ⟨xc2_31, List.forall_mem_cons.mpr ⟨xc2_35, List.forall_mem_cons.mpr ⟨xc2_39, List.forall_mem_cons.mpr ⟨xc2_43, List.forall_mem_cons.mpr ⟨xc2_49, List.forall_mem_cons.mpr ⟨xc3_19, List.forall_mem_cons.mpr ⟨xc3_23, List.forall_mem_cons.mpr ⟨xc3_27, List.forall_mem_cons.mpr ⟨xc3_30, List.forall_mem_cons.mpr ⟨xc3_36, List.forall_mem_cons.mpr ⟨xc3_39, List.forall_mem_cons.mpr ⟨xc3_47, List.forall_mem_cons.mpr ⟨xc3_51, List.forall_mem_cons.mpr ⟨xc3_54, List.forall_mem_cons.mpr ⟨xc4_15, List.forall_mem_cons.mpr ⟨xc4_20, List.forall_mem_cons.mpr ⟨xc4_27, List.forall_mem_cons.mpr ⟨xc5_30, List.forall_mem_cons.mpr ⟨xc5_43, List.forall_mem_cons.mpr ⟨xc5_47, List.forall_mem_cons.mpr ⟨xc5_50, List.forall_mem_cons.mpr ⟨xc5_53, List.forall_mem_cons.mpr ⟨xc5_56, List.forall_mem_cons.mpr ⟨xc5_60, List.forall_mem_cons.mpr ⟨xc5_63, List.forall_mem_cons.mpr ⟨xc5_67, List.forall_mem_cons.mpr ⟨xc5_72, List.forall_mem_cons.mpr ⟨xc5_75, List.forall_mem_cons.mpr ⟨xc5_79, List.forall_mem_cons.mpr ⟨xc5_82, List.forall_mem_cons.mpr ⟨xc5_85, List.forall_mem_cons.mpr ⟨xc5_88, List.forall_mem_cons.mpr ⟨xc5_92, List.forall_mem_cons.mpr ⟨xc6_18, List.forall_mem_cons.mpr ⟨xc6_26, List.forall_mem_cons.mpr ⟨xc6_30, List.forall_mem_cons.mpr ⟨xc6_34, List.forall_mem_cons.mpr ⟨xc7_21, List.forall_mem_cons.mpr ⟨xc7_49, List.forall_mem_cons.mpr ⟨xc7_52, List.forall_mem_cons.mpr ⟨xc7_58, List.forall_mem_cons.mpr ⟨xc7_65, List.forall_mem_cons.mpr ⟨xc7_68, List.forall_mem_cons.mpr ⟨xc7_72, List.forall_mem_cons.mpr ⟨xc7_76, List.forall_mem_cons.mpr ⟨xc7_80, List.forall_mem_cons.mpr ⟨xc7_83, List.forall_mem_cons.mpr ⟨xc7_87, List.forall_mem_cons.mpr ⟨xc7_90, List.forall_mem_cons.mpr ⟨xc7_94, List.forall_mem_cons.mpr ⟨xc7_97, List.forall_mem_cons.mpr ⟨xc7_100, List.forall_mem_cons.mpr ⟨xc7_103, List.forall_mem_cons.mpr ⟨xc7_109, List.forall_mem_cons.mpr ⟨xc7_119, List.forall_mem_cons.mpr ⟨xc7_123, List.forall_mem_cons.mpr ⟨xc7_134, List.forall_mem_cons.mpr ⟨xc7_138, List.forall_mem_cons.mpr ⟨xc7_141, List.forall_mem_cons.mpr ⟨xc7_152, List.forall_mem_cons.mpr ⟨xc7_155, List.forall_mem_cons.mpr ⟨xc7_159, List.forall_mem_cons.mpr ⟨xc7_163, List.forall_mem_cons.mpr ⟨xc8_21, List.forall_mem_cons.mpr ⟨xc8_30, List.forall_mem_cons.mpr ⟨xc8_34, List.forall_mem_cons.mpr ⟨xc8_38, List.forall_mem_cons.mpr ⟨xc8_42, List.forall_mem_cons.mpr ⟨xc8_46, List.forall_mem_cons.mpr ⟨xc9_9, List.forall_mem_cons.mpr ⟨xc9_13, List.forall_mem_cons.mpr ⟨xc9_19, List.forall_mem_cons.mpr ⟨xc9_25, List.forall_mem_cons.mpr ⟨xc9_28, List.forall_mem_cons.mpr ⟨xc9_32, List.forall_mem_cons.mpr ⟨xc9_36, List.forall_mem_cons.mpr ⟨xc9_40, List.forall_mem_cons.mpr ⟨xc9_44, List.forall_mem_cons.mpr ⟨xc10_27, List.forall_mem_cons.mpr ⟨xc10_33, List.forall_mem_cons.mpr ⟨xc10_39, List.forall_mem_cons.mpr ⟨xc10_43, List.forall_mem_cons.mpr ⟨xc11_9, List.forall_mem_cons.mpr ⟨xc11_18, List.forall_mem_cons.mpr ⟨xc11_28, List.forall_mem_cons.mpr ⟨xc11_39, List.forall_mem_cons.mpr ⟨xc11_49, List.forall_mem_cons.mpr ⟨xc11_59, List.forall_mem_cons.mpr ⟨xc11_66, List.forall_mem_cons.mpr ⟨xc11_73, List.forall_mem_cons.mpr ⟨xc11_80, List.forall_mem_cons.mpr ⟨xc11_85, List.forall_mem_cons.mpr ⟨xc11_89, List.forall_mem_cons.mpr ⟨xc11_97, List.forall_mem_cons.mpr ⟨xc11_106, List.forall_mem_cons.mpr ⟨xc11_114, List.forall_mem_cons.mpr ⟨xc11_123, List.forall_mem_cons.mpr ⟨xc11_127, List.forall_mem_cons.mpr ⟨xc11_130, List.forall_mem_cons.mpr ⟨xc11_134, List.forall_mem_cons.mpr ⟨xc11_137, List.forall_mem_cons.mpr ⟨xc11_141, List.forall_mem_cons.mpr ⟨xc11_144, List.forall_mem_cons.mpr ⟨xc11_148, List.forall_mem_cons.mpr ⟨xc11_152, List.forall_mem_cons.mpr ⟨xc11_157, List.forall_mem_cons.mpr ⟨xc11_163, List.forall_mem_cons.mpr ⟨xc11_167, List.forall_mem_cons.mpr ⟨xc11_170, List.forall_mem_cons.mpr ⟨xc11_173, List.forall_mem_cons.mpr ⟨xc11_176, List.forall_mem_cons.mpr ⟨xc11_179, List.forall_mem_cons.mpr ⟨xc11_182, List.forall_mem_cons.mpr ⟨xc11_186, List.forall_mem_cons.mpr ⟨xc11_193, List.forall_mem_cons.mpr ⟨xc11_199, List.forall_mem_cons.mpr ⟨xc11_202, List.forall_mem_cons.mpr ⟨xc11_206, List.forall_mem_cons.mpr ⟨xc11_212, List.forall_mem_cons.mpr ⟨xc11_215, List.forall_mem_cons.mpr ⟨xc11_218, List.forall_mem_cons.mpr ⟨xc11_221, List.forall_mem_cons.mpr ⟨xc11_224, List.forall_mem_cons.mpr ⟨xc11_227, List.forall_mem_cons.mpr ⟨xc11_230, List.forall_mem_cons.mpr ⟨xc11_233, List.forall_mem_cons.mpr ⟨xc11_237, List.forall_mem_cons.mpr ⟨xc11_240, List.forall_mem_cons.mpr ⟨xc11_243, List.forall_mem_cons.mpr ⟨xc11_246, List.forall_mem_cons.mpr ⟨xc11_249, List.forall_mem_cons.mpr ⟨xc11_252, List.forall_mem_cons.mpr ⟨xc11_255, List.forall_mem_cons.mpr ⟨xc11_258, List.forall_mem_cons.mpr ⟨xc11_261, List.forall_mem_cons.mpr ⟨xc11_264, List.forall_mem_cons.mpr ⟨xc11_267, List.forall_mem_cons.mpr ⟨xc11_271, List.forall_mem_cons.mpr ⟨xc11_274, List.forall_mem_cons.mpr ⟨xc11_277, List.forall_mem_cons.mpr ⟨xc11_280, List.forall_mem_cons.mpr ⟨xc11_284, List.forall_mem_cons.mpr ⟨xc11_287, List.forall_mem_cons.mpr ⟨xc11_290, List.forall_mem_cons.mpr ⟨xc11_293, List.forall_mem_cons.mpr ⟨xc11_296, List.forall_mem_cons.mpr ⟨xc11_300, List.forall_mem_cons.mpr ⟨xc11_303, List.forall_mem_cons.mpr ⟨xc11_307, List.forall_mem_cons.mpr ⟨xc11_311, List.forall_mem_cons.mpr ⟨xc11_314, List.forall_mem_cons.mpr ⟨xc11_317, List.forall_mem_cons.mpr ⟨xc11_321, List.forall_mem_cons.mpr ⟨xc11_325, List.forall_mem_cons.mpr ⟨xc11_328, List.forall_mem_cons.mpr ⟨xc11_331, List.forall_mem_cons.mpr ⟨xc11_337, List.forall_mem_cons.mpr ⟨xc11_340, List.forall_mem_cons.mpr ⟨xc11_344, List.forall_mem_cons.mpr ⟨xc11_347, List.forall_mem_cons.mpr ⟨xc12_137, List.forall_mem_cons.mpr ⟨xc12_144, List.forall_mem_cons.mpr ⟨xc12_153, List.forall_mem_cons.mpr ⟨xc12_160, List.forall_mem_cons.mpr ⟨xc12_164, List.forall_mem_cons.mpr ⟨xc12_168, List.forall_mem_cons.mpr ⟨xc12_172, List.forall_mem_cons.mpr ⟨xc12_175, List.forall_mem_cons.mpr ⟨xc12_194, List.forall_mem_cons.mpr ⟨xc12_197, List.forall_mem_cons.mpr ⟨xc12_200, List.forall_mem_cons.mpr ⟨xc12_203, List.forall_mem_cons.mpr ⟨xc12_209, List.forall_mem_cons.mpr ⟨xc12_212, List.forall_mem_cons.mpr ⟨xc12_215, List.forall_mem_cons.mpr ⟨xc12_221, List.forall_mem_cons.mpr ⟨xc12_228, List.forall_mem_cons.mpr ⟨xc12_232, List.forall_mem_cons.mpr ⟨xc12_236, List.forall_mem_cons.mpr ⟨xc12_239, List.forall_mem_cons.mpr ⟨xc12_242, List.forall_mem_cons.mpr ⟨xc12_246, List.forall_mem_cons.mpr ⟨xc12_250, List.forall_mem_cons.mpr ⟨xc12_253, List.forall_mem_cons.mpr ⟨xc12_260, List.forall_mem_cons.mpr ⟨xc12_263, List.forall_mem_cons.mpr ⟨xc12_266, List.forall_mem_cons.mpr ⟨xc12_269, List.forall_mem_cons.mpr ⟨xc12_273, List.forall_mem_cons.mpr ⟨xc12_276, List.forall_mem_cons.mpr ⟨xc12_280, List.forall_mem_cons.mpr ⟨xc12_286, List.forall_mem_cons.mpr ⟨xc12_295, List.forall_mem_cons.mpr ⟨xc12_299, List.forall_mem_cons.mpr ⟨xc12_303, List.forall_mem_cons.mpr ⟨xc12_307, List.forall_mem_cons.mpr ⟨xc12_313, List.forall_mem_cons.mpr ⟨xc12_316, List.forall_mem_cons.mpr ⟨xc12_320, List.forall_mem_cons.mpr ⟨xc12_324, List.forall_mem_cons.mpr ⟨xc12_327, List.forall_mem_cons.mpr ⟨xc12_330, List.forall_mem_cons.mpr ⟨xc12_333, List.forall_mem_cons.mpr ⟨xc12_336, List.forall_mem_cons.mpr ⟨xc12_339, List.forall_mem_cons.mpr ⟨xc12_342, List.forall_mem_cons.mpr ⟨xc12_345, List.forall_mem_cons.mpr ⟨xc12_348, List.forall_mem_cons.mpr ⟨xc12_351, List.forall_mem_cons.mpr ⟨xc12_354, List.forall_mem_cons.mpr ⟨xc12_357, List.forall_mem_cons.mpr ⟨xc12_360, List.forall_mem_cons.mpr ⟨xc12_363, List.forall_mem_cons.mpr ⟨xc12_366, List.forall_mem_cons.mpr ⟨xc12_370, List.forall_mem_cons.mpr ⟨xc12_373, List.forall_mem_cons.mpr ⟨xc12_376, List.forall_mem_cons.mpr ⟨xc12_380, List.forall_mem_cons.mpr ⟨xc12_383, List.forall_mem_cons.mpr ⟨xc12_386, List.forall_mem_cons.mpr ⟨xc12_389, List.forall_mem_cons.mpr ⟨xc12_392, List.forall_mem_cons.mpr ⟨xc12_395, List.forall_mem_cons.mpr ⟨xc12_398, List.forall_mem_cons.mpr ⟨xc12_401, List.forall_mem_cons.mpr ⟨xc12_404, List.forall_mem_cons.mpr ⟨xc12_407, List.forall_mem_cons.mpr ⟨xc12_410, List.forall_mem_cons.mpr ⟨xc12_413, List.forall_mem_cons.mpr ⟨xc12_416, List.forall_mem_cons.mpr ⟨xc12_419, List.forall_mem_cons.mpr ⟨xc12_422, List.forall_mem_cons.mpr ⟨xc15_335, List.forall_mem_cons.mpr ⟨xc15_492, List.forall_mem_cons.mpr ⟨xc15_495, List.forall_mem_cons.mpr ⟨xc15_1059, List.forall_mem_cons.mpr ⟨xc16_9, List.forall_mem_cons.mpr ⟨xc17_414, List.forall_mem_cons.mpr ⟨xc19_9, List.forall_mem_cons.mpr ⟨xc19_12, List.forall_mem_cons.mpr ⟨xc19_13, List.forall_mem_cons.mpr ⟨xc19_17, List.forall_mem_cons.mpr ⟨xc19_18, List.forall_mem_cons.mpr ⟨xc19_22, List.forall_mem_cons.mpr ⟨xc19_23, List.forall_mem_cons.mpr ⟨xc19_27, List.forall_mem_cons.mpr ⟨xc19_28, List.forall_mem_cons.mpr ⟨xc19_31, List.forall_mem_cons.mpr ⟨xc19_32, List.forall_mem_cons.mpr ⟨xc19_36, List.forall_mem_cons.mpr ⟨xc19_37, List.forall_mem_cons.mpr ⟨xc19_40, List.forall_mem_cons.mpr ⟨xc19_41, List.forall_mem_cons.mpr ⟨xc19_44, List.forall_mem_cons.mpr ⟨xc19_45, List.forall_mem_cons.mpr ⟨xc19_48, List.forall_mem_cons.mpr ⟨xc19_49, List.forall_mem_cons.mpr ⟨xc19_53, List.forall_mem_cons.mpr ⟨xc19_54, List.forall_mem_cons.mpr ⟨xc19_57, List.forall_mem_cons.mpr ⟨xc19_58, List.forall_mem_cons.mpr ⟨xc19_62, List.forall_mem_cons.mpr ⟨xc19_63, List.forall_mem_cons.mpr ⟨xc19_66, List.forall_mem_cons.mpr ⟨xc19_67, List.forall_mem_cons.mpr ⟨xc19_70, List.forall_mem_cons.mpr ⟨xc19_71, List.forall_mem_cons.mpr ⟨xc19_75, List.forall_mem_cons.mpr ⟨xc19_76, List.forall_mem_cons.mpr ⟨xc19_80, List.forall_mem_cons.mpr ⟨xc19_81, List.forall_mem_cons.mpr ⟨xc19_84, List.forall_mem_cons.mpr ⟨xc19_85, List.forall_mem_cons.mpr ⟨xc19_88, List.forall_mem_cons.mpr ⟨xc19_89, List.forall_mem_cons.mpr ⟨xc19_92, List.forall_mem_cons.mpr ⟨xc19_93, List.forall_mem_cons.mpr ⟨xc19_96, List.forall_mem_cons.mpr ⟨xc19_97, List.forall_mem_cons.mpr ⟨xc19_100, List.forall_mem_cons.mpr ⟨xc19_101, List.forall_mem_cons.mpr ⟨xc19_104, List.forall_mem_cons.mpr ⟨xc19_105, List.forall_mem_cons.mpr ⟨xc19_108, List.forall_mem_cons.mpr ⟨xc19_109, List.forall_mem_cons.mpr ⟨xc19_112, List.forall_mem_cons.mpr ⟨xc19_113, List.forall_mem_cons.mpr ⟨xc19_116, List.forall_mem_cons.mpr ⟨xc19_117, List.forall_mem_cons.mpr ⟨xc19_120, List.forall_mem_cons.mpr ⟨xc19_121, List.forall_mem_cons.mpr ⟨xc19_124, List.forall_mem_cons.mpr ⟨xc19_125, List.forall_mem_cons.mpr ⟨xc19_129, List.forall_mem_cons.mpr ⟨xc19_130, List.forall_mem_cons.mpr ⟨xc19_133, List.forall_mem_cons.mpr ⟨xc19_134, List.forall_mem_cons.mpr ⟨xc19_137, fun _ h => absurd h List.not_mem_nil⟩⟩⟩⟩⟩⟩⟩⟩⟩⟩⟩⟩⟩⟩⟩⟩⟩⟩⟩⟩⟩⟩⟩⟩⟩⟩⟩⟩⟩⟩⟩⟩⟩⟩⟩⟩⟩⟩⟩⟩⟩⟩⟩⟩⟩⟩⟩⟩⟩⟩⟩⟩⟩⟩⟩⟩⟩⟩⟩⟩⟩⟩⟩⟩⟩⟩⟩⟩⟩⟩⟩⟩⟩⟩⟩⟩⟩⟩⟩⟩⟩⟩⟩⟩⟩⟩⟩⟩⟩⟩⟩⟩⟩⟩⟩⟩⟩⟩⟩⟩⟩⟩⟩⟩⟩⟩⟩⟩⟩⟩⟩⟩⟩⟩⟩⟩⟩⟩⟩⟩⟩⟩⟩⟩⟩⟩⟩⟩⟩⟩⟩⟩⟩⟩⟩⟩⟩⟩⟩⟩⟩⟩⟩⟩⟩⟩⟩⟩⟩⟩⟩⟩⟩⟩⟩⟩⟩⟩⟩⟩⟩⟩⟩⟩⟩⟩⟩⟩⟩⟩⟩⟩⟩⟩⟩⟩⟩⟩⟩⟩⟩⟩⟩⟩⟩⟩⟩⟩⟩⟩⟩⟩⟩⟩⟩⟩⟩⟩⟩⟩⟩⟩⟩⟩⟩⟩⟩⟩⟩⟩⟩⟩⟩⟩⟩⟩⟩⟩⟩⟩⟩⟩⟩⟩⟩⟩⟩⟩⟩⟩⟩⟩⟩⟩⟩⟩⟩⟩⟩⟩⟩⟩⟩⟩⟩⟩⟩⟩⟩⟩⟩⟩⟩⟩⟩⟩⟩⟩⟩⟩⟩⟩⟩⟩⟩⟩⟩⟩⟩⟩⟩⟩⟩⟩⟩⟩⟩⟩⟩⟩⟩⟩⟩⟩⟩⟩⟩⟩⟩⟩⟩⟩⟩⟩⟩⟩⟩⟩⟩⟩⟩⟩⟩⟩⟩⟩⟩⟩⟩⟩⟩⟩⟩⟩
