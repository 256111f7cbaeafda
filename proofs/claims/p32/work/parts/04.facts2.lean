/-- what the tables say of a field: of a class of the list, by its place; of a String -/
def xff (e : Nat × Nat × Nat × Nat × Nat) : Prop := match e with
  | (o, q, ci, j, c) => (c < 4 → Cond.fieldLink (xcn o) q (xTN ci j).1 (xTN ci j).2.1 (xTN ci j).2.2.1 ∈ xALL ∧ xoc ci ∧ j < xnsl ci ∧ (c = 0 → xtyf ci j = .int) ∧ (c = 1 → xtyf ci j = .boolean) ∧ (c < 2 → (xTN ci j).2.2.2 = false) ∧ (c = 2 → (xTN ci j).2.2.2 = false) ∧ (c = 3 → (xTN ci j).2.2.2 = true ∧ (xTN ci j).1 = xcn ci) ∧ (2 ≤ c → (xtyf ci j).isReference = true)) ∧ (c = 10 → Cond.fieldLink (xcn o) q "java/lang/String" "value" "[B" ∈ xALL) ∧ (c = 11 → Cond.fieldLink (xcn o) q "java/lang/String" "coder" "B" ∈ xALL) ∧ (c = 12 → Cond.fieldLink (xcn o) q "java/lang/String" "COMPACT_STRINGS" "Z" ∈ xALL) ∧ (c = 13 → Cond.fieldLink (xcn o) q "jdk/internal/util/Preconditions" "SIOOBE_FORMATTER" "Ljava/util/function/BiFunction;" ∈ xALL)
set_option maxRecDepth 20000 in
theorem xf0_12 : xff (0, 12, 0, 0, 3) := ⟨fun _ => ⟨xin 188 rfl rfl, by decide, by decide, fun h => absurd h (by decide), fun h => absurd h (by decide), fun h => absurd h (by decide), fun h => absurd h (by decide), fun _ => ⟨rfl, rfl⟩, fun _ => rfl⟩, fun h => absurd h (by decide), fun h => absurd h (by decide), fun h => absurd h (by decide), fun h => absurd h (by decide)⟩
set_option maxRecDepth 20000 in
theorem xf0_18 : xff (0, 18, 0, 1, 3) := ⟨fun _ => ⟨xin 189 rfl rfl, by decide, by decide, fun h => absurd h (by decide), fun h => absurd h (by decide), fun h => absurd h (by decide), fun h => absurd h (by decide), fun _ => ⟨rfl, rfl⟩, fun _ => rfl⟩, fun h => absurd h (by decide), fun h => absurd h (by decide), fun h => absurd h (by decide), fun h => absurd h (by decide)⟩
set_option maxRecDepth 20000 in
theorem xf0_22 : xff (0, 22, 0, 2, 3) := ⟨fun _ => ⟨xin 190 rfl rfl, by decide, by decide, fun h => absurd h (by decide), fun h => absurd h (by decide), fun h => absurd h (by decide), fun h => absurd h (by decide), fun _ => ⟨rfl, rfl⟩, fun _ => rfl⟩, fun h => absurd h (by decide), fun h => absurd h (by decide), fun h => absurd h (by decide), fun h => absurd h (by decide)⟩
set_option maxRecDepth 20000 in
theorem xf0_25 : xff (0, 25, 0, 3, 3) := ⟨fun _ => ⟨xin 192 rfl rfl, by decide, by decide, fun h => absurd h (by decide), fun h => absurd h (by decide), fun h => absurd h (by decide), fun h => absurd h (by decide), fun _ => ⟨rfl, rfl⟩, fun _ => rfl⟩, fun h => absurd h (by decide), fun h => absurd h (by decide), fun h => absurd h (by decide), fun h => absurd h (by decide)⟩
set_option maxRecDepth 20000 in
theorem xf0_28 : xff (0, 28, 0, 4, 0) := ⟨fun _ => ⟨xin 193 rfl rfl, by decide, by decide, fun _ => rfl, fun h => absurd h (by decide), fun _ => rfl, fun h => absurd h (by decide), fun h => absurd h (by decide), fun h => absurd h (by decide)⟩, fun h => absurd h (by decide), fun h => absurd h (by decide), fun h => absurd h (by decide), fun h => absurd h (by decide)⟩
set_option maxRecDepth 20000 in
theorem xf0_48 : xff (0, 48, 6, 2, 0) := ⟨fun _ => ⟨xin 155 rfl rfl, by decide, by decide, fun _ => rfl, fun h => absurd h (by decide), fun _ => rfl, fun h => absurd h (by decide), fun h => absurd h (by decide), fun h => absurd h (by decide)⟩, fun h => absurd h (by decide), fun h => absurd h (by decide), fun h => absurd h (by decide), fun h => absurd h (by decide)⟩
set_option maxRecDepth 20000 in
theorem xf0_51 : xff (0, 51, 6, 1, 3) := ⟨fun _ => ⟨xin 152 rfl rfl, by decide, by decide, fun h => absurd h (by decide), fun h => absurd h (by decide), fun h => absurd h (by decide), fun h => absurd h (by decide), fun _ => ⟨rfl, rfl⟩, fun _ => rfl⟩, fun h => absurd h (by decide), fun h => absurd h (by decide), fun h => absurd h (by decide), fun h => absurd h (by decide)⟩
set_option maxRecDepth 20000 in
theorem xf1_12 : xff (1, 12, 1, 0, 3) := ⟨fun _ => ⟨xin 164 rfl rfl, by decide, by decide, fun h => absurd h (by decide), fun h => absurd h (by decide), fun h => absurd h (by decide), fun h => absurd h (by decide), fun _ => ⟨rfl, rfl⟩, fun _ => rfl⟩, fun h => absurd h (by decide), fun h => absurd h (by decide), fun h => absurd h (by decide), fun h => absurd h (by decide)⟩
set_option maxRecDepth 20000 in
theorem xf1_18 : xff (1, 18, 1, 1, 3) := ⟨fun _ => ⟨xin 165 rfl rfl, by decide, by decide, fun h => absurd h (by decide), fun h => absurd h (by decide), fun h => absurd h (by decide), fun h => absurd h (by decide), fun _ => ⟨rfl, rfl⟩, fun _ => rfl⟩, fun h => absurd h (by decide), fun h => absurd h (by decide), fun h => absurd h (by decide), fun h => absurd h (by decide)⟩
set_option maxRecDepth 20000 in
theorem xf1_22 : xff (1, 22, 1, 2, 3) := ⟨fun _ => ⟨xin 166 rfl rfl, by decide, by decide, fun h => absurd h (by decide), fun h => absurd h (by decide), fun h => absurd h (by decide), fun h => absurd h (by decide), fun _ => ⟨rfl, rfl⟩, fun _ => rfl⟩, fun h => absurd h (by decide), fun h => absurd h (by decide), fun h => absurd h (by decide), fun h => absurd h (by decide)⟩
set_option maxRecDepth 20000 in
theorem xf1_25 : xff (1, 25, 1, 3, 0) := ⟨fun _ => ⟨xin 167 rfl rfl, by decide, by decide, fun _ => rfl, fun h => absurd h (by decide), fun _ => rfl, fun h => absurd h (by decide), fun h => absurd h (by decide), fun h => absurd h (by decide)⟩, fun h => absurd h (by decide), fun h => absurd h (by decide), fun h => absurd h (by decide), fun h => absurd h (by decide)⟩
set_option maxRecDepth 20000 in
theorem xf1_29 : xff (1, 29, 1, 4, 0) := ⟨fun _ => ⟨xin 168 rfl rfl, by decide, by decide, fun _ => rfl, fun h => absurd h (by decide), fun _ => rfl, fun h => absurd h (by decide), fun h => absurd h (by decide), fun h => absurd h (by decide)⟩, fun h => absurd h (by decide), fun h => absurd h (by decide), fun h => absurd h (by decide), fun h => absurd h (by decide)⟩
set_option maxRecDepth 20000 in
theorem xf1_44 : xff (1, 44, 6, 2, 0) := ⟨fun _ => ⟨xin 154 rfl rfl, by decide, by decide, fun _ => rfl, fun h => absurd h (by decide), fun _ => rfl, fun h => absurd h (by decide), fun h => absurd h (by decide), fun h => absurd h (by decide)⟩, fun h => absurd h (by decide), fun h => absurd h (by decide), fun h => absurd h (by decide), fun h => absurd h (by decide)⟩
set_option maxRecDepth 20000 in
theorem xf1_47 : xff (1, 47, 6, 1, 3) := ⟨fun _ => ⟨xin 153 rfl rfl, by decide, by decide, fun h => absurd h (by decide), fun h => absurd h (by decide), fun h => absurd h (by decide), fun h => absurd h (by decide), fun _ => ⟨rfl, rfl⟩, fun _ => rfl⟩, fun h => absurd h (by decide), fun h => absurd h (by decide), fun h => absurd h (by decide), fun h => absurd h (by decide)⟩
set_option maxRecDepth 20000 in
theorem xf1_58 : xff (1, 58, 6, 0, 3) := ⟨fun _ => ⟨xin 150 rfl rfl, by decide, by decide, fun h => absurd h (by decide), fun h => absurd h (by decide), fun h => absurd h (by decide), fun h => absurd h (by decide), fun _ => ⟨rfl, rfl⟩, fun _ => rfl⟩, fun h => absurd h (by decide), fun h => absurd h (by decide), fun h => absurd h (by decide), fun h => absurd h (by decide)⟩
set_option maxRecDepth 20000 in
theorem xf2_9 : xff (2, 9, 2, 0, 3) := ⟨fun _ => ⟨xin 239 rfl rfl, by decide, by decide, fun h => absurd h (by decide), fun h => absurd h (by decide), fun h => absurd h (by decide), fun h => absurd h (by decide), fun _ => ⟨rfl, rfl⟩, fun _ => rfl⟩, fun h => absurd h (by decide), fun h => absurd h (by decide), fun h => absurd h (by decide), fun h => absurd h (by decide)⟩
set_option maxRecDepth 20000 in
theorem xf2_21 : xff (2, 21, 3, 2, 3) := ⟨fun _ => ⟨xin 54 rfl rfl, by decide, by decide, fun h => absurd h (by decide), fun h => absurd h (by decide), fun h => absurd h (by decide), fun h => absurd h (by decide), fun _ => ⟨rfl, rfl⟩, fun _ => rfl⟩, fun h => absurd h (by decide), fun h => absurd h (by decide), fun h => absurd h (by decide), fun h => absurd h (by decide)⟩
set_option maxRecDepth 20000 in
theorem xf3_9 : xff (3, 9, 3, 2, 3) := ⟨fun _ => ⟨xin 51 rfl rfl, by decide, by decide, fun h => absurd h (by decide), fun h => absurd h (by decide), fun h => absurd h (by decide), fun h => absurd h (by decide), fun _ => ⟨rfl, rfl⟩, fun _ => rfl⟩, fun h => absurd h (by decide), fun h => absurd h (by decide), fun h => absurd h (by decide), fun h => absurd h (by decide)⟩
set_option maxRecDepth 20000 in
theorem xf3_15 : xff (3, 15, 3, 0, 0) := ⟨fun _ => ⟨xin 46 rfl rfl, by decide, by decide, fun _ => rfl, fun h => absurd h (by decide), fun _ => rfl, fun h => absurd h (by decide), fun h => absurd h (by decide), fun h => absurd h (by decide)⟩, fun h => absurd h (by decide), fun h => absurd h (by decide), fun h => absurd h (by decide), fun h => absurd h (by decide)⟩
set_option maxRecDepth 20000 in
theorem xf3_43 : xff (3, 43, 3, 1, 1) := ⟨fun _ => ⟨xin 49 rfl rfl, by decide, by decide, fun h => absurd h (by decide), fun _ => rfl, fun _ => rfl, fun h => absurd h (by decide), fun h => absurd h (by decide), fun h => absurd h (by decide)⟩, fun h => absurd h (by decide), fun h => absurd h (by decide), fun h => absurd h (by decide), fun h => absurd h (by decide)⟩
set_option maxRecDepth 20000 in
theorem xf4_11 : xff (4, 11, 4, 0, 3) := ⟨fun _ => ⟨xin 126 rfl rfl, by decide, by decide, fun h => absurd h (by decide), fun h => absurd h (by decide), fun h => absurd h (by decide), fun h => absurd h (by decide), fun _ => ⟨rfl, rfl⟩, fun _ => rfl⟩, fun h => absurd h (by decide), fun h => absurd h (by decide), fun h => absurd h (by decide), fun h => absurd h (by decide)⟩
set_option maxRecDepth 20000 in
theorem xf4_16 : xff (4, 16, 4, 1, 0) := ⟨fun _ => ⟨xin 127 rfl rfl, by decide, by decide, fun _ => rfl, fun h => absurd h (by decide), fun _ => rfl, fun h => absurd h (by decide), fun h => absurd h (by decide), fun h => absurd h (by decide)⟩, fun h => absurd h (by decide), fun h => absurd h (by decide), fun h => absurd h (by decide), fun h => absurd h (by decide)⟩
set_option maxRecDepth 20000 in
theorem xf4_24 : xff (4, 24, 4, 2, 0) := ⟨fun _ => ⟨xin 128 rfl rfl, by decide, by decide, fun _ => rfl, fun h => absurd h (by decide), fun _ => rfl, fun h => absurd h (by decide), fun h => absurd h (by decide), fun h => absurd h (by decide)⟩, fun h => absurd h (by decide), fun h => absurd h (by decide), fun h => absurd h (by decide), fun h => absurd h (by decide)⟩
set_option maxRecDepth 20000 in
theorem xf5_9 : xff (5, 9, 5, 0, 3) := ⟨fun _ => ⟨xin 211 rfl rfl, by decide, by decide, fun h => absurd h (by decide), fun h => absurd h (by decide), fun h => absurd h (by decide), fun h => absurd h (by decide), fun _ => ⟨rfl, rfl⟩, fun _ => rfl⟩, fun h => absurd h (by decide), fun h => absurd h (by decide), fun h => absurd h (by decide), fun h => absurd h (by decide)⟩
set_option maxRecDepth 20000 in
theorem xf5_15 : xff (5, 15, 5, 1, 3) := ⟨fun _ => ⟨xin 212 rfl rfl, by decide, by decide, fun h => absurd h (by decide), fun h => absurd h (by decide), fun h => absurd h (by decide), fun h => absurd h (by decide), fun _ => ⟨rfl, rfl⟩, fun _ => rfl⟩, fun h => absurd h (by decide), fun h => absurd h (by decide), fun h => absurd h (by decide), fun h => absurd h (by decide)⟩
set_option maxRecDepth 20000 in
theorem xf5_18 : xff (5, 18, 5, 2, 3) := ⟨fun _ => ⟨xin 213 rfl rfl, by decide, by decide, fun h => absurd h (by decide), fun h => absurd h (by decide), fun h => absurd h (by decide), fun h => absurd h (by decide), fun _ => ⟨rfl, rfl⟩, fun _ => rfl⟩, fun h => absurd h (by decide), fun h => absurd h (by decide), fun h => absurd h (by decide), fun h => absurd h (by decide)⟩
set_option maxRecDepth 20000 in
theorem xf5_21 : xff (5, 21, 5, 3, 3) := ⟨fun _ => ⟨xin 214 rfl rfl, by decide, by decide, fun h => absurd h (by decide), fun h => absurd h (by decide), fun h => absurd h (by decide), fun h => absurd h (by decide), fun _ => ⟨rfl, rfl⟩, fun _ => rfl⟩, fun h => absurd h (by decide), fun h => absurd h (by decide), fun h => absurd h (by decide), fun h => absurd h (by decide)⟩
set_option maxRecDepth 20000 in
theorem xf5_24 : xff (5, 24, 5, 4, 3) := ⟨fun _ => ⟨xin 215 rfl rfl, by decide, by decide, fun h => absurd h (by decide), fun h => absurd h (by decide), fun h => absurd h (by decide), fun h => absurd h (by decide), fun _ => ⟨rfl, rfl⟩, fun _ => rfl⟩, fun h => absurd h (by decide), fun h => absurd h (by decide), fun h => absurd h (by decide), fun h => absurd h (by decide)⟩
set_option maxRecDepth 20000 in
theorem xf5_27 : xff (5, 27, 5, 5, 3) := ⟨fun _ => ⟨xin 216 rfl rfl, by decide, by decide, fun h => absurd h (by decide), fun h => absurd h (by decide), fun h => absurd h (by decide), fun h => absurd h (by decide), fun _ => ⟨rfl, rfl⟩, fun _ => rfl⟩, fun h => absurd h (by decide), fun h => absurd h (by decide), fun h => absurd h (by decide), fun h => absurd h (by decide)⟩
set_option maxRecDepth 20000 in
theorem xf5_36 : xff (5, 36, 5, 6, 0) := ⟨fun _ => ⟨xin 217 rfl rfl, by decide, by decide, fun _ => rfl, fun h => absurd h (by decide), fun _ => rfl, fun h => absurd h (by decide), fun h => absurd h (by decide), fun h => absurd h (by decide)⟩, fun h => absurd h (by decide), fun h => absurd h (by decide), fun h => absurd h (by decide), fun h => absurd h (by decide)⟩
set_option maxRecDepth 20000 in
theorem xf5_40 : xff (5, 40, 0, 2, 3) := ⟨fun _ => ⟨xin 191 rfl rfl, by decide, by decide, fun h => absurd h (by decide), fun h => absurd h (by decide), fun h => absurd h (by decide), fun h => absurd h (by decide), fun _ => ⟨rfl, rfl⟩, fun _ => rfl⟩, fun h => absurd h (by decide), fun h => absurd h (by decide), fun h => absurd h (by decide), fun h => absurd h (by decide)⟩
set_option maxRecDepth 20000 in
theorem xf6_9 : xff (6, 9, 6, 0, 3) := ⟨fun _ => ⟨xin 149 rfl rfl, by decide, by decide, fun h => absurd h (by decide), fun h => absurd h (by decide), fun h => absurd h (by decide), fun h => absurd h (by decide), fun _ => ⟨rfl, rfl⟩, fun _ => rfl⟩, fun h => absurd h (by decide), fun h => absurd h (by decide), fun h => absurd h (by decide), fun h => absurd h (by decide)⟩
set_option maxRecDepth 20000 in
theorem xf6_15 : xff (6, 15, 6, 1, 3) := ⟨fun _ => ⟨xin 151 rfl rfl, by decide, by decide, fun h => absurd h (by decide), fun h => absurd h (by decide), fun h => absurd h (by decide), fun h => absurd h (by decide), fun _ => ⟨rfl, rfl⟩, fun _ => rfl⟩, fun h => absurd h (by decide), fun h => absurd h (by decide), fun h => absurd h (by decide), fun h => absurd h (by decide)⟩
set_option maxRecDepth 20000 in
theorem xf6_22 : xff (6, 22, 6, 2, 0) := ⟨fun _ => ⟨xin 156 rfl rfl, by decide, by decide, fun _ => rfl, fun h => absurd h (by decide), fun _ => rfl, fun h => absurd h (by decide), fun h => absurd h (by decide), fun h => absurd h (by decide)⟩, fun h => absurd h (by decide), fun h => absurd h (by decide), fun h => absurd h (by decide), fun h => absurd h (by decide)⟩
set_option maxRecDepth 20000 in
theorem xf7_11 : xff (7, 11, 7, 0, 3) := ⟨fun _ => ⟨xin 65 rfl rfl, by decide, by decide, fun h => absurd h (by decide), fun h => absurd h (by decide), fun h => absurd h (by decide), fun h => absurd h (by decide), fun _ => ⟨rfl, rfl⟩, fun _ => rfl⟩, fun h => absurd h (by decide), fun h => absurd h (by decide), fun h => absurd h (by decide), fun h => absurd h (by decide)⟩
set_option maxRecDepth 20000 in
theorem xf7_15 : xff (7, 15, 7, 3, 0) := ⟨fun _ => ⟨xin 70 rfl rfl, by decide, by decide, fun _ => rfl, fun h => absurd h (by decide), fun _ => rfl, fun h => absurd h (by decide), fun h => absurd h (by decide), fun h => absurd h (by decide)⟩, fun h => absurd h (by decide), fun h => absurd h (by decide), fun h => absurd h (by decide), fun h => absurd h (by decide)⟩
set_option maxRecDepth 20000 in
theorem xf7_22 : xff (7, 22, 7, 4, 3) := ⟨fun _ => ⟨xin 71 rfl rfl, by decide, by decide, fun h => absurd h (by decide), fun h => absurd h (by decide), fun h => absurd h (by decide), fun h => absurd h (by decide), fun _ => ⟨rfl, rfl⟩, fun _ => rfl⟩, fun h => absurd h (by decide), fun h => absurd h (by decide), fun h => absurd h (by decide), fun h => absurd h (by decide)⟩
set_option maxRecDepth 20000 in
theorem xf7_26 : xff (7, 26, 7, 5, 3) := ⟨fun _ => ⟨xin 73 rfl rfl, by decide, by decide, fun h => absurd h (by decide), fun h => absurd h (by decide), fun h => absurd h (by decide), fun h => absurd h (by decide), fun _ => ⟨rfl, rfl⟩, fun _ => rfl⟩, fun h => absurd h (by decide), fun h => absurd h (by decide), fun h => absurd h (by decide), fun h => absurd h (by decide)⟩
set_option maxRecDepth 20000 in
theorem xf7_30 : xff (7, 30, 7, 6, 3) := ⟨fun _ => ⟨xin 74 rfl rfl, by decide, by decide, fun h => absurd h (by decide), fun h => absurd h (by decide), fun h => absurd h (by decide), fun h => absurd h (by decide), fun _ => ⟨rfl, rfl⟩, fun _ => rfl⟩, fun h => absurd h (by decide), fun h => absurd h (by decide), fun h => absurd h (by decide), fun h => absurd h (by decide)⟩
set_option maxRecDepth 20000 in
theorem xf7_33 : xff (7, 33, 7, 7, 3) := ⟨fun _ => ⟨xin 75 rfl rfl, by decide, by decide, fun h => absurd h (by decide), fun h => absurd h (by decide), fun h => absurd h (by decide), fun h => absurd h (by decide), fun _ => ⟨rfl, rfl⟩, fun _ => rfl⟩, fun h => absurd h (by decide), fun h => absurd h (by decide), fun h => absurd h (by decide), fun h => absurd h (by decide)⟩
set_option maxRecDepth 20000 in
theorem xf7_37 : xff (7, 37, 7, 10, 3) := ⟨fun _ => ⟨xin 78 rfl rfl, by decide, by decide, fun h => absurd h (by decide), fun h => absurd h (by decide), fun h => absurd h (by decide), fun h => absurd h (by decide), fun _ => ⟨rfl, rfl⟩, fun _ => rfl⟩, fun h => absurd h (by decide), fun h => absurd h (by decide), fun h => absurd h (by decide), fun h => absurd h (by decide)⟩
set_option maxRecDepth 20000 in
theorem xf7_40 : xff (7, 40, 7, 11, 3) := ⟨fun _ => ⟨xin 79 rfl rfl, by decide, by decide, fun h => absurd h (by decide), fun h => absurd h (by decide), fun h => absurd h (by decide), fun h => absurd h (by decide), fun _ => ⟨rfl, rfl⟩, fun _ => rfl⟩, fun h => absurd h (by decide), fun h => absurd h (by decide), fun h => absurd h (by decide), fun h => absurd h (by decide)⟩
set_option maxRecDepth 20000 in
theorem xf7_43 : xff (7, 43, 7, 1, 0) := ⟨fun _ => ⟨xin 66 rfl rfl, by decide, by decide, fun _ => rfl, fun h => absurd h (by decide), fun _ => rfl, fun h => absurd h (by decide), fun h => absurd h (by decide), fun h => absurd h (by decide)⟩, fun h => absurd h (by decide), fun h => absurd h (by decide), fun h => absurd h (by decide), fun h => absurd h (by decide)⟩
set_option maxRecDepth 20000 in
theorem xf7_46 : xff (7, 46, 7, 2, 0) := ⟨fun _ => ⟨xin 68 rfl rfl, by decide, by decide, fun _ => rfl, fun h => absurd h (by decide), fun _ => rfl, fun h => absurd h (by decide), fun h => absurd h (by decide), fun h => absurd h (by decide)⟩, fun h => absurd h (by decide), fun h => absurd h (by decide), fun h => absurd h (by decide), fun h => absurd h (by decide)⟩
set_option maxRecDepth 20000 in
theorem xf7_55 : xff (7, 55, 7, 8, 0) := ⟨fun _ => ⟨xin 76 rfl rfl, by decide, by decide, fun _ => rfl, fun h => absurd h (by decide), fun _ => rfl, fun h => absurd h (by decide), fun h => absurd h (by decide), fun h => absurd h (by decide)⟩, fun h => absurd h (by decide), fun h => absurd h (by decide), fun h => absurd h (by decide), fun h => absurd h (by decide)⟩
set_option maxRecDepth 20000 in
theorem xf7_62 : xff (7, 62, 7, 9, 0) := ⟨fun _ => ⟨xin 77 rfl rfl, by decide, by decide, fun _ => rfl, fun h => absurd h (by decide), fun _ => rfl, fun h => absurd h (by decide), fun h => absurd h (by decide), fun h => absurd h (by decide)⟩, fun h => absurd h (by decide), fun h => absurd h (by decide), fun h => absurd h (by decide), fun h => absurd h (by decide)⟩
set_option maxRecDepth 20000 in
theorem xf7_131 : xff (7, 131, 7, 12, 0) := ⟨fun _ => ⟨xin 80 rfl rfl, by decide, by decide, fun _ => rfl, fun h => absurd h (by decide), fun _ => rfl, fun h => absurd h (by decide), fun h => absurd h (by decide), fun h => absurd h (by decide)⟩, fun h => absurd h (by decide), fun h => absurd h (by decide), fun h => absurd h (by decide), fun h => absurd h (by decide)⟩
set_option maxRecDepth 20000 in
theorem xf7_144 : xff (7, 144, 7, 14, 0) := ⟨fun _ => ⟨xin 82 rfl rfl, by decide, by decide, fun _ => rfl, fun h => absurd h (by decide), fun _ => rfl, fun h => absurd h (by decide), fun h => absurd h (by decide), fun h => absurd h (by decide)⟩, fun h => absurd h (by decide), fun h => absurd h (by decide), fun h => absurd h (by decide), fun h => absurd h (by decide)⟩
set_option maxRecDepth 20000 in
theorem xf7_147 : xff (7, 147, 3, 0, 0) := ⟨fun _ => ⟨xin 47 rfl rfl, by decide, by decide, fun _ => rfl, fun h => absurd h (by decide), fun _ => rfl, fun h => absurd h (by decide), fun h => absurd h (by decide), fun h => absurd h (by decide)⟩, fun h => absurd h (by decide), fun h => absurd h (by decide), fun h => absurd h (by decide), fun h => absurd h (by decide)⟩
set_option maxRecDepth 20000 in
theorem xf7_149 : xff (7, 149, 7, 13, 0) := ⟨fun _ => ⟨xin 81 rfl rfl, by decide, by decide, fun _ => rfl, fun h => absurd h (by decide), fun _ => rfl, fun h => absurd h (by decide), fun h => absurd h (by decide), fun h => absurd h (by decide)⟩, fun h => absurd h (by decide), fun h => absurd h (by decide), fun h => absurd h (by decide), fun h => absurd h (by decide)⟩
set_option maxRecDepth 20000 in
theorem xf8_9 : xff (8, 9, 8, 0, 3) := ⟨fun _ => ⟨xin 266 rfl rfl, by decide, by decide, fun h => absurd h (by decide), fun h => absurd h (by decide), fun h => absurd h (by decide), fun h => absurd h (by decide), fun _ => ⟨rfl, rfl⟩, fun _ => rfl⟩, fun h => absurd h (by decide), fun h => absurd h (by decide), fun h => absurd h (by decide), fun h => absurd h (by decide)⟩
set_option maxRecDepth 20000 in
theorem xf8_15 : xff (8, 15, 3, 0, 0) := ⟨fun _ => ⟨xin 44 rfl rfl, by decide, by decide, fun _ => rfl, fun h => absurd h (by decide), fun _ => rfl, fun h => absurd h (by decide), fun h => absurd h (by decide), fun h => absurd h (by decide)⟩, fun h => absurd h (by decide), fun h => absurd h (by decide), fun h => absurd h (by decide), fun h => absurd h (by decide)⟩
set_option maxRecDepth 20000 in
theorem xf8_27 : xff (8, 27, 3, 2, 3) := ⟨fun _ => ⟨xin 52 rfl rfl, by decide, by decide, fun h => absurd h (by decide), fun h => absurd h (by decide), fun h => absurd h (by decide), fun h => absurd h (by decide), fun _ => ⟨rfl, rfl⟩, fun _ => rfl⟩, fun h => absurd h (by decide), fun h => absurd h (by decide), fun h => absurd h (by decide), fun h => absurd h (by decide)⟩
set_option maxRecDepth 20000 in
theorem xf10_9 : xff (10, 9, 10, 0, 3) := ⟨fun _ => ⟨xin 250 rfl rfl, by decide, by decide, fun h => absurd h (by decide), fun h => absurd h (by decide), fun h => absurd h (by decide), fun h => absurd h (by decide), fun _ => ⟨rfl, rfl⟩, fun _ => rfl⟩, fun h => absurd h (by decide), fun h => absurd h (by decide), fun h => absurd h (by decide), fun h => absurd h (by decide)⟩
set_option maxRecDepth 20000 in
theorem xf10_15 : xff (10, 15, 10, 1, 3) := ⟨fun _ => ⟨xin 251 rfl rfl, by decide, by decide, fun h => absurd h (by decide), fun h => absurd h (by decide), fun h => absurd h (by decide), fun h => absurd h (by decide), fun _ => ⟨rfl, rfl⟩, fun _ => rfl⟩, fun h => absurd h (by decide), fun h => absurd h (by decide), fun h => absurd h (by decide), fun h => absurd h (by decide)⟩
set_option maxRecDepth 20000 in
theorem xf10_18 : xff (10, 18, 10, 2, 3) := ⟨fun _ => ⟨xin 252 rfl rfl, by decide, by decide, fun h => absurd h (by decide), fun h => absurd h (by decide), fun h => absurd h (by decide), fun h => absurd h (by decide), fun _ => ⟨rfl, rfl⟩, fun _ => rfl⟩, fun h => absurd h (by decide), fun h => absurd h (by decide), fun h => absurd h (by decide), fun h => absurd h (by decide)⟩
set_option maxRecDepth 20000 in
theorem xf10_21 : xff (10, 21, 3, 0, 0) := ⟨fun _ => ⟨xin 45 rfl rfl, by decide, by decide, fun _ => rfl, fun h => absurd h (by decide), fun _ => rfl, fun h => absurd h (by decide), fun h => absurd h (by decide), fun h => absurd h (by decide)⟩, fun h => absurd h (by decide), fun h => absurd h (by decide), fun h => absurd h (by decide), fun h => absurd h (by decide)⟩
set_option maxRecDepth 20000 in
theorem xf10_36 : xff (10, 36, 3, 2, 3) := ⟨fun _ => ⟨xin 53 rfl rfl, by decide, by decide, fun h => absurd h (by decide), fun h => absurd h (by decide), fun h => absurd h (by decide), fun h => absurd h (by decide), fun _ => ⟨rfl, rfl⟩, fun _ => rfl⟩, fun h => absurd h (by decide), fun h => absurd h (by decide), fun h => absurd h (by decide), fun h => absurd h (by decide)⟩
set_option maxRecDepth 20000 in
theorem xf11_10 : xff (11, 10, 11, 0, 3) := ⟨fun _ => ⟨xin 270 rfl rfl, by decide, by decide, fun h => absurd h (by decide), fun h => absurd h (by decide), fun h => absurd h (by decide), fun h => absurd h (by decide), fun _ => ⟨rfl, rfl⟩, fun _ => rfl⟩, fun h => absurd h (by decide), fun h => absurd h (by decide), fun h => absurd h (by decide), fun h => absurd h (by decide)⟩
set_option maxRecDepth 20000 in
theorem xf11_19 : xff (11, 19, 11, 1, 3) := ⟨fun _ => ⟨xin 271 rfl rfl, by decide, by decide, fun h => absurd h (by decide), fun h => absurd h (by decide), fun h => absurd h (by decide), fun h => absurd h (by decide), fun _ => ⟨rfl, rfl⟩, fun _ => rfl⟩, fun h => absurd h (by decide), fun h => absurd h (by decide), fun h => absurd h (by decide), fun h => absurd h (by decide)⟩
set_option maxRecDepth 20000 in
theorem xf11_23 : xff (11, 23, 11, 2, 3) := ⟨fun _ => ⟨xin 272 rfl rfl, by decide, by decide, fun h => absurd h (by decide), fun h => absurd h (by decide), fun h => absurd h (by decide), fun h => absurd h (by decide), fun _ => ⟨rfl, rfl⟩, fun _ => rfl⟩, fun h => absurd h (by decide), fun h => absurd h (by decide), fun h => absurd h (by decide), fun h => absurd h (by decide)⟩
set_option maxRecDepth 20000 in
theorem xf11_29 : xff (11, 29, 11, 3, 3) := ⟨fun _ => ⟨xin 273 rfl rfl, by decide, by decide, fun h => absurd h (by decide), fun h => absurd h (by decide), fun h => absurd h (by decide), fun h => absurd h (by decide), fun _ => ⟨rfl, rfl⟩, fun _ => rfl⟩, fun h => absurd h (by decide), fun h => absurd h (by decide), fun h => absurd h (by decide), fun h => absurd h (by decide)⟩
set_option maxRecDepth 20000 in
theorem xf11_33 : xff (11, 33, 11, 4, 3) := ⟨fun _ => ⟨xin 274 rfl rfl, by decide, by decide, fun h => absurd h (by decide), fun h => absurd h (by decide), fun h => absurd h (by decide), fun h => absurd h (by decide), fun _ => ⟨rfl, rfl⟩, fun _ => rfl⟩, fun h => absurd h (by decide), fun h => absurd h (by decide), fun h => absurd h (by decide), fun h => absurd h (by decide)⟩
set_option maxRecDepth 20000 in
theorem xf11_40 : xff (11, 40, 11, 7, 3) := ⟨fun _ => ⟨xin 277 rfl rfl, by decide, by decide, fun h => absurd h (by decide), fun h => absurd h (by decide), fun h => absurd h (by decide), fun h => absurd h (by decide), fun _ => ⟨rfl, rfl⟩, fun _ => rfl⟩, fun h => absurd h (by decide), fun h => absurd h (by decide), fun h => absurd h (by decide), fun h => absurd h (by decide)⟩
set_option maxRecDepth 20000 in
theorem xf11_44 : xff (11, 44, 11, 8, 3) := ⟨fun _ => ⟨xin 278 rfl rfl, by decide, by decide, fun h => absurd h (by decide), fun h => absurd h (by decide), fun h => absurd h (by decide), fun h => absurd h (by decide), fun _ => ⟨rfl, rfl⟩, fun _ => rfl⟩, fun h => absurd h (by decide), fun h => absurd h (by decide), fun h => absurd h (by decide), fun h => absurd h (by decide)⟩
set_option maxRecDepth 20000 in
theorem xf11_50 : xff (11, 50, 11, 9, 3) := ⟨fun _ => ⟨xin 279 rfl rfl, by decide, by decide, fun h => absurd h (by decide), fun h => absurd h (by decide), fun h => absurd h (by decide), fun h => absurd h (by decide), fun _ => ⟨rfl, rfl⟩, fun _ => rfl⟩, fun h => absurd h (by decide), fun h => absurd h (by decide), fun h => absurd h (by decide), fun h => absurd h (by decide)⟩
set_option maxRecDepth 20000 in
theorem xf11_54 : xff (11, 54, 11, 10, 3) := ⟨fun _ => ⟨xin 280 rfl rfl, by decide, by decide, fun h => absurd h (by decide), fun h => absurd h (by decide), fun h => absurd h (by decide), fun h => absurd h (by decide), fun _ => ⟨rfl, rfl⟩, fun _ => rfl⟩, fun h => absurd h (by decide), fun h => absurd h (by decide), fun h => absurd h (by decide), fun h => absurd h (by decide)⟩
set_option maxRecDepth 20000 in
theorem xf11_60 : xff (11, 60, 11, 11, 3) := ⟨fun _ => ⟨xin 281 rfl rfl, by decide, by decide, fun h => absurd h (by decide), fun h => absurd h (by decide), fun h => absurd h (by decide), fun h => absurd h (by decide), fun _ => ⟨rfl, rfl⟩, fun _ => rfl⟩, fun h => absurd h (by decide), fun h => absurd h (by decide), fun h => absurd h (by decide), fun h => absurd h (by decide)⟩
set_option maxRecDepth 20000 in
theorem xf11_67 : xff (11, 67, 11, 12, 3) := ⟨fun _ => ⟨xin 282 rfl rfl, by decide, by decide, fun h => absurd h (by decide), fun h => absurd h (by decide), fun h => absurd h (by decide), fun h => absurd h (by decide), fun _ => ⟨rfl, rfl⟩, fun _ => rfl⟩, fun h => absurd h (by decide), fun h => absurd h (by decide), fun h => absurd h (by decide), fun h => absurd h (by decide)⟩
set_option maxRecDepth 20000 in
theorem xf11_74 : xff (11, 74, 11, 13, 3) := ⟨fun _ => ⟨xin 283 rfl rfl, by decide, by decide, fun h => absurd h (by decide), fun h => absurd h (by decide), fun h => absurd h (by decide), fun h => absurd h (by decide), fun _ => ⟨rfl, rfl⟩, fun _ => rfl⟩, fun h => absurd h (by decide), fun h => absurd h (by decide), fun h => absurd h (by decide), fun h => absurd h (by decide)⟩
set_option maxRecDepth 20000 in
theorem xf11_81 : xff (11, 81, 11, 14, 3) := ⟨fun _ => ⟨xin 284 rfl rfl, by decide, by decide, fun h => absurd h (by decide), fun h => absurd h (by decide), fun h => absurd h (by decide), fun h => absurd h (by decide), fun _ => ⟨rfl, rfl⟩, fun _ => rfl⟩, fun h => absurd h (by decide), fun h => absurd h (by decide), fun h => absurd h (by decide), fun h => absurd h (by decide)⟩
set_option maxRecDepth 20000 in
theorem xf11_93 : xff (11, 93, 7, 1, 0) := ⟨fun _ => ⟨xin 67 rfl rfl, by decide, by decide, fun _ => rfl, fun h => absurd h (by decide), fun _ => rfl, fun h => absurd h (by decide), fun h => absurd h (by decide), fun h => absurd h (by decide)⟩, fun h => absurd h (by decide), fun h => absurd h (by decide), fun h => absurd h (by decide), fun h => absurd h (by decide)⟩
set_option maxRecDepth 20000 in
theorem xf11_100 : xff (11, 100, 7, 2, 0) := ⟨fun _ => ⟨xin 69 rfl rfl, by decide, by decide, fun _ => rfl, fun h => absurd h (by decide), fun _ => rfl, fun h => absurd h (by decide), fun h => absurd h (by decide), fun h => absurd h (by decide)⟩, fun h => absurd h (by decide), fun h => absurd h (by decide), fun h => absurd h (by decide), fun h => absurd h (by decide)⟩
set_option maxRecDepth 20000 in
theorem xf11_103 : xff (11, 103, 7, 4, 3) := ⟨fun _ => ⟨xin 72 rfl rfl, by decide, by decide, fun h => absurd h (by decide), fun h => absurd h (by decide), fun h => absurd h (by decide), fun h => absurd h (by decide), fun _ => ⟨rfl, rfl⟩, fun _ => rfl⟩, fun h => absurd h (by decide), fun h => absurd h (by decide), fun h => absurd h (by decide), fun h => absurd h (by decide)⟩
set_option maxRecDepth 20000 in
theorem xf11_110 : xff (11, 110, 11, 6, 1) := ⟨fun _ => ⟨xin 276 rfl rfl, by decide, by decide, fun h => absurd h (by decide), fun _ => rfl, fun _ => rfl, fun h => absurd h (by decide), fun h => absurd h (by decide), fun h => absurd h (by decide)⟩, fun h => absurd h (by decide), fun h => absurd h (by decide), fun h => absurd h (by decide), fun h => absurd h (by decide)⟩
set_option maxRecDepth 20000 in
theorem xf11_117 : xff (11, 117, 11, 5, 0) := ⟨fun _ => ⟨xin 275 rfl rfl, by decide, by decide, fun _ => rfl, fun h => absurd h (by decide), fun _ => rfl, fun h => absurd h (by decide), fun h => absurd h (by decide), fun h => absurd h (by decide)⟩, fun h => absurd h (by decide), fun h => absurd h (by decide), fun h => absurd h (by decide), fun h => absurd h (by decide)⟩
set_option maxRecDepth 20000 in
theorem xf11_160 : xff (11, 160, 3, 1, 1) := ⟨fun _ => ⟨xin 50 rfl rfl, by decide, by decide, fun h => absurd h (by decide), fun _ => rfl, fun _ => rfl, fun h => absurd h (by decide), fun h => absurd h (by decide), fun h => absurd h (by decide)⟩, fun h => absurd h (by decide), fun h => absurd h (by decide), fun h => absurd h (by decide), fun h => absurd h (by decide)⟩
set_option maxRecDepth 20000 in
theorem xf11_189 : xff (11, 189, 3, 2, 3) := ⟨fun _ => ⟨xin 55 rfl rfl, by decide, by decide, fun h => absurd h (by decide), fun h => absurd h (by decide), fun h => absurd h (by decide), fun h => absurd h (by decide), fun _ => ⟨rfl, rfl⟩, fun _ => rfl⟩, fun h => absurd h (by decide), fun h => absurd h (by decide), fun h => absurd h (by decide), fun h => absurd h (by decide)⟩
set_option maxRecDepth 20000 in
theorem xf11_322 : xff (11, 322, 3, 0, 0) := ⟨fun _ => ⟨xin 48 rfl rfl, by decide, by decide, fun _ => rfl, fun h => absurd h (by decide), fun _ => rfl, fun h => absurd h (by decide), fun h => absurd h (by decide), fun h => absurd h (by decide)⟩, fun h => absurd h (by decide), fun h => absurd h (by decide), fun h => absurd h (by decide), fun h => absurd h (by decide)⟩
set_option maxRecDepth 20000 in
theorem xf11_334 : xff (11, 334, 4, 2, 0) := ⟨fun _ => ⟨xin 129 rfl rfl, by decide, by decide, fun _ => rfl, fun h => absurd h (by decide), fun _ => rfl, fun h => absurd h (by decide), fun h => absurd h (by decide), fun h => absurd h (by decide)⟩, fun h => absurd h (by decide), fun h => absurd h (by decide), fun h => absurd h (by decide), fun h => absurd h (by decide)⟩
set_option maxRecDepth 20000 in
theorem xf15_9 : xff (15, 9, 0, 0, 10) := ⟨fun h => absurd h (by decide), fun _ => xin 1004 rfl rfl, fun h => absurd h (by decide), fun h => absurd h (by decide), fun h => absurd h (by decide)⟩
set_option maxRecDepth 20000 in
theorem xf15_15 : xff (15, 15, 0, 0, 11) := ⟨fun h => absurd h (by decide), fun h => absurd h (by decide), fun _ => xin 1005 rfl rfl, fun h => absurd h (by decide), fun h => absurd h (by decide)⟩
set_option maxRecDepth 20000 in
theorem xf15_38 : xff (15, 38, 0, 0, 12) := ⟨fun h => absurd h (by decide), fun h => absurd h (by decide), fun h => absurd h (by decide), fun _ => xin 365 rfl rfl, fun h => absurd h (by decide)⟩
set_option maxRecDepth 20000 in
theorem xf15_1053 : xff (15, 1053, 0, 0, 13) := ⟨fun h => absurd h (by decide), fun h => absurd h (by decide), fun h => absurd h (by decide), fun h => absurd h (by decide), fun _ => xin 381 rfl rfl⟩
set_option maxRecDepth 20000 in
theorem xff_all : ∀ e ∈ xflL, xff e := List.forall_mem_cons.mpr ⟨xf0_12, List.forall_mem_cons.mpr ⟨xf0_18, List.forall_mem_cons.mpr ⟨xf0_22, List.forall_mem_cons.mpr ⟨xf0_25, List.forall_mem_cons.mpr ⟨xf0_28, List.forall_mem_cons.mpr ⟨xf0_48, List.forall_mem_cons.mpr ⟨xf0_51, List.forall_mem_cons.mpr ⟨xf1_12, List.forall_mem_cons.mpr ⟨xf1_18, List.forall_mem_cons.mpr ⟨xf1_22, List.forall_mem_cons.mpr ⟨xf1_25, List.forall_mem_cons.mpr ⟨xf1_29, List.forall_mem_cons.mpr ⟨xf1_44, List.forall_mem_cons.mpr ⟨xf1_47, List.forall_mem_cons.mpr ⟨xf1_58, List.forall_mem_cons.mpr ⟨xf2_9, List.forall_mem_cons.mpr ⟨xf2_21, List.forall_mem_cons.mpr ⟨xf3_9, List.forall_mem_cons.mpr ⟨xf3_15, List.forall_mem_cons.mpr ⟨xf3_43, List.forall_mem_cons.mpr ⟨xf4_11, List.forall_mem_cons.mpr ⟨xf4_16, List.forall_mem_cons.mpr ⟨xf4_24, List.forall_mem_cons.mpr ⟨xf5_9, List.forall_mem_cons.mpr ⟨xf5_15, List.forall_mem_cons.mpr ⟨xf5_18, List.forall_mem_cons.mpr ⟨xf5_21, List.forall_mem_cons.mpr ⟨xf5_24, List.forall_mem_cons.mpr ⟨xf5_27, List.forall_mem_cons.mpr ⟨xf5_36, List.forall_mem_cons.mpr ⟨xf5_40, List.forall_mem_cons.mpr ⟨xf6_9, List.forall_mem_cons.mpr ⟨xf6_15, List.forall_mem_cons.mpr ⟨xf6_22, List.forall_mem_cons.mpr ⟨xf7_11, List.forall_mem_cons.mpr ⟨xf7_15, List.forall_mem_cons.mpr ⟨xf7_22, List.forall_mem_cons.mpr ⟨xf7_26, List.forall_mem_cons.mpr ⟨xf7_30, List.forall_mem_cons.mpr ⟨xf7_33, List.forall_mem_cons.mpr ⟨xf7_37, List.forall_mem_cons.mpr ⟨xf7_40, List.forall_mem_cons.mpr ⟨xf7_43, List.forall_mem_cons.mpr ⟨xf7_46, List.forall_mem_cons.mpr ⟨xf7_55, List.forall_mem_cons.mpr ⟨xf7_62, List.forall_mem_cons.mpr ⟨xf7_131, List.forall_mem_cons.mpr ⟨xf7_144, List.forall_mem_cons.mpr ⟨xf7_147, List.forall_mem_cons.mpr ⟨xf7_149, List.forall_mem_cons.mpr ⟨xf8_9, List.forall_mem_cons.mpr ⟨xf8_15, List.forall_mem_cons.mpr ⟨xf8_27, List.forall_mem_cons.mpr ⟨xf10_9, List.forall_mem_cons.mpr ⟨xf10_15, List.forall_mem_cons.mpr ⟨xf10_18, List.forall_mem_cons.mpr ⟨xf10_21, List.forall_mem_cons.mpr ⟨xf10_36, List.forall_mem_cons.mpr ⟨xf11_10, List.forall_mem_cons.mpr ⟨xf11_19, List.forall_mem_cons.mpr ⟨xf11_23, List.forall_mem_cons.mpr ⟨xf11_29, List.forall_mem_cons.mpr ⟨xf11_33, List.forall_mem_cons.mpr ⟨xf11_40, List.forall_mem_cons.mpr ⟨xf11_44, List.forall_mem_cons.mpr ⟨xf11_50, List.forall_mem_cons.mpr ⟨xf11_54, List.forall_mem_cons.mpr ⟨xf11_60, List.forall_mem_cons.mpr ⟨xf11_67, List.forall_mem_cons.mpr ⟨xf11_74, List.forall_mem_cons.mpr ⟨xf11_81, List.forall_mem_cons.mpr ⟨xf11_93, List.forall_mem_cons.mpr ⟨xf11_100, List.forall_mem_cons.mpr ⟨xf11_103, List.forall_mem_cons.mpr ⟨xf11_110, List.forall_mem_cons.mpr ⟨xf11_117, List.forall_mem_cons.mpr ⟨xf11_160, List.forall_mem_cons.mpr ⟨xf11_189, List.forall_mem_cons.mpr ⟨xf11_322, List.forall_mem_cons.mpr ⟨xf11_334, List.forall_mem_cons.mpr ⟨xf15_9, List.forall_mem_cons.mpr ⟨xf15_15, List.forall_mem_cons.mpr ⟨xf15_38, List.forall_mem_cons.mpr ⟨xf15_1053, fun _ h => absurd h List.not_mem_nil⟩⟩⟩⟩⟩⟩⟩⟩⟩⟩⟩⟩⟩⟩⟩⟩⟩⟩⟩⟩⟩⟩⟩⟩⟩⟩⟩⟩⟩⟩⟩⟩⟩⟩⟩⟩⟩⟩⟩⟩⟩⟩⟩⟩⟩⟩⟩⟩⟩⟩⟩⟩⟩⟩⟩⟩⟩⟩⟩⟩⟩⟩⟩⟩⟩⟩⟩⟩⟩⟩⟩⟩⟩⟩⟩⟩⟩⟩⟩⟩⟩⟩⟩⟩
def xcf (e : Nat × Nat × Nat × Nat) : Prop := match e with
  | (o, q, j, n) => j < 171 ∧ (n = 0 → Cond.methodLink (xcn o) q (xy j) ∈ xALL) ∧ (n = 1 → ∃ h, (o, q, j, h) ∈ xNL ∧ ¬ xki j = 1) ∧ n < 2
set_option maxRecDepth 20000 in
theorem xc0_11 : xcf (0, 11, 64, 1) := ⟨by decide, fun h => absurd h (by decide), fun _ => ⟨"ArrowOrders", by decide +kernel, by decide⟩, by decide⟩
set_option maxRecDepth 20000 in
theorem xc0_32 : xcf (0, 32, 147, 1) := ⟨by decide, fun h => absurd h (by decide), fun _ => ⟨"ArrowOrders", by decide +kernel, by decide⟩, by decide⟩
set_option maxRecDepth 20000 in
theorem xc0_36 : xcf (0, 36, 145, 1) := ⟨by decide, fun h => absurd h (by decide), fun _ => ⟨"ArrowOrders", by decide +kernel, by decide⟩, by decide⟩
set_option maxRecDepth 20000 in
theorem xc0_40 : xcf (0, 40, 2, 0) := ⟨by decide, fun _ => xin 624 rfl rfl, fun h => absurd h (by decide), by decide⟩
set_option maxRecDepth 20000 in
theorem xc0_44 : xcf (0, 44, 66, 0) := ⟨by decide, fun _ => xin 628 rfl rfl, fun h => absurd h (by decide), by decide⟩
set_option maxRecDepth 20000 in
theorem xc1_11 : xcf (1, 11, 64, 1) := ⟨by decide, fun h => absurd h (by decide), fun _ => ⟨"ArrowOrders", by decide +kernel, by decide⟩, by decide⟩
set_option maxRecDepth 20000 in
theorem xc1_32 : xcf (1, 32, 147, 1) := ⟨by decide, fun h => absurd h (by decide), fun _ => ⟨"ArrowOrders", by decide +kernel, by decide⟩, by decide⟩
set_option maxRecDepth 20000 in
theorem xc1_36 : xcf (1, 36, 8, 0) := ⟨by decide, fun _ => xin 591 rfl rfl, fun h => absurd h (by decide), by decide⟩
set_option maxRecDepth 20000 in
theorem xc1_40 : xcf (1, 40, 66, 0) := ⟨by decide, fun _ => xin 595 rfl rfl, fun h => absurd h (by decide), by decide⟩
set_option maxRecDepth 20000 in
theorem xc1_50 : xcf (1, 50, 13, 0) := ⟨by decide, fun _ => xin 609 rfl rfl, fun h => absurd h (by decide), by decide⟩
set_option maxRecDepth 20000 in
theorem xc1_54 : xcf (1, 54, 145, 1) := ⟨by decide, fun h => absurd h (by decide), fun _ => ⟨"ArrowOrders", by decide +kernel, by decide⟩, by decide⟩
set_option maxRecDepth 20000 in
theorem xc1_61 : xcf (1, 61, 15, 0) := ⟨by decide, fun _ => xin 927 rfl rfl, fun h => absurd h (by decide), by decide⟩
set_option maxRecDepth 20000 in
theorem xc1_64 : xcf (1, 64, 17, 0) := ⟨by decide, fun _ => xin 928 rfl rfl, fun h => absurd h (by decide), by decide⟩
set_option maxRecDepth 20000 in
theorem xc1_67 : xcf (1, 67, 65, 0) := ⟨by decide, fun _ => xin 932 rfl rfl, fun h => absurd h (by decide), by decide⟩
set_option maxRecDepth 20000 in
theorem xc2_15 : xcf (2, 15, 28, 0) := ⟨by decide, fun _ => xin 690 rfl rfl, fun h => absurd h (by decide), by decide⟩
set_option maxRecDepth 20000 in
theorem xc2_25 : xcf (2, 25, 99, 0) := ⟨by decide, fun _ => xin 691 rfl rfl, fun h => absurd h (by decide), by decide⟩
set_option maxRecDepth 20000 in
theorem xc2_31 : xcf (2, 31, 20, 0) := ⟨by decide, fun _ => xin 694 rfl rfl, fun h => absurd h (by decide), by decide⟩
set_option maxRecDepth 20000 in
theorem xc2_35 : xcf (2, 35, 21, 0) := ⟨by decide, fun _ => xin 698 rfl rfl, fun h => absurd h (by decide), by decide⟩
set_option maxRecDepth 20000 in
theorem xc2_39 : xcf (2, 39, 101, 0) := ⟨by decide, fun _ => xin 701 rfl rfl, fun h => absurd h (by decide), by decide⟩
set_option maxRecDepth 20000 in
theorem xc2_43 : xcf (2, 43, 153, 0) := ⟨by decide, fun _ => xin 708 rfl rfl, fun h => absurd h (by decide), by decide⟩
set_option maxRecDepth 20000 in
theorem xc2_49 : xcf (2, 49, 22, 0) := ⟨by decide, fun _ => xin 709 rfl rfl, fun h => absurd h (by decide), by decide⟩
set_option maxRecDepth 20000 in
theorem xc3_19 : xcf (3, 19, 24, 0) := ⟨by decide, fun _ => xin 468 rfl rfl, fun h => absurd h (by decide), by decide⟩
set_option maxRecDepth 20000 in
theorem xc3_23 : xcf (3, 23, 25, 0) := ⟨by decide, fun _ => xin 464 rfl rfl, fun h => absurd h (by decide), by decide⟩
set_option maxRecDepth 20000 in
theorem xc3_27 : xcf (3, 27, 146, 1) := ⟨by decide, fun h => absurd h (by decide), fun _ => ⟨"ArrowOrders", by decide +kernel, by decide⟩, by decide⟩
set_option maxRecDepth 20000 in
theorem xc3_30 : xcf (3, 30, 153, 0) := ⟨by decide, fun _ => xin 518 rfl rfl, fun h => absurd h (by decide), by decide⟩
set_option maxRecDepth 20000 in
theorem xc3_36 : xcf (3, 36, 145, 1) := ⟨by decide, fun h => absurd h (by decide), fun _ => ⟨"ArrowOrders", by decide +kernel, by decide⟩, by decide⟩
set_option maxRecDepth 20000 in
theorem xc3_39 : xcf (3, 39, 147, 1) := ⟨by decide, fun h => absurd h (by decide), fun _ => ⟨"ArrowOrders", by decide +kernel, by decide⟩, by decide⟩
set_option maxRecDepth 20000 in
theorem xc3_47 : xcf (3, 47, 28, 0) := ⟨by decide, fun _ => xin 510 rfl rfl, fun h => absurd h (by decide), by decide⟩
set_option maxRecDepth 20000 in
theorem xc3_51 : xcf (3, 51, 26, 0) := ⟨by decide, fun _ => xin 532 rfl rfl, fun h => absurd h (by decide), by decide⟩
set_option maxRecDepth 20000 in
theorem xc3_54 : xcf (3, 54, 34, 0) := ⟨by decide, fun _ => xin 537 rfl rfl, fun h => absurd h (by decide), by decide⟩
set_option maxRecDepth 20000 in
theorem xc4_15 : xcf (4, 15, 23, 1) := ⟨by decide, fun h => absurd h (by decide), fun _ => ⟨"ArrowOrders", by decide +kernel, by decide⟩, by decide⟩
set_option maxRecDepth 20000 in
theorem xc4_20 : xcf (4, 20, 32, 0) := ⟨by decide, fun _ => xin 494 rfl rfl, fun h => absurd h (by decide), by decide⟩
set_option maxRecDepth 20000 in
theorem xc4_27 : xcf (4, 27, 155, 0) := ⟨by decide, fun _ => xin 495 rfl rfl, fun h => absurd h (by decide), by decide⟩
set_option maxRecDepth 20000 in
theorem xc5_30 : xcf (5, 30, 155, 0) := ⟨by decide, fun _ => xin 633 rfl rfl, fun h => absurd h (by decide), by decide⟩
set_option maxRecDepth 20000 in
theorem xc5_43 : xcf (5, 43, 147, 1) := ⟨by decide, fun h => absurd h (by decide), fun _ => ⟨"ArrowOrders", by decide +kernel, by decide⟩, by decide⟩
set_option maxRecDepth 20000 in
theorem xc5_47 : xcf (5, 47, 44, 0) := ⟨by decide, fun _ => xin 635 rfl rfl, fun h => absurd h (by decide), by decide⟩
set_option maxRecDepth 20000 in
theorem xc5_50 : xcf (5, 50, 45, 0) := ⟨by decide, fun _ => xin 642 rfl rfl, fun h => absurd h (by decide), by decide⟩
set_option maxRecDepth 20000 in
theorem xc5_53 : xcf (5, 53, 154, 0) := ⟨by decide, fun _ => xin 639 rfl rfl, fun h => absurd h (by decide), by decide⟩
set_option maxRecDepth 20000 in
theorem xc5_56 : xcf (5, 56, 46, 0) := ⟨by decide, fun _ => xin 646 rfl rfl, fun h => absurd h (by decide), by decide⟩
set_option maxRecDepth 20000 in
theorem xc5_60 : xcf (5, 60, 146, 1) := ⟨by decide, fun h => absurd h (by decide), fun _ => ⟨"ArrowOrders", by decide +kernel, by decide⟩, by decide⟩
set_option maxRecDepth 20000 in
theorem xc5_63 : xcf (5, 63, 51, 0) := ⟨by decide, fun _ => xin 734 rfl rfl, fun h => absurd h (by decide), by decide⟩
set_option maxRecDepth 20000 in
theorem xc5_67 : xcf (5, 67, 153, 0) := ⟨by decide, fun _ => xin 738 rfl rfl, fun h => absurd h (by decide), by decide⟩
set_option maxRecDepth 20000 in
theorem xc5_72 : xcf (5, 72, 55, 0) := ⟨by decide, fun _ => xin 957 rfl rfl, fun h => absurd h (by decide), by decide⟩
set_option maxRecDepth 20000 in
theorem xc5_75 : xcf (5, 75, 58, 0) := ⟨by decide, fun _ => xin 766 rfl rfl, fun h => absurd h (by decide), by decide⟩
set_option maxRecDepth 20000 in
theorem xc5_79 : xcf (5, 79, 47, 0) := ⟨by decide, fun _ => xin 781 rfl rfl, fun h => absurd h (by decide), by decide⟩
set_option maxRecDepth 20000 in
theorem xc5_82 : xcf (5, 82, 60, 0) := ⟨by decide, fun _ => xin 974 rfl rfl, fun h => absurd h (by decide), by decide⟩
set_option maxRecDepth 20000 in
theorem xc5_85 : xcf (5, 85, 62, 0) := ⟨by decide, fun _ => xin 774 rfl rfl, fun h => absurd h (by decide), by decide⟩
set_option maxRecDepth 20000 in
theorem xc5_88 : xcf (5, 88, 63, 0) := ⟨by decide, fun _ => xin 777 rfl rfl, fun h => absurd h (by decide), by decide⟩
set_option maxRecDepth 20000 in
theorem xc5_92 : xcf (5, 92, 143, 1) := ⟨by decide, fun h => absurd h (by decide), fun _ => ⟨"ArrowOrders", by decide +kernel, by decide⟩, by decide⟩
set_option maxRecDepth 20000 in
theorem xc6_18 : xcf (6, 18, 146, 1) := ⟨by decide, fun h => absurd h (by decide), fun _ => ⟨"ArrowOrders", by decide +kernel, by decide⟩, by decide⟩
set_option maxRecDepth 20000 in
theorem xc6_26 : xcf (6, 26, 68, 0) := ⟨by decide, fun _ => xin 599 rfl rfl, fun h => absurd h (by decide), by decide⟩
set_option maxRecDepth 20000 in
theorem xc6_30 : xcf (6, 30, 67, 0) := ⟨by decide, fun _ => xin 603 rfl rfl, fun h => absurd h (by decide), by decide⟩
set_option maxRecDepth 20000 in
theorem xc6_34 : xcf (6, 34, 144, 1) := ⟨by decide, fun h => absurd h (by decide), fun _ => ⟨"ArrowOrders", by decide +kernel, by decide⟩, by decide⟩
set_option maxRecDepth 20000 in
theorem xc7_21 : xcf (7, 21, 23, 1) := ⟨by decide, fun h => absurd h (by decide), fun _ => ⟨"ArrowOrders", by decide +kernel, by decide⟩, by decide⟩
set_option maxRecDepth 20000 in
theorem xc7_49 : xcf (7, 49, 74, 0) := ⟨by decide, fun _ => xin 324 rfl rfl, fun h => absurd h (by decide), by decide⟩
set_option maxRecDepth 20000 in
theorem xc7_52 : xcf (7, 52, 31, 0) := ⟨by decide, fun _ => xin 433 rfl rfl, fun h => absurd h (by decide), by decide⟩
set_option maxRecDepth 20000 in
theorem xc7_58 : xcf (7, 58, 87, 0) := ⟨by decide, fun _ => xin 437 rfl rfl, fun h => absurd h (by decide), by decide⟩
set_option maxRecDepth 20000 in
theorem xc7_65 : xcf (7, 65, 77, 0) := ⟨by decide, fun _ => xin 328 rfl rfl, fun h => absurd h (by decide), by decide⟩
set_option maxRecDepth 20000 in
theorem xc7_68 : xcf (7, 68, 78, 0) := ⟨by decide, fun _ => xin 340 rfl rfl, fun h => absurd h (by decide), by decide⟩
set_option maxRecDepth 20000 in
theorem xc7_72 : xcf (7, 72, 76, 0) := ⟨by decide, fun _ => xin 412 rfl rfl, fun h => absurd h (by decide), by decide⟩
set_option maxRecDepth 20000 in
theorem xc7_76 : xcf (7, 76, 73, 0) := ⟨by decide, fun _ => xin 415 rfl rfl, fun h => absurd h (by decide), by decide⟩
set_option maxRecDepth 20000 in
theorem xc7_80 : xcf (7, 80, 75, 0) := ⟨by decide, fun _ => xin 419 rfl rfl, fun h => absurd h (by decide), by decide⟩
set_option maxRecDepth 20000 in
theorem xc7_83 : xcf (7, 83, 85, 0) := ⟨by decide, fun _ => xin 423 rfl rfl, fun h => absurd h (by decide), by decide⟩
set_option maxRecDepth 20000 in
theorem xc7_87 : xcf (7, 87, 86, 0) := ⟨by decide, fun _ => xin 427 rfl rfl, fun h => absurd h (by decide), by decide⟩
set_option maxRecDepth 20000 in
theorem xc7_90 : xcf (7, 90, 82, 0) := ⟨by decide, fun _ => xin 332 rfl rfl, fun h => absurd h (by decide), by decide⟩
set_option maxRecDepth 20000 in
theorem xc7_94 : xcf (7, 94, 83, 0) := ⟨by decide, fun _ => xin 344 rfl rfl, fun h => absurd h (by decide), by decide⟩
set_option maxRecDepth 20000 in
theorem xc7_97 : xcf (7, 97, 79, 0) := ⟨by decide, fun _ => xin 348 rfl rfl, fun h => absurd h (by decide), by decide⟩
set_option maxRecDepth 20000 in
theorem xc7_100 : xcf (7, 100, 84, 0) := ⟨by decide, fun _ => xin 408 rfl rfl, fun h => absurd h (by decide), by decide⟩
set_option maxRecDepth 20000 in
theorem xc7_103 : xcf (7, 103, 81, 0) := ⟨by decide, fun _ => xin 336 rfl rfl, fun h => absurd h (by decide), by decide⟩
set_option maxRecDepth 20000 in
theorem xc7_109 : xcf (7, 109, 80, 0) := ⟨by decide, fun _ => xin 353 rfl rfl, fun h => absurd h (by decide), by decide⟩
set_option maxRecDepth 20000 in
theorem xc7_119 : xcf (7, 119, 156, 0) := ⟨by decide, fun _ => xin 357 rfl rfl, fun h => absurd h (by decide), by decide⟩
set_option maxRecDepth 20000 in
theorem xc7_123 : xcf (7, 123, 157, 0) := ⟨by decide, fun _ => xin 367 rfl rfl, fun h => absurd h (by decide), by decide⟩
set_option maxRecDepth 20000 in
theorem xc7_134 : xcf (7, 134, 89, 0) := ⟨by decide, fun _ => xin 441 rfl rfl, fun h => absurd h (by decide), by decide⟩
set_option maxRecDepth 20000 in
theorem xc7_138 : xcf (7, 138, 90, 0) := ⟨by decide, fun _ => xin 453 rfl rfl, fun h => absurd h (by decide), by decide⟩
set_option maxRecDepth 20000 in
theorem xc7_141 : xcf (7, 141, 91, 0) := ⟨by decide, fun _ => xin 469 rfl rfl, fun h => absurd h (by decide), by decide⟩
set_option maxRecDepth 20000 in
theorem xc7_152 : xcf (7, 152, 24, 0) := ⟨by decide, fun _ => xin 449 rfl rfl, fun h => absurd h (by decide), by decide⟩
set_option maxRecDepth 20000 in
theorem xc7_155 : xcf (7, 155, 88, 0) := ⟨by decide, fun _ => xin 445 rfl rfl, fun h => absurd h (by decide), by decide⟩
set_option maxRecDepth 20000 in
theorem xc7_159 : xcf (7, 159, 146, 1) := ⟨by decide, fun h => absurd h (by decide), fun _ => ⟨"ArrowOrders", by decide +kernel, by decide⟩, by decide⟩
set_option maxRecDepth 20000 in
theorem xc7_163 : xcf (7, 163, 33, 0) := ⟨by decide, fun _ => xin 460 rfl rfl, fun h => absurd h (by decide), by decide⟩
set_option maxRecDepth 20000 in
theorem xc8_21 : xcf (8, 21, 155, 0) := ⟨by decide, fun _ => xin 819 rfl rfl, fun h => absurd h (by decide), by decide⟩
set_option maxRecDepth 20000 in
theorem xc8_30 : xcf (8, 30, 96, 0) := ⟨by decide, fun _ => xin 820 rfl rfl, fun h => absurd h (by decide), by decide⟩
set_option maxRecDepth 20000 in
theorem xc8_34 : xcf (8, 34, 94, 0) := ⟨by decide, fun _ => xin 827 rfl rfl, fun h => absurd h (by decide), by decide⟩
set_option maxRecDepth 20000 in
theorem xc8_38 : xcf (8, 38, 95, 0) := ⟨by decide, fun _ => xin 824 rfl rfl, fun h => absurd h (by decide), by decide⟩
set_option maxRecDepth 20000 in
theorem xc8_42 : xcf (8, 42, 143, 1) := ⟨by decide, fun h => absurd h (by decide), fun _ => ⟨"ArrowOrders", by decide +kernel, by decide⟩, by decide⟩
set_option maxRecDepth 20000 in
theorem xc8_46 : xcf (8, 46, 146, 1) := ⟨by decide, fun h => absurd h (by decide), fun _ => ⟨"ArrowOrders", by decide +kernel, by decide⟩, by decide⟩
set_option maxRecDepth 20000 in
theorem xc9_9 : xcf (9, 9, 146, 1) := ⟨by decide, fun h => absurd h (by decide), fun _ => ⟨"ArrowOrders", by decide +kernel, by decide⟩, by decide⟩
set_option maxRecDepth 20000 in
theorem xc9_13 : xcf (9, 13, 97, 0) := ⟨by decide, fun _ => xin 707 rfl rfl, fun h => absurd h (by decide), by decide⟩
set_option maxRecDepth 20000 in
theorem xc9_19 : xcf (9, 19, 153, 0) := ⟨by decide, fun _ => xin 742 rfl rfl, fun h => absurd h (by decide), by decide⟩
set_option maxRecDepth 20000 in
theorem xc9_25 : xcf (9, 25, 101, 0) := ⟨by decide, fun _ => xin 806 rfl rfl, fun h => absurd h (by decide), by decide⟩
set_option maxRecDepth 20000 in
theorem xc9_28 : xcf (9, 28, 102, 0) := ⟨by decide, fun _ => xin 704 rfl rfl, fun h => absurd h (by decide), by decide⟩
set_option maxRecDepth 20000 in
theorem xc9_32 : xcf (9, 32, 98, 0) := ⟨by decide, fun _ => xin 743 rfl rfl, fun h => absurd h (by decide), by decide⟩
set_option maxRecDepth 20000 in
theorem xc9_36 : xcf (9, 36, 143, 1) := ⟨by decide, fun h => absurd h (by decide), fun _ => ⟨"ArrowOrders", by decide +kernel, by decide⟩, by decide⟩
set_option maxRecDepth 20000 in
theorem xc9_40 : xcf (9, 40, 99, 0) := ⟨by decide, fun _ => xin 847 rfl rfl, fun h => absurd h (by decide), by decide⟩
set_option maxRecDepth 20000 in
theorem xc9_44 : xcf (9, 44, 100, 0) := ⟨by decide, fun _ => xin 852 rfl rfl, fun h => absurd h (by decide), by decide⟩
set_option maxRecDepth 20000 in
theorem xc10_27 : xcf (10, 27, 155, 0) := ⟨by decide, fun _ => xin 750 rfl rfl, fun h => absurd h (by decide), by decide⟩
set_option maxRecDepth 20000 in
theorem xc10_33 : xcf (10, 33, 110, 0) := ⟨by decide, fun _ => xin 751 rfl rfl, fun h => absurd h (by decide), by decide⟩
set_option maxRecDepth 20000 in
theorem xc10_39 : xcf (10, 39, 111, 0) := ⟨by decide, fun _ => xin 755 rfl rfl, fun h => absurd h (by decide), by decide⟩
set_option maxRecDepth 20000 in
theorem xc10_43 : xcf (10, 43, 113, 0) := ⟨by decide, fun _ => xin 794 rfl rfl, fun h => absurd h (by decide), by decide⟩
set_option maxRecDepth 20000 in
theorem xc11_9 : xcf (11, 9, 69, 1) := ⟨by decide, fun h => absurd h (by decide), fun _ => ⟨"ArrowOrders", by decide +kernel, by decide⟩, by decide⟩
set_option maxRecDepth 20000 in
theorem xc11_18 : xcf (11, 18, 23, 1) := ⟨by decide, fun h => absurd h (by decide), fun _ => ⟨"ArrowOrders", by decide +kernel, by decide⟩, by decide⟩
set_option maxRecDepth 20000 in
theorem xc11_28 : xcf (11, 28, 38, 0) := ⟨by decide, fun _ => xin 119 rfl rfl, fun h => absurd h (by decide), by decide⟩
set_option maxRecDepth 20000 in
theorem xc11_39 : xcf (11, 39, 6, 1) := ⟨by decide, fun h => absurd h (by decide), fun _ => ⟨"ArrowOrders", by decide +kernel, by decide⟩, by decide⟩
set_option maxRecDepth 20000 in
theorem xc11_49 : xcf (11, 49, 0, 1) := ⟨by decide, fun h => absurd h (by decide), fun _ => ⟨"ArrowOrders", by decide +kernel, by decide⟩, by decide⟩
set_option maxRecDepth 20000 in
theorem xc11_59 : xcf (11, 59, 42, 1) := ⟨by decide, fun h => absurd h (by decide), fun _ => ⟨"ArrowOrders", by decide +kernel, by decide⟩, by decide⟩
set_option maxRecDepth 20000 in
theorem xc11_66 : xcf (11, 66, 18, 1) := ⟨by decide, fun h => absurd h (by decide), fun _ => ⟨"ArrowOrders", by decide +kernel, by decide⟩, by decide⟩
set_option maxRecDepth 20000 in
theorem xc11_73 : xcf (11, 73, 107, 1) := ⟨by decide, fun h => absurd h (by decide), fun _ => ⟨"ArrowOrders", by decide +kernel, by decide⟩, by decide⟩
set_option maxRecDepth 20000 in
theorem xc11_80 : xcf (11, 80, 92, 1) := ⟨by decide, fun h => absurd h (by decide), fun _ => ⟨"ArrowOrders", by decide +kernel, by decide⟩, by decide⟩
set_option maxRecDepth 20000 in
theorem xc11_85 : xcf (11, 85, 70, 0) := ⟨by decide, fun _ => xin 868 rfl rfl, fun h => absurd h (by decide), by decide⟩
set_option maxRecDepth 20000 in
theorem xc11_89 : xcf (11, 89, 71, 0) := ⟨by decide, fun _ => xin 872 rfl rfl, fun h => absurd h (by decide), by decide⟩
set_option maxRecDepth 20000 in
theorem xc11_97 : xcf (11, 97, 72, 0) := ⟨by decide, fun _ => xin 320 rfl rfl, fun h => absurd h (by decide), by decide⟩
set_option maxRecDepth 20000 in
theorem xc11_106 : xcf (11, 106, 32, 0) := ⟨by decide, fun _ => xin 473 rfl rfl, fun h => absurd h (by decide), by decide⟩
set_option maxRecDepth 20000 in
theorem xc11_114 : xcf (11, 114, 41, 0) := ⟨by decide, fun _ => xin 477 rfl rfl, fun h => absurd h (by decide), by decide⟩
set_option maxRecDepth 20000 in
theorem xc11_123 : xcf (11, 123, 25, 0) := ⟨by decide, fun _ => xin 485 rfl rfl, fun h => absurd h (by decide), by decide⟩
set_option maxRecDepth 20000 in
theorem xc11_127 : xcf (11, 127, 148, 0) := ⟨by decide, fun _ => xin 486 rfl rfl, fun h => absurd h (by decide), by decide⟩
set_option maxRecDepth 20000 in
theorem xc11_130 : xcf (11, 130, 34, 0) := ⟨by decide, fun _ => xin 498 rfl rfl, fun h => absurd h (by decide), by decide⟩
set_option maxRecDepth 20000 in
theorem xc11_134 : xcf (11, 134, 35, 0) := ⟨by decide, fun _ => xin 506 rfl rfl, fun h => absurd h (by decide), by decide⟩
set_option maxRecDepth 20000 in
theorem xc11_137 : xcf (11, 137, 29, 0) := ⟨by decide, fun _ => xin 514 rfl rfl, fun h => absurd h (by decide), by decide⟩
set_option maxRecDepth 20000 in
theorem xc11_141 : xcf (11, 141, 36, 0) := ⟨by decide, fun _ => xin 528 rfl rfl, fun h => absurd h (by decide), by decide⟩
set_option maxRecDepth 20000 in
theorem xc11_144 : xcf (11, 144, 24, 0) := ⟨by decide, fun _ => xin 542 rfl rfl, fun h => absurd h (by decide), by decide⟩
set_option maxRecDepth 20000 in
theorem xc11_148 : xcf (11, 148, 27, 0) := ⟨by decide, fun _ => xin 543 rfl rfl, fun h => absurd h (by decide), by decide⟩
set_option maxRecDepth 20000 in
theorem xc11_152 : xcf (11, 152, 153, 0) := ⟨by decide, fun _ => xin 547 rfl rfl, fun h => absurd h (by decide), by decide⟩
set_option maxRecDepth 20000 in
theorem xc11_157 : xcf (11, 157, 37, 0) := ⟨by decide, fun _ => xin 548 rfl rfl, fun h => absurd h (by decide), by decide⟩
set_option maxRecDepth 20000 in
theorem xc11_163 : xcf (11, 163, 40, 0) := ⟨by decide, fun _ => xin 560 rfl rfl, fun h => absurd h (by decide), by decide⟩
set_option maxRecDepth 20000 in
theorem xc11_167 : xcf (11, 167, 30, 0) := ⟨by decide, fun _ => xin 568 rfl rfl, fun h => absurd h (by decide), by decide⟩
set_option maxRecDepth 20000 in
theorem xc11_170 : xcf (11, 170, 151, 0) := ⟨by decide, fun _ => xin 582 rfl rfl, fun h => absurd h (by decide), by decide⟩
set_option maxRecDepth 20000 in
theorem xc11_173 : xcf (11, 173, 9, 0) := ⟨by decide, fun _ => xin 614 rfl rfl, fun h => absurd h (by decide), by decide⟩
set_option maxRecDepth 20000 in
theorem xc11_176 : xcf (11, 176, 4, 0) := ⟨by decide, fun _ => xin 651 rfl rfl, fun h => absurd h (by decide), by decide⟩
set_option maxRecDepth 20000 in
theorem xc11_179 : xcf (11, 179, 3, 0) := ⟨by decide, fun _ => xin 655 rfl rfl, fun h => absurd h (by decide), by decide⟩
set_option maxRecDepth 20000 in
theorem xc11_182 : xcf (11, 182, 143, 0) := ⟨by decide, fun _ => xin 659 rfl rfl, fun h => absurd h (by decide), by decide⟩
set_option maxRecDepth 20000 in
theorem xc11_186 : xcf (11, 186, 146, 0) := ⟨by decide, fun _ => xin 581 rfl rfl, fun h => absurd h (by decide), by decide⟩
set_option maxRecDepth 20000 in
theorem xc11_193 : xcf (11, 193, 97, 0) := ⟨by decide, fun _ => xin 666 rfl rfl, fun h => absurd h (by decide), by decide⟩
set_option maxRecDepth 20000 in
theorem xc11_199 : xcf (11, 199, 26, 0) := ⟨by decide, fun _ => xin 898 rfl rfl, fun h => absurd h (by decide), by decide⟩
set_option maxRecDepth 20000 in
theorem xc11_202 : xcf (11, 202, 144, 0) := ⟨by decide, fun _ => xin 575 rfl rfl, fun h => absurd h (by decide), by decide⟩
set_option maxRecDepth 20000 in
theorem xc11_206 : xcf (11, 206, 65, 0) := ⟨by decide, fun _ => xin 916 rfl rfl, fun h => absurd h (by decide), by decide⟩
set_option maxRecDepth 20000 in
theorem xc11_212 : xcf (11, 212, 12, 0) := ⟨by decide, fun _ => xin 899 rfl rfl, fun h => absurd h (by decide), by decide⟩
set_option maxRecDepth 20000 in
theorem xc11_215 : xcf (11, 215, 13, 0) := ⟨by decide, fun _ => xin 903 rfl rfl, fun h => absurd h (by decide), by decide⟩
set_option maxRecDepth 20000 in
theorem xc11_218 : xcf (11, 218, 14, 0) := ⟨by decide, fun _ => xin 904 rfl rfl, fun h => absurd h (by decide), by decide⟩
set_option maxRecDepth 20000 in
theorem xc11_221 : xcf (11, 221, 15, 0) := ⟨by decide, fun _ => xin 908 rfl rfl, fun h => absurd h (by decide), by decide⟩
set_option maxRecDepth 20000 in
theorem xc11_224 : xcf (11, 224, 16, 0) := ⟨by decide, fun _ => xin 923 rfl rfl, fun h => absurd h (by decide), by decide⟩
set_option maxRecDepth 20000 in
theorem xc11_227 : xcf (11, 227, 10, 0) := ⟨by decide, fun _ => xin 678 rfl rfl, fun h => absurd h (by decide), by decide⟩
set_option maxRecDepth 20000 in
theorem xc11_230 : xcf (11, 230, 11, 0) := ⟨by decide, fun _ => xin 682 rfl rfl, fun h => absurd h (by decide), by decide⟩
set_option maxRecDepth 20000 in
theorem xc11_233 : xcf (11, 233, 19, 0) := ⟨by decide, fun _ => xin 686 rfl rfl, fun h => absurd h (by decide), by decide⟩
set_option maxRecDepth 20000 in
theorem xc11_237 : xcf (11, 237, 5, 0) := ⟨by decide, fun _ => xin 712 rfl rfl, fun h => absurd h (by decide), by decide⟩
set_option maxRecDepth 20000 in
theorem xc11_240 : xcf (11, 240, 150, 0) := ⟨by decide, fun _ => xin 716 rfl rfl, fun h => absurd h (by decide), by decide⟩
set_option maxRecDepth 20000 in
theorem xc11_243 : xcf (11, 243, 28, 0) := ⟨by decide, fun _ => xin 720 rfl rfl, fun h => absurd h (by decide), by decide⟩
set_option maxRecDepth 20000 in
theorem xc11_246 : xcf (11, 246, 101, 0) := ⟨by decide, fun _ => xin 721 rfl rfl, fun h => absurd h (by decide), by decide⟩
set_option maxRecDepth 20000 in
theorem xc11_249 : xcf (11, 249, 47, 0) := ⟨by decide, fun _ => xin 983 rfl rfl, fun h => absurd h (by decide), by decide⟩
set_option maxRecDepth 20000 in
theorem xc11_252 : xcf (11, 252, 48, 0) := ⟨by decide, fun _ => xin 940 rfl rfl, fun h => absurd h (by decide), by decide⟩
set_option maxRecDepth 20000 in
theorem xc11_255 : xcf (11, 255, 49, 0) := ⟨by decide, fun _ => xin 944 rfl rfl, fun h => absurd h (by decide), by decide⟩
set_option maxRecDepth 20000 in
theorem xc11_258 : xcf (11, 258, 50, 0) := ⟨by decide, fun _ => xin 948 rfl rfl, fun h => absurd h (by decide), by decide⟩
set_option maxRecDepth 20000 in
theorem xc11_261 : xcf (11, 261, 51, 0) := ⟨by decide, fun _ => xin 952 rfl rfl, fun h => absurd h (by decide), by decide⟩
set_option maxRecDepth 20000 in
theorem xc11_264 : xcf (11, 264, 56, 0) := ⟨by decide, fun _ => xin 953 rfl rfl, fun h => absurd h (by decide), by decide⟩
set_option maxRecDepth 20000 in
theorem xc11_267 : xcf (11, 267, 152, 0) := ⟨by decide, fun _ => xin 961 rfl rfl, fun h => absurd h (by decide), by decide⟩
set_option maxRecDepth 20000 in
theorem xc11_271 : xcf (11, 271, 54, 0) := ⟨by decide, fun _ => xin 726 rfl rfl, fun h => absurd h (by decide), by decide⟩
set_option maxRecDepth 20000 in
theorem xc11_274 : xcf (11, 274, 52, 0) := ⟨by decide, fun _ => xin 730 rfl rfl, fun h => absurd h (by decide), by decide⟩
set_option maxRecDepth 20000 in
theorem xc11_277 : xcf (11, 277, 103, 0) := ⟨by decide, fun _ => xin 739 rfl rfl, fun h => absurd h (by decide), by decide⟩
set_option maxRecDepth 20000 in
theorem xc11_280 : xcf (11, 280, 108, 0) := ⟨by decide, fun _ => xin 746 rfl rfl, fun h => absurd h (by decide), by decide⟩
set_option maxRecDepth 20000 in
theorem xc11_284 : xcf (11, 284, 53, 0) := ⟨by decide, fun _ => xin 758 rfl rfl, fun h => absurd h (by decide), by decide⟩
set_option maxRecDepth 20000 in
theorem xc11_287 : xcf (11, 287, 57, 0) := ⟨by decide, fun _ => xin 762 rfl rfl, fun h => absurd h (by decide), by decide⟩
set_option maxRecDepth 20000 in
theorem xc11_290 : xcf (11, 290, 61, 0) := ⟨by decide, fun _ => xin 770 rfl rfl, fun h => absurd h (by decide), by decide⟩
set_option maxRecDepth 20000 in
theorem xc11_293 : xcf (11, 293, 109, 0) := ⟨by decide, fun _ => xin 988 rfl rfl, fun h => absurd h (by decide), by decide⟩
set_option maxRecDepth 20000 in
theorem xc11_296 : xcf (11, 296, 55, 0) := ⟨by decide, fun _ => xin 996 rfl rfl, fun h => absurd h (by decide), by decide⟩
set_option maxRecDepth 20000 in
theorem xc11_300 : xcf (11, 300, 59, 0) := ⟨by decide, fun _ => xin 970 rfl rfl, fun h => absurd h (by decide), by decide⟩
set_option maxRecDepth 20000 in
theorem xc11_303 : xcf (11, 303, 112, 0) := ⟨by decide, fun _ => xin 790 rfl rfl, fun h => absurd h (by decide), by decide⟩
set_option maxRecDepth 20000 in
theorem xc11_307 : xcf (11, 307, 98, 0) := ⟨by decide, fun _ => xin 801 rfl rfl, fun h => absurd h (by decide), by decide⟩
set_option maxRecDepth 20000 in
theorem xc11_311 : xcf (11, 311, 99, 0) := ⟨by decide, fun _ => xin 802 rfl rfl, fun h => absurd h (by decide), by decide⟩
set_option maxRecDepth 20000 in
theorem xc11_314 : xcf (11, 314, 100, 0) := ⟨by decide, fun _ => xin 803 rfl rfl, fun h => absurd h (by decide), by decide⟩
set_option maxRecDepth 20000 in
theorem xc11_317 : xcf (11, 317, 149, 0) := ⟨by decide, fun _ => xin 811 rfl rfl, fun h => absurd h (by decide), by decide⟩
set_option maxRecDepth 20000 in
theorem xc11_321 : xcf (11, 321, 93, 0) := ⟨by decide, fun _ => xin 815 rfl rfl, fun h => absurd h (by decide), by decide⟩
set_option maxRecDepth 20000 in
theorem xc11_325 : xcf (11, 325, 105, 0) := ⟨by decide, fun _ => xin 844 rfl rfl, fun h => absurd h (by decide), by decide⟩
set_option maxRecDepth 20000 in
theorem xc11_328 : xcf (11, 328, 106, 0) := ⟨by decide, fun _ => xin 849 rfl rfl, fun h => absurd h (by decide), by decide⟩
set_option maxRecDepth 20000 in
theorem xc11_331 : xcf (11, 331, 104, 0) := ⟨by decide, fun _ => xin 853 rfl rfl, fun h => absurd h (by decide), by decide⟩
set_option maxRecDepth 20000 in
theorem xc11_337 : xcf (11, 337, 39, 0) := ⟨by decide, fun _ => xin 490 rfl rfl, fun h => absurd h (by decide), by decide⟩
set_option maxRecDepth 20000 in
theorem xc11_340 : xcf (11, 340, 7, 0) := ⟨by decide, fun _ => xin 586 rfl rfl, fun h => absurd h (by decide), by decide⟩
set_option maxRecDepth 20000 in
theorem xc11_344 : xcf (11, 344, 1, 0) := ⟨by decide, fun _ => xin 618 rfl rfl, fun h => absurd h (by decide), by decide⟩
set_option maxRecDepth 20000 in
theorem xc11_347 : xcf (11, 347, 43, 0) := ⟨by decide, fun _ => xin 629 rfl rfl, fun h => absurd h (by decide), by decide⟩
set_option maxRecDepth 20000 in
theorem xc15_335 : xcf (15, 335, 158, 0) := ⟨by decide, fun _ => xin 361 rfl rfl, fun h => absurd h (by decide), by decide⟩
set_option maxRecDepth 20000 in
theorem xc15_492 : xcf (15, 492, 159, 0) := ⟨by decide, fun _ => xin 371 rfl rfl, fun h => absurd h (by decide), by decide⟩
set_option maxRecDepth 20000 in
theorem xc15_495 : xcf (15, 495, 161, 0) := ⟨by decide, fun _ => xin 375 rfl rfl, fun h => absurd h (by decide), by decide⟩
set_option maxRecDepth 20000 in
theorem xc15_1059 : xcf (15, 1059, 162, 0) := ⟨by decide, fun _ => xin 383 rfl rfl, fun h => absurd h (by decide), by decide⟩
set_option maxRecDepth 20000 in
theorem xc16_9 : xcf (16, 9, 160, 0) := ⟨by decide, fun _ => xin 378 rfl rfl, fun h => absurd h (by decide), by decide⟩
set_option maxRecDepth 20000 in
theorem xc17_414 : xcf (17, 414, 160, 0) := ⟨by decide, fun _ => xin 395 rfl rfl, fun h => absurd h (by decide), by decide⟩
set_option maxRecDepth 20000 in
theorem xc19_7 : xcf (19, 7, 115, 0) := ⟨by decide, fun _ => xin 864 rfl rfl, fun h => absurd h (by decide), by decide⟩
set_option maxRecDepth 20000 in
theorem xc19_13 : xcf (19, 13, 116, 0) := ⟨by decide, fun _ => xin 876 rfl rfl, fun h => absurd h (by decide), by decide⟩
set_option maxRecDepth 20000 in
theorem xc19_17 : xcf (19, 17, 164, 0) := ⟨by decide, fun _ => xin 880 rfl rfl, fun h => absurd h (by decide), by decide⟩
set_option maxRecDepth 20000 in
theorem xc19_25 : xcf (19, 25, 163, 0) := ⟨by decide, fun _ => xin 861 rfl rfl, fun h => absurd h (by decide), by decide⟩
set_option maxRecDepth 20000 in
theorem xc19_33 : xcf (19, 33, 165, 0) := ⟨by decide, fun _ => xin 887 rfl rfl, fun h => absurd h (by decide), by decide⟩
set_option maxRecDepth 20000 in
theorem xc19_36 : xcf (19, 36, 142, 0) := ⟨by decide, fun _ => xin 840 rfl rfl, fun h => absurd h (by decide), by decide⟩
set_option maxRecDepth 20000 in
theorem xc19_39 : xcf (19, 39, 130, 0) := ⟨by decide, fun _ => xin 674 rfl rfl, fun h => absurd h (by decide), by decide⟩
set_option maxRecDepth 20000 in
theorem xc19_42 : xcf (19, 42, 126, 0) := ⟨by decide, fun _ => xin 670 rfl rfl, fun h => absurd h (by decide), by decide⟩
set_option maxRecDepth 20000 in
theorem xc19_45 : xcf (19, 45, 153, 0) := ⟨by decide, fun _ => xin 893 rfl rfl, fun h => absurd h (by decide), by decide⟩
set_option maxRecDepth 20000 in
theorem xc19_50 : xcf (19, 50, 124, 0) := ⟨by decide, fun _ => xin 564 rfl rfl, fun h => absurd h (by decide), by decide⟩
set_option maxRecDepth 20000 in
theorem xc19_54 : xcf (19, 54, 128, 0) := ⟨by decide, fun _ => xin 894 rfl rfl, fun h => absurd h (by decide), by decide⟩
set_option maxRecDepth 20000 in
theorem xc19_58 : xcf (19, 58, 127, 0) := ⟨by decide, fun _ => xin 912 rfl rfl, fun h => absurd h (by decide), by decide⟩
set_option maxRecDepth 20000 in
theorem xc19_62 : xcf (19, 62, 129, 0) := ⟨by decide, fun _ => xin 919 rfl rfl, fun h => absurd h (by decide), by decide⟩
set_option maxRecDepth 20000 in
theorem xc19_65 : xcf (19, 65, 133, 0) := ⟨by decide, fun _ => xin 722 rfl rfl, fun h => absurd h (by decide), by decide⟩
set_option maxRecDepth 20000 in
theorem xc19_68 : xcf (19, 68, 132, 0) := ⟨by decide, fun _ => xin 936 rfl rfl, fun h => absurd h (by decide), by decide⟩
set_option maxRecDepth 20000 in
theorem xc19_71 : xcf (19, 71, 136, 0) := ⟨by decide, fun _ => xin 965 rfl rfl, fun h => absurd h (by decide), by decide⟩
set_option maxRecDepth 20000 in
theorem xc19_73 : xcf (19, 73, 154, 0) := ⟨by decide, fun _ => xin 978 rfl rfl, fun h => absurd h (by decide), by decide⟩
set_option maxRecDepth 20000 in
theorem xc19_78 : xcf (19, 78, 131, 0) := ⟨by decide, fun _ => xin 979 rfl rfl, fun h => absurd h (by decide), by decide⟩
set_option maxRecDepth 20000 in
theorem xc19_81 : xcf (19, 81, 138, 0) := ⟨by decide, fun _ => xin 797 rfl rfl, fun h => absurd h (by decide), by decide⟩
set_option maxRecDepth 20000 in
theorem xc19_84 : xcf (19, 84, 134, 0) := ⟨by decide, fun _ => xin 984 rfl rfl, fun h => absurd h (by decide), by decide⟩
set_option maxRecDepth 20000 in
theorem xc19_87 : xcf (19, 87, 135, 0) := ⟨by decide, fun _ => xin 992 rfl rfl, fun h => absurd h (by decide), by decide⟩
set_option maxRecDepth 20000 in
theorem xc19_90 : xcf (19, 90, 114, 0) := ⟨by decide, fun _ => xin 26 rfl rfl, fun h => absurd h (by decide), by decide⟩
set_option maxRecDepth 20000 in
theorem xc19_91 : xcf (19, 91, 137, 0) := ⟨by decide, fun _ => xin 786 rfl rfl, fun h => absurd h (by decide), by decide⟩
set_option maxRecDepth 20000 in
theorem xc19_94 : xcf (19, 94, 123, 0) := ⟨by decide, fun _ => xin 556 rfl rfl, fun h => absurd h (by decide), by decide⟩
set_option maxRecDepth 20000 in
theorem xc19_98 : xcf (19, 98, 139, 0) := ⟨by decide, fun _ => xin 807 rfl rfl, fun h => absurd h (by decide), by decide⟩
set_option maxRecDepth 20000 in
theorem xc19_101 : xcf (19, 101, 166, 0) := ⟨by decide, fun _ => xin 856 rfl rfl, fun h => absurd h (by decide), by decide⟩
set_option maxRecDepth 20000 in
theorem xc19_105 : xcf (19, 105, 117, 0) := ⟨by decide, fun _ => xin 316 rfl rfl, fun h => absurd h (by decide), by decide⟩
set_option maxRecDepth 20000 in
theorem xc19_109 : xcf (19, 109, 140, 0) := ⟨by decide, fun _ => xin 832 rfl rfl, fun h => absurd h (by decide), by decide⟩
set_option maxRecDepth 20000 in
theorem xc19_113 : xcf (19, 113, 169, 0) := ⟨by decide, fun _ => xin 997 rfl rfl, fun h => absurd h (by decide), by decide⟩
set_option maxRecDepth 20000 in
theorem xc19_118 : xcf (19, 118, 167, 0) := ⟨by decide, fun _ => xin 890 rfl rfl, fun h => absurd h (by decide), by decide⟩
set_option maxRecDepth 20000 in
theorem xc19_122 : xcf (19, 122, 168, 0) := ⟨by decide, fun _ => xin 933 rfl rfl, fun h => absurd h (by decide), by decide⟩
set_option maxRecDepth 20000 in
theorem xc19_125 : xcf (19, 125, 118, 0) := ⟨by decide, fun _ => xin 481 rfl rfl, fun h => absurd h (by decide), by decide⟩
set_option maxRecDepth 20000 in
theorem xc19_129 : xcf (19, 129, 125, 0) := ⟨by decide, fun _ => xin 662 rfl rfl, fun h => absurd h (by decide), by decide⟩
set_option maxRecDepth 20000 in
theorem xc19_132 : xcf (19, 132, 170, 0) := ⟨by decide, fun _ => xin 1000 rfl rfl, fun h => absurd h (by decide), by decide⟩
set_option maxRecDepth 20000 in
theorem xc19_136 : xcf (19, 136, 119, 0) := ⟨by decide, fun _ => xin 502 rfl rfl, fun h => absurd h (by decide), by decide⟩
set_option maxRecDepth 20000 in
theorem xc19_139 : xcf (19, 139, 120, 0) := ⟨by decide, fun _ => xin 524 rfl rfl, fun h => absurd h (by decide), by decide⟩
set_option maxRecDepth 20000 in
theorem xc19_142 : xcf (19, 142, 121, 0) := ⟨by decide, fun _ => xin 538 rfl rfl, fun h => absurd h (by decide), by decide⟩
set_option maxRecDepth 20000 in
theorem xc19_145 : xcf (19, 145, 122, 0) := ⟨by decide, fun _ => xin 552 rfl rfl, fun h => absurd h (by decide), by decide⟩
set_option maxRecDepth 20000 in
theorem xc19_148 : xcf (19, 148, 141, 0) := ⟨by decide, fun _ => xin 836 rfl rfl, fun h => absurd h (by decide), by decide⟩
set_option maxRecDepth 20000 in
theorem xcf_all : ∀ e ∈ xclL, xcf e := List.forall_mem_cons.mpr ⟨xc0_11, List.forall_mem_cons.mpr ⟨xc0_32, List.forall_mem_cons.mpr ⟨xc0_36, List.forall_mem_cons.mpr ⟨xc0_40, List.forall_mem_cons.mpr ⟨xc0_44, List.forall_mem_cons.mpr ⟨xc1_11, List.forall_mem_cons.mpr ⟨xc1_32, List.forall_mem_cons.mpr ⟨xc1_36, List.forall_mem_cons.mpr ⟨xc1_40, List.forall_mem_cons.mpr ⟨xc1_50, List.forall_mem_cons.mpr ⟨xc1_54, List.forall_mem_cons.mpr ⟨xc1_61, List.forall_mem_cons.mpr ⟨xc1_64, List.forall_mem_cons.mpr ⟨xc1_67, List.forall_mem_cons.mpr ⟨xc2_15, List.forall_mem_cons.mpr ⟨xc2_25, List.forall_mem_cons.mpr ⟨xc2_31, List.forall_mem_cons.mpr ⟨xc2_35, List.forall_mem_cons.mpr ⟨xc2_39, List.forall_mem_cons.mpr ⟨xc2_43, List.forall_mem_cons.mpr ⟨xc2_49, List.forall_mem_cons.mpr ⟨xc3_19, List.forall_mem_cons.mpr ⟨xc3_23, List.forall_mem_cons.mpr ⟨xc3_27, List.forall_mem_cons.mpr ⟨xc3_30, List.forall_mem_cons.mpr ⟨xc3_36, List.forall_mem_cons.mpr ⟨xc3_39, List.forall_mem_cons.mpr ⟨xc3_47, List.forall_mem_cons.mpr ⟨xc3_51, List.forall_mem_cons.mpr ⟨xc3_54, List.forall_mem_cons.mpr ⟨xc4_15, List.forall_mem_cons.mpr ⟨xc4_20, List.forall_mem_cons.mpr ⟨xc4_27, List.forall_mem_cons.mpr ⟨xc5_30, List.forall_mem_cons.mpr ⟨xc5_43, List.forall_mem_cons.mpr ⟨xc5_47, List.forall_mem_cons.mpr ⟨xc5_50, List.forall_mem_cons.mpr ⟨xc5_53, List.forall_mem_cons.mpr ⟨xc5_56, List.forall_mem_cons.mpr ⟨xc5_60, List.forall_mem_cons.mpr ⟨xc5_63, List.forall_mem_cons.mpr ⟨xc5_67, List.forall_mem_cons.mpr ⟨xc5_72, List.forall_mem_cons.mpr ⟨xc5_75, List.forall_mem_cons.mpr ⟨xc5_79, List.forall_mem_cons.mpr ⟨xc5_82, List.forall_mem_cons.mpr ⟨xc5_85, List.forall_mem_cons.mpr ⟨xc5_88, List.forall_mem_cons.mpr ⟨xc5_92, List.forall_mem_cons.mpr ⟨xc6_18, List.forall_mem_cons.mpr ⟨xc6_26, List.forall_mem_cons.mpr ⟨xc6_30, List.forall_mem_cons.mpr ⟨xc6_34, List.forall_mem_cons.mpr ⟨xc7_21, List.forall_mem_cons.mpr ⟨xc7_49, List.forall_mem_cons.mpr ⟨xc7_52, List.forall_mem_cons.mpr ⟨xc7_58, List.forall_mem_cons.mpr ⟨xc7_65, List.forall_mem_cons.mpr ⟨xc7_68, List.forall_mem_cons.mpr ⟨xc7_72, List.forall_mem_cons.mpr ⟨xc7_76, List.forall_mem_cons.mpr ⟨xc7_80, List.forall_mem_cons.mpr ⟨xc7_83, List.forall_mem_cons.mpr ⟨xc7_87, List.forall_mem_cons.mpr ⟨xc7_90, List.forall_mem_cons.mpr ⟨xc7_94, List.forall_mem_cons.mpr ⟨xc7_97, List.forall_mem_cons.mpr ⟨xc7_100, List.forall_mem_cons.mpr ⟨xc7_103, List.forall_mem_cons.mpr ⟨xc7_109, List.forall_mem_cons.mpr ⟨xc7_119, List.forall_mem_cons.mpr ⟨xc7_123, List.forall_mem_cons.mpr ⟨xc7_134, List.forall_mem_cons.mpr ⟨xc7_138, List.forall_mem_cons.mpr ⟨xc7_141, List.forall_mem_cons.mpr ⟨xc7_152, List.forall_mem_cons.mpr ⟨xc7_155, List.forall_mem_cons.mpr ⟨xc7_159, List.forall_mem_cons.mpr ⟨xc7_163, List.forall_mem_cons.mpr ⟨xc8_21, List.forall_mem_cons.mpr ⟨xc8_30, List.forall_mem_cons.mpr ⟨xc8_34, List.forall_mem_cons.mpr ⟨xc8_38, List.forall_mem_cons.mpr ⟨xc8_42, List.forall_mem_cons.mpr ⟨xc8_46, List.forall_mem_cons.mpr ⟨xc9_9, List.forall_mem_cons.mpr ⟨xc9_13, List.forall_mem_cons.mpr ⟨xc9_19, List.forall_mem_cons.mpr ⟨xc9_25, List.forall_mem_cons.mpr ⟨xc9_28, List.forall_mem_cons.mpr ⟨xc9_32, List.forall_mem_cons.mpr ⟨xc9_36, List.forall_mem_cons.mpr ⟨xc9_40, List.forall_mem_cons.mpr ⟨xc9_44, List.forall_mem_cons.mpr ⟨xc10_27, List.forall_mem_cons.mpr ⟨xc10_33, List.forall_mem_cons.mpr ⟨xc10_39, List.forall_mem_cons.mpr ⟨xc10_43, List.forall_mem_cons.mpr ⟨xc11_9, List.forall_mem_cons.mpr ⟨xc11_18, List.forall_mem_cons.mpr ⟨xc11_28, List.forall_mem_cons.mpr ⟨xc11_39, List.forall_mem_cons.mpr ⟨xc11_49, List.forall_mem_cons.mpr ⟨xc11_59, List.forall_mem_cons.mpr ⟨xc11_66, List.forall_mem_cons.mpr ⟨xc11_73, List.forall_mem_cons.mpr ⟨xc11_80, List.forall_mem_cons.mpr ⟨xc11_85, List.forall_mem_cons.mpr ⟨xc11_89, List.forall_mem_cons.mpr ⟨xc11_97, List.forall_mem_cons.mpr ⟨xc11_106, List.forall_mem_cons.mpr ⟨xc11_114, List.forall_mem_cons.mpr ⟨xc11_123, List.forall_mem_cons.mpr ⟨xc11_127, List.forall_mem_cons.mpr ⟨xc11_130, List.forall_mem_cons.mpr ⟨xc11_134, List.forall_mem_cons.mpr ⟨xc11_137, List.forall_mem_cons.mpr ⟨xc11_141, List.forall_mem_cons.mpr ⟨xc11_144, List.forall_mem_cons.mpr ⟨xc11_148, List.forall_mem_cons.mpr ⟨xc11_152, List.forall_mem_cons.mpr ⟨xc11_157, List.forall_mem_cons.mpr ⟨xc11_163, List.forall_mem_cons.mpr ⟨xc11_167, List.forall_mem_cons.mpr ⟨xc11_170, List.forall_mem_cons.mpr ⟨xc11_173, List.forall_mem_cons.mpr ⟨xc11_176, List.forall_mem_cons.mpr ⟨xc11_179, List.forall_mem_cons.mpr ⟨xc11_182, List.forall_mem_cons.mpr ⟨xc11_186, List.forall_mem_cons.mpr ⟨xc11_193, List.forall_mem_cons.mpr ⟨xc11_199, List.forall_mem_cons.mpr ⟨xc11_202, List.forall_mem_cons.mpr ⟨xc11_206, List.forall_mem_cons.mpr ⟨xc11_212, List.forall_mem_cons.mpr ⟨xc11_215, List.forall_mem_cons.mpr ⟨xc11_218, List.forall_mem_cons.mpr ⟨xc11_221, List.forall_mem_cons.mpr ⟨xc11_224, List.forall_mem_cons.mpr ⟨xc11_227, List.forall_mem_cons.mpr ⟨xc11_230, List.forall_mem_cons.mpr ⟨xc11_233, List.forall_mem_cons.mpr ⟨xc11_237, List.forall_mem_cons.mpr ⟨xc11_240, List.forall_mem_cons.mpr ⟨xc11_243, List.forall_mem_cons.mpr ⟨xc11_246, List.forall_mem_cons.mpr ⟨xc11_249, List.forall_mem_cons.mpr ⟨xc11_252, List.forall_mem_cons.mpr ⟨xc11_255, List.forall_mem_cons.mpr ⟨xc11_258, List.forall_mem_cons.mpr ⟨xc11_261, List.forall_mem_cons.mpr ⟨xc11_264, List.forall_mem_cons.mpr ⟨xc11_267, List.forall_mem_cons.mpr ⟨xc11_271, List.forall_mem_cons.mpr ⟨xc11_274, List.forall_mem_cons.mpr ⟨xc11_277, List.forall_mem_cons.mpr ⟨xc11_280, List.forall_mem_cons.mpr ⟨xc11_284, List.forall_mem_cons.mpr ⟨xc11_287, List.forall_mem_cons.mpr ⟨xc11_290, List.forall_mem_cons.mpr ⟨xc11_293, List.forall_mem_cons.mpr ⟨xc11_296, List.forall_mem_cons.mpr ⟨xc11_300, List.forall_mem_cons.mpr ⟨xc11_303, List.forall_mem_cons.mpr ⟨xc11_307, List.forall_mem_cons.mpr ⟨xc11_311, List.forall_mem_cons.mpr ⟨xc11_314, List.forall_mem_cons.mpr ⟨xc11_317, List.forall_mem_cons.mpr ⟨xc11_321, List.forall_mem_cons.mpr ⟨xc11_325, List.forall_mem_cons.mpr ⟨xc11_328, List.forall_mem_cons.mpr ⟨xc11_331, List.forall_mem_cons.mpr ⟨xc11_337, List.forall_mem_cons.mpr ⟨xc11_340, List.forall_mem_cons.mpr ⟨xc11_344, List.forall_mem_cons.mpr ⟨xc11_347, List.forall_mem_cons.mpr ⟨xc15_335, List.forall_mem_cons.mpr ⟨xc15_492, List.forall_mem_cons.mpr ⟨xc15_495, List.forall_mem_cons.mpr ⟨xc15_1059, List.forall_mem_cons.mpr ⟨xc16_9, List.forall_mem_cons.mpr ⟨xc17_414, List.forall_mem_cons.mpr ⟨xc19_7, List.forall_mem_cons.mpr ⟨xc19_13, List.forall_mem_cons.mpr ⟨xc19_17, List.forall_mem_cons.mpr ⟨xc19_25, List.forall_mem_cons.mpr ⟨xc19_33, List.forall_mem_cons.mpr ⟨xc19_36, List.forall_mem_cons.mpr ⟨xc19_39, List.forall_mem_cons.mpr ⟨xc19_42, List.forall_mem_cons.mpr ⟨xc19_45, List.forall_mem_cons.mpr ⟨xc19_50, List.forall_mem_cons.mpr ⟨xc19_54, List.forall_mem_cons.mpr ⟨xc19_58, List.forall_mem_cons.mpr ⟨xc19_62, List.forall_mem_cons.mpr ⟨xc19_65, List.forall_mem_cons.mpr ⟨xc19_68, List.forall_mem_cons.mpr ⟨xc19_71, List.forall_mem_cons.mpr ⟨xc19_73, List.forall_mem_cons.mpr ⟨xc19_78, List.forall_mem_cons.mpr ⟨xc19_81, List.forall_mem_cons.mpr ⟨xc19_84, List.forall_mem_cons.mpr ⟨xc19_87, List.forall_mem_cons.mpr ⟨xc19_90, List.forall_mem_cons.mpr ⟨xc19_91, List.forall_mem_cons.mpr ⟨xc19_94, List.forall_mem_cons.mpr ⟨xc19_98, List.forall_mem_cons.mpr ⟨xc19_101, List.forall_mem_cons.mpr ⟨xc19_105, List.forall_mem_cons.mpr ⟨xc19_109, List.forall_mem_cons.mpr ⟨xc19_113, List.forall_mem_cons.mpr ⟨xc19_118, List.forall_mem_cons.mpr ⟨xc19_122, List.forall_mem_cons.mpr ⟨xc19_125, List.forall_mem_cons.mpr ⟨xc19_129, List.forall_mem_cons.mpr ⟨xc19_132, List.forall_mem_cons.mpr ⟨xc19_136, List.forall_mem_cons.mpr ⟨xc19_139, List.forall_mem_cons.mpr ⟨xc19_142, List.forall_mem_cons.mpr ⟨xc19_145, List.forall_mem_cons.mpr ⟨xc19_148, fun _ h => absurd h List.not_mem_nil⟩⟩⟩⟩⟩⟩⟩⟩⟩⟩⟩⟩⟩⟩⟩⟩⟩⟩⟩⟩⟩⟩⟩⟩⟩⟩⟩⟩⟩⟩⟩⟩⟩⟩⟩⟩⟩⟩⟩⟩⟩⟩⟩⟩⟩⟩⟩⟩⟩⟩⟩⟩⟩⟩⟩⟩⟩⟩⟩⟩⟩⟩⟩⟩⟩⟩⟩⟩⟩⟩⟩⟩⟩⟩⟩⟩⟩⟩⟩⟩⟩⟩⟩⟩⟩⟩⟩⟩⟩⟩⟩⟩⟩⟩⟩⟩⟩⟩⟩⟩⟩⟩⟩⟩⟩⟩⟩⟩⟩⟩⟩⟩⟩⟩⟩⟩⟩⟩⟩⟩⟩⟩⟩⟩⟩⟩⟩⟩⟩⟩⟩⟩⟩⟩⟩⟩⟩⟩⟩⟩⟩⟩⟩⟩⟩⟩⟩⟩⟩⟩⟩⟩⟩⟩⟩⟩⟩⟩⟩⟩⟩⟩⟩⟩⟩⟩⟩⟩⟩⟩⟩⟩⟩⟩⟩⟩⟩⟩⟩⟩⟩⟩⟩⟩⟩⟩⟩⟩⟩⟩⟩⟩⟩⟩⟩⟩⟩⟩⟩⟩⟩⟩⟩⟩⟩⟩⟩⟩⟩⟩⟩⟩⟩⟩⟩⟩⟩⟩⟩⟩⟩
