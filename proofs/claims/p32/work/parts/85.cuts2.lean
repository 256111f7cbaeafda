/-! the tokens: the model cuts the text -/
theorem yzi_b {b : Nat} (hb : b < 256) {α : Type} {x y : α} : (if nI b = (9 : Int32) then x else if nI b = (10 : Int32) then x else if nI b = (13 : Int32) then x else if nI b = (32 : Int32) then x else y) = yif (ywB b) x y := by
  have e9 : nI b = (9 : Int32) ↔ b = 9 := by rw [yl9]; exact nI_eq (by omega) (by decide)
  have e10 : nI b = (10 : Int32) ↔ b = 10 := by rw [yl10]; exact nI_eq (by omega) (by decide)
  have e13 : nI b = (13 : Int32) ↔ b = 13 := by rw [yl13]; exact nI_eq (by omega) (by decide)
  have e32 : nI b = (32 : Int32) ↔ b = 32 := by rw [yl32]; exact nI_eq (by omega) (by decide)
  simp only [e9, e10, e13, e32]
  by_cases c1 : b = 9
  · rw [if_pos c1, yif_t (show ywB b from (Or.inl c1))]
  by_cases c2 : b = 10
  · rw [if_neg c1, if_pos c2, yif_t (show ywB b from (Or.inr (Or.inl c2)))]
  by_cases c3 : b = 13
  · rw [if_neg c1, if_neg c2, if_pos c3, yif_t (show ywB b from (Or.inr (Or.inr (Or.inl c3))))]
  by_cases c4 : b = 32
  · rw [if_neg c1, if_neg c2, if_neg c3, if_pos c4, yif_t (show ywB b from (Or.inr (Or.inr (Or.inr c4))))]
  rw [if_neg c1, if_neg c2, if_neg c3, if_neg c4, yif_f]
  rintro (t | t | t | t)
  · exact c1 t
  · exact c2 t
  · exact c3 t
  · exact c4 t
