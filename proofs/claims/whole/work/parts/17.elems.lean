/-! elements of rows of references -/
theorem hr_el15 {a j : Nat} (h : hr_K a = 15) : hr_el (hr_K a) a j = a + 2 + 9 * j := by rw [h]; rfl
theorem hr_el16 {a j : Nat} (h : hr_K a = 16) : hr_el (hr_K a) a j = a + 19 + 4 * j := by rw [h]; rfl
theorem hr_el17 {a j : Nat} (h : hr_K a = 17) : hr_el (hr_K a) a j = a + 1 + 55 * j := by rw [h]; rfl
theorem hr_el18 {a j : Nat} (h : hr_K a = 18) : hr_el (hr_K a) a j = a + 1 + j := by rw [h]; rfl
