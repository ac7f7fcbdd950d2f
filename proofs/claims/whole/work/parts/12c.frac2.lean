/-! FRACTIONS of the class: its operations. -/
theorem em_mul_le {a b A B : Int} (ha : 0 ≤ a) (hA : a ≤ A) (hb : 0 ≤ b) (hB : b ≤ B) : 0 ≤ a * b ∧ a * b ≤ A * B :=
  ⟨Int.mul_nonneg ha hb, Int.mul_le_mul hA hB hb (Int.le_trans ha hA)⟩
theorem fr_ok_lt {x : Int} (h : fr_ok x) : 0 ≤ x ∧ x < 4611686018427387904 := by
  obtain ⟨h1, h2, -⟩ := h
  unfold fr_up at h2
  omega
theorem fr_up_nn {x : Int} (h : fr_ok x) : 0 ≤ fr_up x := by
  have := h.1
  unfold fr_up
  omega
theorem f_upper {x : Int} (M : em_M) (h : 0 ≤ x ∧ x < 4611686018427387904) : f_Ratio_upper x M = some (fr_up x, M) := by
  rw [q_Ratio_upper, x_lshr_20 h.1 h.2]; rfl
theorem f_lower {x : Int} (M : em_M) (h : 0 ≤ x ∧ x < 4611686018427387904) : f_Ratio_lower x M = some (fr_low x, M) := by
  rw [q_Ratio_lower, x_land_20 h.1 h.2]; rfl
theorem f_isSpent (x : Int) (M : em_M) : f_Ratio_isSpent x M = some (if x < 0 then 1 else 0, M) := by
  rw [q_Ratio_isSpent]
  simp only [em_cd, x_cmp_ge]
  by_cases h : x < 0
  · rw [if_neg (by omega), if_pos h]
  · rw [if_pos (by omega), if_neg h]
theorem f_isPositive {x : Int} (M : em_M) (h : 0 ≤ x ∧ x < 4611686018427387904) : f_Ratio_isPositive x M = some (if 0 < fr_up x then 1 else 0, M) := by
  rw [q_Ratio_isPositive, f_upper M h]
  simp only [Option.bind_some, em_cd, x_cmp_le]
  by_cases q : 0 < fr_up x
  · rw [if_neg (by omega), if_pos q]
  · rw [if_pos (by omega), if_neg q]
def fr_v (x : Int) : Prop := x = -1 ∨ fr_ok x
def fr_plus (x y : Int) : Int := if x < 0 ∨ y < 0 then -1 else fr_of (fr_up x * fr_low y + fr_up y * fr_low x) (fr_low x * fr_low y)
def fr_minus (x y : Int) : Int := if x < 0 ∨ y < 0 then -1 else fr_of (fr_up x * fr_low y - fr_up y * fr_low x) (fr_low x * fr_low y)
def fr_over (x y : Int) : Int := if x < 0 ∨ y < 0 then -1 else fr_of (fr_up x * fr_low y) (fr_low x * fr_up y)
theorem f_plus_eq {x y : Int} (M : em_M) (hx : fr_v x) (hy : fr_v y) : f_Ratio_plus x y M = some (fr_plus x y, M) := by
  rw [q_Ratio_plus, f_isSpent]
  simp only [Option.bind_some, em_cd, f_isSpent]
  unfold fr_plus
  by_cases h1 : x < 0
  · rw [if_pos h1, if_pos (Or.inl h1)]; rfl
  · by_cases h2 : y < 0
    · rw [if_neg h1, if_pos h2, if_pos (Or.inr h2)]; rfl
    · rw [if_neg h1, if_neg h2, if_neg (by omega)]
      have ox : fr_ok x := hx.resolve_left (by omega)
      have oy : fr_ok y := hy.resolve_left (by omega)
      obtain ⟨-, x2, x3, x4, -⟩ := id ox
      obtain ⟨-, y2, y3, y4, -⟩ := id oy
      have x1 := fr_up_nn ox
      have y1 := fr_up_nn oy
      have m1 := em_mul_le x1 x2 (by omega : (0 : Int) ≤ fr_low y) y4
      have m2 := em_mul_le y1 y2 (by omega : (0 : Int) ≤ fr_low x) x4
      have m3 := em_mul_le (by omega : (0 : Int) ≤ fr_low x) x4 (by omega : (0 : Int) ≤ fr_low y) y4
      simp only [f_upper M (fr_ok_lt ox), f_upper M (fr_ok_lt oy), f_lower M (fr_ok_lt ox), f_lower M (fr_ok_lt oy), Option.bind_some]
      rw [x64_id (x := fr_up x * fr_low y) (by omega) (by omega), x64_id (x := fr_up y * fr_low x) (by omega) (by omega), x64_id (x := fr_low x * fr_low y) (by omega) (by omega), x64_id (by omega) (by omega), f_of_eq M (by omega) (by omega) (by omega), if_neg (by omega : ¬ (x < 0 ∨ y < 0)), if_pos trivial]
      rfl
theorem f_minus_eq {x y : Int} (M : em_M) (hx : fr_v x) (hy : fr_v y) : f_Ratio_minus x y M = some (fr_minus x y, M) := by
  rw [q_Ratio_minus, f_isSpent]
  simp only [Option.bind_some, em_cd, f_isSpent]
  unfold fr_minus
  by_cases h1 : x < 0
  · rw [if_pos h1, if_pos (Or.inl h1)]; rfl
  · by_cases h2 : y < 0
    · rw [if_neg h1, if_pos h2, if_pos (Or.inr h2)]; rfl
    · rw [if_neg h1, if_neg h2, if_neg (by omega)]
      have ox : fr_ok x := hx.resolve_left (by omega)
      have oy : fr_ok y := hy.resolve_left (by omega)
      obtain ⟨-, x2, x3, x4, -⟩ := id ox
      obtain ⟨-, y2, y3, y4, -⟩ := id oy
      have x1 := fr_up_nn ox
      have y1 := fr_up_nn oy
      have m1 := em_mul_le x1 x2 (by omega : (0 : Int) ≤ fr_low y) y4
      have m2 := em_mul_le y1 y2 (by omega : (0 : Int) ≤ fr_low x) x4
      have m3 := em_mul_le (by omega : (0 : Int) ≤ fr_low x) x4 (by omega : (0 : Int) ≤ fr_low y) y4
      simp only [f_upper M (fr_ok_lt ox), f_upper M (fr_ok_lt oy), f_lower M (fr_ok_lt ox), f_lower M (fr_ok_lt oy), Option.bind_some]
      rw [x64_id (x := fr_up x * fr_low y) (by omega) (by omega), x64_id (x := fr_up y * fr_low x) (by omega) (by omega), x64_id (x := fr_low x * fr_low y) (by omega) (by omega), x64_id (by omega) (by omega), f_of_eq M (by omega) (by omega) (by omega), if_neg (by omega : ¬ (x < 0 ∨ y < 0)), if_pos trivial]
      rfl
theorem f_over_eq {x y : Int} (M : em_M) (hx : fr_v x) (hy : fr_v y) : f_Ratio_over x y M = some (fr_over x y, M) := by
  rw [q_Ratio_over, f_isSpent]
  simp only [Option.bind_some, em_cd, f_isSpent]
  unfold fr_over
  by_cases h1 : x < 0
  · rw [if_pos h1, if_pos (Or.inl h1)]; rfl
  · by_cases h2 : y < 0
    · rw [if_neg h1, if_pos h2, if_pos (Or.inr h2)]; rfl
    · rw [if_neg h1, if_neg h2, if_neg (by omega)]
      have ox : fr_ok x := hx.resolve_left (by omega)
      have oy : fr_ok y := hy.resolve_left (by omega)
      obtain ⟨-, x2, x3, x4, -⟩ := id ox
      obtain ⟨-, y2, y3, y4, -⟩ := id oy
      have x1 := fr_up_nn ox
      have y1 := fr_up_nn oy
      have m1 := em_mul_le x1 x2 (by omega : (0 : Int) ≤ fr_low y) y4
      have m2 := em_mul_le (by omega : (0 : Int) ≤ fr_low x) x4 y1 y2
      simp only [f_upper M (fr_ok_lt ox), f_upper M (fr_ok_lt oy), f_lower M (fr_ok_lt ox), f_lower M (fr_ok_lt oy), Option.bind_some]
      rw [x64_id (x := fr_up x * fr_low y) (by omega) (by omega), x64_id (x := fr_low x * fr_up y) (by omega) (by omega), f_of_eq M (by omega) (by omega) (by omega), if_neg (by omega : ¬ (x < 0 ∨ y < 0)), if_pos trivial]
      rfl
theorem f_isAbove_eq {x y : Int} (M : em_M) (ox : fr_ok x) (oy : fr_ok y) : f_Ratio_isAbove x y M = some (if fr_up y * fr_low x < fr_up x * fr_low y then 1 else 0, M) := by
  rw [q_Ratio_isAbove]
  obtain ⟨-, x2, x3, x4, -⟩ := id ox
  obtain ⟨-, y2, y3, y4, -⟩ := id oy
  have x1 := fr_up_nn ox
  have y1 := fr_up_nn oy
  have m1 := em_mul_le x1 x2 (by omega : (0 : Int) ≤ fr_low y) y4
  have m2 := em_mul_le y1 y2 (by omega : (0 : Int) ≤ fr_low x) x4
  simp only [f_upper M (fr_ok_lt ox), f_upper M (fr_ok_lt oy), f_lower M (fr_ok_lt ox), f_lower M (fr_ok_lt oy), Option.bind_some, em_cd, x_cmp_le]
  rw [x64_id (x := fr_up x * fr_low y) (by omega) (by omega), x64_id (x := fr_up y * fr_low x) (by omega) (by omega)]
  by_cases q : fr_up y * fr_low x < fr_up x * fr_low y
  · rw [if_neg (by omega), if_pos q]
  · rw [if_pos (by omega), if_neg q]
theorem f_lesser_eq {x y : Int} (M : em_M) (ox : fr_ok x) (oy : fr_ok y) : f_Ratio_lesser x y M = some (if fr_up y * fr_low x < fr_up x * fr_low y then y else x, M) := by
  rw [q_Ratio_lesser, f_isAbove_eq M ox oy]
  simp only [Option.bind_some, em_cd]
  by_cases q : fr_up y * fr_low x < fr_up x * fr_low y
  · rw [if_pos q, if_pos q]; rfl
  · rw [if_neg q, if_neg q]; rfl
