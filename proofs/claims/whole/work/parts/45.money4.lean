/-! MONEY: legacies. -/
theorem fr_of_cross {a b t : Int} (ha : 0 ≤ a) (hb : 0 < b) (h : fr_of a b = t) (ht : 0 ≤ t) : fr_up t * b = a * fr_low t := by
  unfold fr_of at h
  rw [if_neg (by omega), if_neg (by omega)] at h
  by_cases q : 1000000000000 < a / (Int.gcd a b : Int) ∨ 1000000 < b / (Int.gcd a b : Int)
  · rw [if_pos q] at h
    omega
  · rw [if_neg q] at h
    have hg0 : 0 < Int.gcd a b := Int.gcd_pos_of_ne_zero_right a (by omega)
    have hl0 : 0 ≤ b / (Int.gcd a b : Int) := Int.ediv_nonneg (by omega) (by omega)
    rw [← h, fr_up_pack hl0 (by omega), fr_low_pack hl0 (by omega)]
    have e1 : (Int.gcd a b : Int) * (a / (Int.gcd a b : Int)) = a := Int.mul_ediv_cancel' (Int.gcd_dvd_left a b)
    have e2 : (Int.gcd a b : Int) * (b / (Int.gcd a b : Int)) = b := Int.mul_ediv_cancel' (Int.gcd_dvd_right a b)
    generalize (Int.gcd a b : Int) = g at e1 e2
    generalize ha' : a / g = x at e1
    generalize hb' : b / g = y at e2
    rw [← e1, ← e2, Int.mul_comm g x, Int.mul_comm g y, Int.mul_assoc, Int.mul_comm y g]
/-- a part of x that is 1 at most is x at most -/
theorem fr_times_le {x y t : Int} (ox : fr_ok x) (oy : fr_ok y) (hy : fr_up y ≤ fr_low y) (h : fr_times x y = t) (ht : 0 ≤ t) : fr_up t * fr_low x ≤ fr_up x * fr_low t := by
  unfold fr_times at h
  rw [if_neg (by have := ox.1; have := oy.1; omega)] at h
  have x1 := fr_up_nn ox
  have y1 := fr_up_nn oy
  obtain ⟨-, -, x3, -, -⟩ := ox
  obtain ⟨-, -, y3, -, -⟩ := oy
  have hc := fr_of_cross (Int.mul_nonneg x1 y1) (Int.mul_pos (by omega) (by omega)) h ht
  have hlt : 0 ≤ fr_low t := by unfold fr_low; omega
  have h1 : fr_up x * fr_up y * fr_low t ≤ fr_up x * fr_low y * fr_low t := Int.mul_le_mul_of_nonneg_right (Int.mul_le_mul_of_nonneg_left hy x1) hlt
  have h2 : (fr_up t * fr_low x) * fr_low y ≤ (fr_up x * fr_low t) * fr_low y := by
    have e1 : (fr_up t * fr_low x) * fr_low y = fr_up t * (fr_low x * fr_low y) := Int.mul_assoc _ _ _
    have e2 : (fr_up x * fr_low t) * fr_low y = fr_up x * fr_low y * fr_low t := by rw [Int.mul_assoc, Int.mul_comm (fr_low t), ← Int.mul_assoc]
    rw [e1, e2, hc]
    exact h1
  exact Int.le_of_mul_le_mul_right h2 (by omega)
theorem mSt.one {s f u : Int} (h : mSt 1 s f u) : s = 1 := by
  rcases h.2 with ⟨-, h2, -⟩ | ⟨h1, -⟩
  · omega
  · exact h1
/-- of an operation on a flag of 0: it was done, or it was SPENT -/
theorem mSt.zero {s0 s f u : Int} (h : mSt s0 s f u) (h0 : s0 = 0) : (s = 0 ∧ u = f ∧ fr_ok f) ∨ (s = 1 ∧ f = -1) := by
  rcases h.2 with ⟨h1, h2, h3⟩ | ⟨h1, h2⟩
  · exact Or.inl ⟨h1, h3.symm, by rw [h3]; exact h.1⟩
  · exact Or.inr ⟨h1, by omega⟩
section
variable {M N : em_M}
theorem md_fr_res1 (hs : mSp N) {f : Int} (hf : fr_v f) : ∃ u, mRes N (md_fr N f) f u ∧ ((md_fr N f) 439 44 = 1 → u = 1) := by
  by_cases h : N 439 44 = 0 ∧ 0 ≤ f
  · obtain ⟨u, hu⟩ := md_fr_res hs hf
    refine ⟨u, hu, fun z => ?_⟩
    rcases hu.1.2 with ⟨h1, -⟩ | ⟨-, h2⟩
    · omega
    · omega
  · refine ⟨1, ?_, fun _ => rfl⟩
    unfold md_fr
    rw [if_neg h]
    unfold md_set mRes
    refine ⟨⟨fr_ok_1.1, Or.inr ⟨by simp (disch := omega) only [xup_ne, xup_eq], ?_⟩⟩, ?_, fun c j hc => by simp (disch := omega) only [xup_ne]⟩
    · rcases hs with z | z
      · rcases hf with y | y
        · exact Or.inr y
        · have := y.1
          omega
      · exact Or.inl z
    · rw [fr_ok_1.2.1, fr_ok_1.2.2]
      simp (disch := omega) only [xup_ne, xup_eq, and_self]
theorem m_times1 (hs : mSp N) {x y a b c d : Int} (ox : fr_ok x) (oy : fr_ok y) (ha : a = fr_up x) (hb : b = fr_low x) (hc : c = fr_up y) (hd : d = fr_low y) : ∃ u N', f_Model_times a b c d N = some (0, N') ∧ mRes N N' (fr_times x y) u ∧ (N' 439 44 = 1 → u = 1) := by
  subst ha hb hc hd
  obtain ⟨u, h, h2⟩ := md_fr_res1 hs (fr_v_times x y)
  exact ⟨u, _, m_times N hs ox oy, h, h2⟩
/-- the end of wills: x is what is given, 1 at most, if nothing is SPENT -/
theorem m_387 {G x a b : Int} (hs : mSp N) (hG : fr_is N G (N 439 100) (N 439 101)) (hx : fr_is N x a b) (hle : N 439 44 = 0 → fr_up x ≤ fr_low x) : ∃ u v s N', f_Model_wills_387 a b N = some (0, N') ∧ mSt (N 439 44) s (fr_times G x) u ∧ mSt s (N' 439 44) (fr_minus G u) v ∧ (N' 439 98 = fr_up u ∧ N' 439 99 = fr_low u) ∧ (N' 439 100 = fr_up v ∧ N' 439 101 = fr_low v) ∧ ∀ c j, ¬ (c = 439 ∧ ((44 ≤ j ∧ j ≤ 46) ∨ (98 ≤ j ∧ j ≤ 101))) → N' c j = N c j := by
  obtain ⟨u, A, a1, ⟨a2, a3, a4⟩, a5⟩ := m_times1 hs hG.1 hx.1 hG.2.1 hG.2.2 hx.2.1 hx.2.2
  generalize hX : xup (xup A 439 98 (A 439 45)) 439 99 (A 439 46) = X
  have x1 : ∀ c j, ¬ (c = 439 ∧ ((44 ≤ j ∧ j ≤ 46) ∨ j = 98 ∨ j = 99)) → X c j = N c j := fun c j hc => by rw [← hX, xup_ne (by omega), xup_ne (by omega), a4 c j (by omega)]
  have x2 : X 439 44 = A 439 44 ∧ X 439 45 = fr_up u ∧ X 439 46 = fr_low u ∧ X 439 98 = fr_up u ∧ X 439 99 = fr_low u := by
    rw [← hX]
    simp (disch := omega) only [xup_ne, xup_eq, a3, and_self]
  have hle2 : fr_up u * fr_low G ≤ fr_up G * fr_low u := by
    rcases a2.sp with z | z
    · rcases a2.2 with ⟨-, y2, y3⟩ | ⟨y1, -⟩
      · exact fr_times_le hG.1 hx.1 (hle y2) y3 a2.1.1
      · omega
    · rw [a5 z, fr_ok_1.2.1, Int.zero_mul]
      have := fr_up_nn hG.1
      rw [fr_ok_1.2.2, Int.mul_one]
      exact this
  obtain ⟨v, B, b1, b2', b3, b4⟩ := m_minus' (N := X) (by unfold mSp; rw [x2.1]; exact a2.sp) hG.1 a2.1 hle2 ((x1 439 100 (by omega)).trans hG.2.1) ((x1 439 101 (by omega)).trans hG.2.2) x2.2.1 x2.2.2.1
  refine ⟨u, v, A 439 44, xup (xup B 439 100 (B 439 45)) 439 101 (B 439 46), ?_, a2, ?_, ?_, ?_, fun c j hc => ?_⟩
  · rw [q_Model_wills_387, a1]
    simp (disch := omega) only [Option.bind_some, xup_ne] at hX ⊢
    rw [hX]
    have x98 := x2.2.2.2
    have xx : X 439 45 = A 439 45 ∧ X 439 46 = A 439 46 ∧ X 439 100 = A 439 100 ∧ X 439 101 = A 439 101 := by
      rw [← hX]
      simp (disch := omega) only [xup_ne, and_self]
    rw [xx.1, xx.2.1, xx.2.2.1, xx.2.2.2] at b1
    rw [b1]
    simp (disch := omega) only [Option.bind_some, xup_ne]
  · simp (disch := omega) only [xup_ne]
    rw [← x2.1]
    exact b2'
  · rw [xup_ne (by omega), xup_ne (by omega), xup_ne (by omega), xup_ne (by omega), b4 _ _ (by omega), b4 _ _ (by omega)]
    exact x2.2.2.2
  · rw [xup_ne (by omega), xup_eq, xup_eq]
    exact b3
  · rw [xup_ne (by omega), xup_ne (by omega), b4 c j (by omega), x1 c j (by omega)]
end
