/-! feed of the two. -/
section
variable {M : em_M}
def tyB (v k : Int) : Int := x_i2b (x_i2b (x_shr v (24 - 8 * k)))
theorem x_i2b_rng (v : Int) : -128 ≤ x_i2b v ∧ x_i2b v ≤ 127 := by
  unfold x_i2b
  rw [Int8.toInt_toInt32]
  have h1 := Int8.le_toInt (Int32.ofInt v).toInt8
  have h2 := Int8.toInt_lt (Int32.ofInt v).toInt8
  have e : (2 : Int) ^ 7 = 128 := rfl
  omega
/-- four bytes of v lie at L in the row b, whose length stands at (a, i); nothing else changed -/
def tyP (M M' : em_M) (b a i L v : Int) : Prop := M' a i = L + 4 ∧ (∀ k, 0 ≤ k → k < 4 → M' b (L + k) = tyB v k) ∧ ∀ c j, ¬ ((c = a ∧ j = i) ∨ (c = b ∧ L ≤ j ∧ j < L + 4)) → M' c j = M c j
theorem f_add {v L : Int} (hL : M 1 1 = L) (h0 : 0 ≤ L) (h1 : L + 4 ≤ 2000) : ∃ M', f_Text_add v M = some (0, M') ∧ tyP M M' 2 1 1 L v := by
  have st : ∀ (s : Int) (A : em_M), 0 ≤ s → s ≤ 24 → 0 ≤ A 1 1 → A 1 1 < 2000 → f_Text_add_3 v s A = f_Text_add_3 v (s + -8) (xup (xup A 2 (A 1 1) (x_i2b (x_i2b (x_shr v s)))) 1 1 (A 1 1 + 1)) := by
    intro s A s0 s1 a0 a1
    rw [q_Text_add_3]
    simp (disch := omega) only [em_cd, if_neg, if_pos, xup_ne, x32_s]
  have en : ∀ A : em_M, f_Text_add_3 v (-8) A = some (0, A) := fun A => by
    rw [q_Text_add_3]
    simp (disch := omega) only [em_cd, if_pos]
  rw [q_Text_add, st 24 M (by omega) (by omega) (by omega) (by omega)]
  rw [st _ _ (by omega) (by omega) (by rw [xup_eq]; omega) (by rw [xup_eq]; omega)]
  rw [st _ _ (by omega) (by omega) (by rw [xup_eq, xup_eq]; omega) (by rw [xup_eq, xup_eq]; omega)]
  rw [st _ _ (by omega) (by omega) (by rw [xup_eq, xup_eq, xup_eq]; omega) (by rw [xup_eq, xup_eq, xup_eq]; omega)]
  rw [show (24 + -8 + -8 + -8 + -8 : Int) = -8 from rfl, en]
  refine ⟨_, rfl, ?_, fun k k0 k1 => ?_, fun c j hc => ?_⟩
  · simp only [xup_eq]; omega
  · simp only [xup_eq]
    rw [hL]
    have hk : k = 0 ∨ k = 1 ∨ k = 2 ∨ k = 3 := by omega
    rcases hk with rfl | rfl | rfl | rfl
    · simp (disch := omega) only [xup_ne, Int.add_zero, xup_eq]; rfl
    · simp (disch := omega) only [xup_ne, xup_eq]; rfl
    · rw [show L + 2 = L + 1 + 1 by omega]; simp (disch := omega) only [xup_ne, xup_eq]; rfl
    · rw [show L + 3 = L + 1 + 1 + 1 by omega]; simp (disch := omega) only [xup_ne, xup_eq]; rfl
  · simp only [xup_eq]
    rw [hL]
    simp (disch := omega) only [xup_ne]
theorem m_put {v L : Int} (hL : M 439 2 = L) (h0 : 0 ≤ L) (h1 : L + 4 ≤ 2000) : ∃ M', f_Model_put v M = some (0, M') ∧ tyP M M' 440 439 2 L v := by
  have st : ∀ (s : Int) (A : em_M), 0 ≤ s → s ≤ 24 → 0 ≤ A 439 2 → A 439 2 < 2000 → f_Model_put_3 v s A = f_Model_put_3 v (s + -8) (xup (xup A 440 (A 439 2) (x_i2b (x_i2b (x_shr v s)))) 439 2 (A 439 2 + 1)) := by
    intro s A s0 s1 a0 a1
    rw [q_Model_put_3]
    simp (disch := omega) only [em_cd, if_neg, if_pos, xup_ne, x32_s]
  have en : ∀ A : em_M, f_Model_put_3 v (-8) A = some (0, A) := fun A => by
    rw [q_Model_put_3]
    simp (disch := omega) only [em_cd, if_pos]
  rw [q_Model_put, st 24 M (by omega) (by omega) (by omega) (by omega)]
  rw [st _ _ (by omega) (by omega) (by rw [xup_eq]; omega) (by rw [xup_eq]; omega)]
  rw [st _ _ (by omega) (by omega) (by rw [xup_eq, xup_eq]; omega) (by rw [xup_eq, xup_eq]; omega)]
  rw [st _ _ (by omega) (by omega) (by rw [xup_eq, xup_eq, xup_eq]; omega) (by rw [xup_eq, xup_eq, xup_eq]; omega)]
  rw [show (24 + -8 + -8 + -8 + -8 : Int) = -8 from rfl, en]
  refine ⟨_, rfl, ?_, fun k k0 k1 => ?_, fun c j hc => ?_⟩
  · simp only [xup_eq]; omega
  · simp only [xup_eq]
    rw [hL]
    have hk : k = 0 ∨ k = 1 ∨ k = 2 ∨ k = 3 := by omega
    rcases hk with rfl | rfl | rfl | rfl
    · simp (disch := omega) only [xup_ne, Int.add_zero, xup_eq]; rfl
    · simp (disch := omega) only [xup_ne, xup_eq]; rfl
    · rw [show L + 2 = L + 1 + 1 by omega]; simp (disch := omega) only [xup_ne, xup_eq]; rfl
    · rw [show L + 3 = L + 1 + 1 + 1 by omega]; simp (disch := omega) only [xup_ne, xup_eq]; rfl
  · simp only [xup_eq]
    rw [hL]
    simp (disch := omega) only [xup_ne]
/-- the byte k of five numbers -/
def ty5 (a b c d e k : Int) : Int := if k < 4 then tyB a k else if k < 8 then tyB b (k - 4) else if k < 12 then tyB c (k - 8) else if k < 16 then tyB d (k - 12) else tyB e (k - 16)
theorem ty5_of {M0 M1 M2 M3 M4 M5 : em_M} {b a i L v1 v2 v3 v4 v5 : Int} (hba : ¬ b = a) (h1 : tyP M0 M1 b a i L v1) (h2 : tyP M1 M2 b a i (L + 4) v2) (h3 : tyP M2 M3 b a i (L + 8) v3) (h4 : tyP M3 M4 b a i (L + 12) v4) (h5 : tyP M4 M5 b a i (L + 16) v5) : M5 a i = L + 20 ∧ (∀ k, 0 ≤ k → k < 20 → M5 b (L + k) = ty5 v1 v2 v3 v4 v5 k) ∧ ∀ c j, ¬ ((c = a ∧ j = i) ∨ (c = b ∧ L ≤ j ∧ j < L + 20)) → M5 c j = M0 c j := by
  obtain ⟨a1, b1, c1⟩ := h1
  obtain ⟨a2, b2, c2⟩ := h2
  obtain ⟨a3, b3, c3⟩ := h3
  obtain ⟨a4, b4, c4⟩ := h4
  obtain ⟨a5, b5, c5⟩ := h5
  refine ⟨by omega, fun k k0 k1 => ?_, fun c j hc => ?_⟩
  · unfold ty5
    by_cases q1 : k < 4
    · rw [if_pos q1, c5 b (L + k) (by omega), c4 b (L + k) (by omega), c3 b (L + k) (by omega), c2 b (L + k) (by omega), b1 k k0 q1]
    rw [if_neg q1]
    by_cases q2 : k < 8
    · rw [if_pos q2, c5 b (L + k) (by omega), c4 b (L + k) (by omega), c3 b (L + k) (by omega), ← b2 (k - 4) (by omega) (by omega), show L + 4 + (k - 4) = L + k by omega]
    rw [if_neg q2]
    by_cases q3 : k < 12
    · rw [if_pos q3, c5 b (L + k) (by omega), c4 b (L + k) (by omega), ← b3 (k - 8) (by omega) (by omega), show L + 8 + (k - 8) = L + k by omega]
    rw [if_neg q3]
    by_cases q4 : k < 16
    · rw [if_pos q4, c5 b (L + k) (by omega), ← b4 (k - 12) (by omega) (by omega), show L + 12 + (k - 12) = L + k by omega]
    rw [if_neg q4, ← b5 (k - 16) (by omega) (by omega), show L + 16 + (k - 16) = L + k by omega]
  · rw [c5 c j (by omega), c4 c j (by omega), c3 c j (by omega), c2 c j (by omega), c1 c j (by omega)]
theorem arm_feed (h : Rel M) (a b c d e : Int) : Arm (f_EstateOffice_feed a b c d e) (f_Model_feed a b c d e) M := by
  obtain ⟨hT, hP, hD, hM, hO, hL, hW, hK, hH, hS, hN, hF⟩ := id h
  obtain ⟨t1, t2, t3, t4⟩ := hT
  generalize hLL : M 1 1 = L at t1 t2 t3 t4
  by_cases hc : L ≤ 1980
  · obtain ⟨M1, e1, k1⟩ := f_add (M := M) (v := a) hLL t2 (by omega)
    obtain ⟨M2, e2, k2⟩ := f_add (M := M1) (v := b) (L := L + 4) k1.1 (by omega) (by omega)
    obtain ⟨M3, e3, k3⟩ := f_add (M := M2) (v := c) (L := L + 8) (by rw [k2.1]; omega) (by omega) (by omega)
    obtain ⟨M4, e4, k4⟩ := f_add (M := M3) (v := d) (L := L + 12) (by rw [k3.1]; omega) (by omega) (by omega)
    obtain ⟨M5, e5, k5⟩ := f_add (M := M4) (v := e) (L := L + 16) (by rw [k4.1]; omega) (by omega) (by omega)
    obtain ⟨g1, g2, g3⟩ := ty5_of (by omega) k1 k2 k3 k4 k5
    have t5 : M5 439 2 = L := by rw [g3 439 2 (by omega)]; exact t1
    obtain ⟨N1, f1, l1⟩ := m_put (M := M5) (v := a) t5 t2 (by omega)
    obtain ⟨N2, f2, l2⟩ := m_put (M := N1) (v := b) (L := L + 4) l1.1 (by omega) (by omega)
    obtain ⟨N3, f3, l3⟩ := m_put (M := N2) (v := c) (L := L + 8) (by rw [l2.1]; omega) (by omega) (by omega)
    obtain ⟨N4, f4, l4⟩ := m_put (M := N3) (v := d) (L := L + 12) (by rw [l3.1]; omega) (by omega) (by omega)
    obtain ⟨N5, f5, l5⟩ := m_put (M := N4) (v := e) (L := L + 16) (by rw [l4.1]; omega) (by omega) (by omega)
    obtain ⟨r1, r2, r3⟩ := ty5_of (by omega) l1 l2 l3 l4 l5
    refine ⟨L + 20, M5, N5, ?_, ⟨fun j => g3 _ _ (by omega), g3 _ _ (by omega)⟩, ?_, ⟨fun j => by rw [r3 _ _ (by omega), g3 _ _ (by omega)], by rw [r3 _ _ (by omega), g3 _ _ (by omega)]⟩, ?_⟩
    · rw [q_EstateOffice_feed, em_cd, if_pos (by omega), e1]
      simp only [Option.bind_some, e2, e3, e4, e5, g1]
    · rw [q_Model_feed, em_cd, t5, x32_s (by omega) (by omega), if_pos (by omega), f1]
      simp only [Option.bind_some, f2, f3, f4, f5, r1]
    have ex : ∀ c j, ¬ ((c = 1 ∧ j = 1) ∨ (c = 2 ∧ L ≤ j ∧ j < L + 20) ∨ (c = 439 ∧ j = 2) ∨ (c = 440 ∧ L ≤ j ∧ j < L + 20)) → N5 c j = M c j := fun c j hc => by
      rw [r3 c j (by omega), g3 c j (by omega)]
    have n1 : N5 1 1 = L + 20 := by rw [r3 1 1 (by omega)]; exact g1
    refine ⟨⟨by omega, by omega, by omega, fun i i0 i1 => ?_⟩, RP_fr hP (fun c j hc => ex c j (by omega)), RD_fr hD (fun c j hc => ex c j (by omega)), RM_fr hM (fun c j hc => ex c j (by omega)), RO_fr hO (fun c j hc => ex c j (by omega)), RL_fr hL (fun c j hc => ex c j (by omega)), RW_fr hW (fun c j hc => ex c j (by omega)), RK_fr hK hW (fun c j hc => ex c j (by omega)), RH_fr hH (fun c j hc => ex c j (by omega)), RS_fr hS hP.2.2.1 (fun c j hc => ex c j (by omega)), RN_fr hN (fun c j hc => ex c j (by omega)), RF_fr hF (fun c j hc => ex c j (by omega))⟩
    by_cases hi : i < L
    · rw [ex 440 i (by omega), ex 2 i (by omega)]
      exact t4 i i0 hi
    · have h2 := g2 (i - L) (by omega) (by omega)
      have h3 := r2 (i - L) (by omega) (by omega)
      rw [show L + (i - L) = i by omega] at h2 h3
      rw [r3 2 i (by omega), h2, h3]
      refine ⟨rfl, ?_⟩
      unfold ty5 tyB
      repeat' split
      all_goals exact x_i2b_rng _
  · refine ⟨-1, M, M, ?_, Scr.rf M, ?_, Scr.rf M, h⟩
    · rw [q_EstateOffice_feed, em_cd, if_neg (by omega)]
    · rw [q_Model_feed, em_cd, t1, x32_s (by omega) (by omega), if_neg (by omega)]
end
