/-! kin of the two. -/
section
variable {M : em_M}
theorem nth_both {v i k d : Int} {A B : em_M} (hb : B 439 47 ≤ 30) (hv : B 489 (30 * k + d) = v) (hS : mk v (fun x => x < B 439 47 ∧ tb v x = true)) (k0 : 0 ≤ k) (k1 : k < 20) (d0 : 0 ≤ d) (d1 : d < 30) (i1 : i < 2147483648) : ∀ (n : Nat) (a x : Int), 0 ≤ x → x ≤ 30 → 30 - x ≤ n → 0 ≤ a → a ≤ i → a ≤ x → ∃ r, f_EstateOffice_nth_4 v i a x A = some (r, A) ∧ f_Model_kin_51 k d (i - a) x B = some (r, B) := by
  intro n
  induction n with
  | zero =>
    intro a x x0 x1 hk a0 ai ax
    refine ⟨-1, ?_, ?_⟩
    · rw [q_EstateOffice_nth_4, em_cd, if_pos (by omega)]
    · rw [q_Model_kin_51, em_cd, if_pos (by omega)]
  | succ n ih =>
    intro a x x0 x1 hk a0 ai ax
    by_cases q : 30 ≤ x
    · refine ⟨-1, ?_, ?_⟩
      · rw [q_EstateOffice_nth_4, em_cd, if_pos q]
      · rw [q_Model_kin_51, em_cd, if_pos (by omega)]
    · have e1 := q_EstateOffice_nth_4 v i a x A
      simp only [em_cd, f_holds, Option.bind_some, b2_z] at e1
      rw [if_neg q, x32_s (x := a + 1) (by omega) (by omega), x32_s (x := x + 1) (by omega) (by omega)] at e1
      have e2 := q_Model_kin_51 k d (i - a) x B
      simp only [em_cd] at e2
      rw [x32_s (x := 30 * k) (by omega) (by omega), x32_s (x := 30 * k + d) (by omega) (by omega), x32_s (x := x + 1) (by omega) (by omega), hv, x_bit x0 (by omega)] at e2
      simp only [b2_z] at e2
      by_cases hx : tb v x = true
      · have hxn := (hS.at_ x0 (by omega)).mp hx
        rw [if_neg (fun z => z ⟨x0, by omega, hx⟩)] at e1
        rw [if_neg (by omega), if_pos (by omega), if_pos (fun z => z hx)] at e2
        by_cases c : a = i
        · rw [if_neg (by omega)] at e1
          rw [if_neg (by omega)] at e2
          exact ⟨x, e1, e2⟩
        · rw [if_pos (by omega)] at e1
          rw [if_pos (by omega), x32_id (by omega) (by omega), show i - a + -1 = i - (a + 1) by omega] at e2
          obtain ⟨r, h1, h2⟩ := ih (a + 1) (x + 1) (by omega) (by omega) (by omega) (by omega) (by omega) (by omega)
          exact ⟨r, e1.trans h1, e2.trans h2⟩
      · rw [if_pos (fun z => hx z.2.2)] at e1
        obtain ⟨r, h1, h2⟩ := ih a (x + 1) (by omega) (by omega) (by omega) a0 ai (by omega)
        by_cases c : B 439 47 ≤ x
        · rw [if_pos c] at e2
          have h3 : f_Model_kin_51 k d (i - a) (x + 1) B = some (-1, B) := by rw [q_Model_kin_51, em_cd, if_pos (by omega)]
          rw [h3] at h2
          cases h2
          exact ⟨-1, e1.trans h1, e2⟩
        · rw [if_neg c, if_pos (by omega), if_neg (fun z => z hx)] at e2
          exact ⟨r, e1.trans h1, e2.trans h2⟩
theorem f_kinOf {k d : Int} (hn : M 6 0 ≤ 30) (k0 : 0 ≤ k) (k1 : k < 20) (d0 : 0 ≤ d) (d1 : d < M 6 0) : f_Kinship_kinOf k d M = some (M (31 + k) d, M) := by
  rw [q_Kinship_kinOf, q_Kinship_rowOfKin, em_cd, if_pos k0, x32_s (by omega) (by omega)]
  simp only [Option.bind_some]
  rw [f_reach hn (by omega) (by omega) d0 d1, show 27 + (4 + k) = 31 + k by omega]
  rfl
theorem arm_kin (h : Rel M) (k d t i : Int) (hi : i < 2147483648) : Arm (f_EstateOffice_kin k d t i) (f_Model_kin k d t i) M := by
  obtain ⟨hT, hP, hD, hM, hO, hL, hW, hK, hH, hS, hN, hF⟩ := id h
  obtain ⟨hw, hw2, hs2, hLw⟩ := id hW
  have hn := hP.2.2.1
  have hp1 := hP.1
  have h20 := hLw.1.2.2
  have hkc := hLw.1.1
  have e1 := q_EstateOffice_kin k d t i M
  have e2 := q_Model_kin k d t i M
  rw [isO_law hw] at e1
  simp only [em_cd, cond_true, f_has30 hn, Option.bind_some, b2_z, f_isDay] at e1
  simp only [em_cd, m_isPerson, m_isDay, Option.bind_some, b2_z, hp1] at e2
  by_cases hc : (0 ≤ k ∧ k < M (M 0 11) 0) ∧ (0 ≤ d ∧ d < M 6 0) ∧ (0 ≤ t ∧ t ≤ 100000) ∧ 0 ≤ i
  · obtain ⟨⟨k0, k1⟩, ⟨d0, d1⟩, ⟨t0, t1⟩, i0⟩ := hc
    rw [if_neg (by omega), if_neg (by omega), if_neg (fun z => z ⟨d0, d1⟩), if_neg (fun z => z ⟨t0, t1⟩), if_pos i0] at e1
    obtain ⟨A, a1, a2, a3, a4⟩ := f_refresh hP hM hW hK t0 t1
    have hPA := RP_fr hP (fun c j hc => a4 c j (by omega))
    have hMA := RM_fr hM (fun c j hc => a4 c j (by omega))
    have hWA := RW_fr hW (fun c j hc => a4 c j (by omega))
    have e11 : A 0 11 = M 0 11 := a4 _ _ (by omega)
    have ew0 : A (M 0 11) 0 = M (M 0 11) 0 := a4 _ _ (by omega)
    have e60 : A 6 0 = M 6 0 := a4 _ _ (by omega)
    obtain ⟨B, b1, b2', b3⟩ := m_allKin hPA hMA hWA a3 t0 t1
    have hv := b2' k k0 (by rw [e11, ew0]; exact k1) d d0 (by rw [e60]; exact d1)
    have hmk := a3.2.2.2 k k0 (by rw [e11, ew0]; exact k1) d d0 (by rw [e60]; exact d1)
    have b47 : B 439 47 = M 6 0 := by rw [b3 _ _ (by omega), a4 _ _ (by omega)]; exact hp1
    have hmk2 : mk (A (31 + k) d) (fun x => x < B 439 47 ∧ tb (A (31 + k) d) x = true) := hmk.cong (fun x x0 x1 => by
      rw [hmk.at_ x0 x1]
      have : kOf A t (A 0 11) (kT A) k d x → x < B 439 47 := fun z => by
        have := (kOf_born z).2.1
        omega
      exact ⟨fun z => ⟨this z, z⟩, fun z => z.2⟩)
    obtain ⟨r, n1, n2⟩ := nth_both (A := A) (B := B) (v := A (31 + k) d) (i := i) (by omega) hv hmk2 k0 (by omega) d0 (by omega) hi 30 0 0 (by omega) (by omega) (by omega) (by omega) i0 (by omega)
    rw [Int.sub_zero] at n2
    have e3 : f_EstateOffice_kin k d t i M = some (r, A) := by
      rw [e1, a1]
      simp only [Option.bind_some]
      rw [f_kinOf (by omega) k0 (by omega) d0 (by omega)]
      simp only [Option.bind_some]
      rw [q_EstateOffice_nth, n1]
      rfl
    have e2A := q_Model_kin k d t i A
    have a47 : A 439 47 = M 6 0 := by rw [a4 _ _ (by omega)]; exact hp1
    have a17 : A 439 17 = M 439 17 := a4 _ _ (by omega)
    have a447 : A 447 (M 439 17) = M 447 (M 439 17) := a4 _ _ (by omega)
    simp only [em_cd, m_isPerson, m_isDay, Option.bind_some, b2_z, a47, a17, a447, b1] at e2A
    rw [if_neg (by omega), if_pos (by omega), if_neg (by omega), if_neg (fun z => z ⟨d0, d1⟩), if_neg (fun z => z ⟨t0, t1⟩), if_pos i0, n2] at e2A
    have ex : ∀ c j, ¬ ((c = 25 ∧ 2 ≤ j ∧ j ≤ 4) ∨ (27 ≤ c ∧ c ≤ 50) ∨ c = 489) → B c j = M c j := fun c j hc => by rw [b3 c j (by omega), a4 c j (by omega)]
    refine ⟨r, A, B, e3, ⟨fun j => a4 _ _ (by omega), a4 _ _ (by omega)⟩, e2A, ⟨fun j => ex _ _ (by omega), ex _ _ (by omega)⟩, ?_⟩
    refine ⟨RT_fr hT (fun c j hc => ex c j (by omega)), RP_fr hP (fun c j hc => ex c j (by omega)), RD_fr hD (fun c j hc => ex c j (by omega)), RM_fr hM (fun c j hc => ex c j (by omega)), RO_fr hO (fun c j hc => ex c j (by omega)), RL_fr hL (fun c j hc => ex c j (by omega)), RW_fr hW (fun c j hc => ex c j (by omega)), ?_, RH_fr hH (fun c j hc => ex c j (by omega)), RS_fr hS hn (fun c j hc => ex c j (by omega)), RN_fr hN (fun c j hc => ex c j (by omega)), RF_fr hF (fun c j hc => ex c j (by omega))⟩
    have e25 : B 25 2 = t := by rw [b3 _ _ (by omega)]; exact a2
    exact Or.inr ⟨by omega, by omega, by rw [e25]; exact kTab_fr a3 hWA.1 hWA.2.2.2.1.2.2 (fun c j hc => b3 c j (by omega))⟩
  · refine ⟨-1, M, M, ?_, Scr.rf M, ?_, Scr.rf M, h⟩
    · rw [e1]
      by_cases c1 : k < 0
      · rw [if_pos c1]
      rw [if_neg c1]
      by_cases c2 : M (M 0 11) 0 ≤ k
      · rw [if_pos c2]
      rw [if_neg c2]
      by_cases c3 : 0 ≤ d ∧ d < M 6 0
      · rw [if_neg (fun z => z c3)]
        by_cases c4 : 0 ≤ t ∧ t ≤ 100000
        · rw [if_neg (fun z => z c4), if_neg (by omega)]
        · rw [if_pos c4]
      · rw [if_pos c3]
    · rw [e2]
      by_cases c1 : k < 0
      · rw [if_pos c1]
      rw [if_neg c1, if_pos (by omega)]
      by_cases c2 : M 447 (M 439 17) ≤ k
      · rw [if_pos c2]
      rw [if_neg c2]
      by_cases c3 : 0 ≤ d ∧ d < M 6 0
      · rw [if_neg (fun z => z c3)]
        by_cases c4 : 0 ≤ t ∧ t ≤ 100000
        · rw [if_neg (fun z => z c4), if_neg (by omega)]
        · rw [if_pos c4]
      · rw [if_pos c3]
end
