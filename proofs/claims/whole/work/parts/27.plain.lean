/-! dies, place, back, told, outside of the two. -/
section
variable {M : em_M}
theorem m_flag {x : Int} {c : Prop} [Decidable c] (h : x = b2 c) : (x = 0) = ¬ c := by rw [h, b2_z]
theorem arm_dies (h : Rel M) (p : Int) : Arm (f_EstateOffice_dies p) (f_Model_dies p) M := by
  obtain ⟨hT, hP, hD, hM, hO, hL, hW, hK, hH, hS, hN, hF⟩ := id h
  obtain ⟨p1, p2, p3, p4⟩ := id hP
  obtain ⟨d1, d2⟩ := id hD
  have eE : f_EstateOffice_dies p M = if ((0 ≤ p ∧ p < M 6 0 ∧ M 11 p = -1) ∧ tb (M 6 1) p = false) then some (1, xup M 6 1 (x_or (M 6 1) (x_shl 1 p))) else some (0, M) := by
    rw [q_EstateOffice_dies]
    simp only [em_cd, Option.bind_some, b2_z, f_undead p3, f_holds]
    cases hb : tb (M 6 1) p with
    | true => 
      rw [if_neg (c := _ ∧ true = false) (by simp)]
      simp only [eq_self, and_true]
      repeat' split
      all_goals first | rfl | omega
    | false =>
      simp only [Bool.false_eq_true, and_false, not_false_eq_true, if_true, eq_self, and_true]
      repeat' split
      all_goals first | rfl | omega
  by_cases hc : (0 ≤ p ∧ p < M 6 0 ∧ M 11 p = -1) ∧ tb (M 6 1) p = false
  · rw [if_pos hc] at eE
    obtain ⟨⟨c1, c2, c3⟩, c4⟩ := hc
    have hp := (d2 p c1 c2).1
    obtain ⟨⟨r1, r2, r3⟩, ⟨r4, r5⟩, r6⟩ := hp
    rw [c4] at r4
    have r4 : M 473 p = 0 := by rw [r4]; rfl
    have eM : f_Model_dies p (xup M 6 1 (x_or (M 6 1) (x_shl 1 p))) = some (1, xup (xup M 6 1 (x_or (M 6 1) (x_shl 1 p))) 473 p 1) := by
      rw [q_Model_dies]
      simp (disch := omega) only [em_cd, Option.bind_some, b2_z, m_isPerson, xup_ne, if_pos, if_neg]
    generalize hv : x_or (M 6 1) (x_shl 1 p) = v at eE eM
    have hmk := d1.or (mk_bit c1 (by omega : p < 30))
    rw [hv] at hmk
    refine ⟨1, _, _, eE, ⟨fun j => by simp (disch := omega) only [xup_ne], by simp (disch := omega) only [xup_ne]⟩, eM, ⟨fun j => by simp (disch := omega) only [xup_ne], by simp (disch := omega) only [xup_ne]⟩, ?_⟩
    generalize hM2 : xup (xup M 6 1 v) 473 p 1 = M2
    have e : ∀ c j, ¬ ((c = 6 ∧ j = 1) ∨ (c = 473 ∧ j = p)) → M2 c j = M c j := by
      intro c j h1
      rw [← hM2]
      simp (disch := omega) only [xup_ne]
    have nw : M2 6 1 = v ∧ M2 473 p = 1 := by
      rw [← hM2]
      simp (disch := omega) only [xup_ne, xup_eq, and_self]
    have hbit : ∀ x, 0 ≤ x → x < M 6 0 → (tb v x = true ↔ tb (M 6 1) x = true ∨ x = p) := fun x x0 x1 => by
      rw [hmk.at_ x0 (by omega)]
      constructor
      · rintro (z | z)
        · exact Or.inl z.2
        · exact Or.inr z
      · rintro (z | z)
        · exact Or.inl ⟨x1, z⟩
        · exact Or.inr z
    refine ⟨RT_fr hT (fun c j hc => e c j (by omega)), RP_fr hP (fun c j hc => e c j (by omega)), ⟨?_, fun q q0 q1 => ?_⟩, RM_fr hM (fun c j hc => e c j (by omega)), RO_fr hO (fun c j hc => e c j (by omega)), RL_fr hL (fun c j hc => e c j (by omega)), RW_fr hW (fun c j hc => e c j (by omega)), RK_fr hK hW (fun c j hc => e c j (by omega)), RH_fr hH (fun c j hc => e c j (by omega)), RS_fr hS p3 (fun c j hc => e c j (by omega)), RN_fr hN (fun c j hc => e c j (by omega)), RF_fr hF (fun c j hc => e c j (by omega))⟩
    · rw [nw.1, e 6 0 (by omega)]
      refine hmk.cong (fun x x0 x1 => ?_)
      rw [hmk.at_ x0 x1]
      constructor
      · rintro (z | z)
        · exact ⟨z.1, Or.inl z⟩
        · exact ⟨by omega, Or.inr z⟩
      · exact fun z => z.2
    · rw [e 6 0 (by omega)] at q1
      have hq := d2 q q0 q1
      refine ⟨?_, RWp_fr hq.2 (fun c hc => e c q (by omega))⟩
      obtain ⟨⟨s1, s2, s3⟩, ⟨s4, s5⟩, s6⟩ := hq.1
      refine ⟨by rw [e 472 q (by omega), e 11 q (by omega)]; exact ⟨s1, s2, s3⟩, ?_, by rw [e 506 q (by omega), e 11 q (by omega)]; exact s6⟩
      rw [nw.1]
      by_cases qp : q = p
      · subst qp
        rw [nw.2, e 11 q (by omega)]
        exact ⟨(b2_t ((hbit q q0 q1).mpr (Or.inr rfl))).symm, fun _ => c3⟩
      · rw [e 473 q (by omega), e 11 q (by omega), s4]
        have hb2 : tb v q = true ↔ tb (M 6 1) q = true := by
          rw [hbit q q0 q1]
          exact ⟨fun z => z.elim id (fun z => absurd z qp), Or.inl⟩
        exact ⟨b2_cong hb2.symm, fun z => s5 (hb2.mp z)⟩
  · rw [if_neg hc] at eE
    refine ⟨0, M, M, eE, Scr.rf M, ?_, Scr.rf M, h⟩
    rw [q_Model_dies]
    simp only [em_cd, Option.bind_some, b2_z, m_isPerson, p1]
    by_cases hp : 0 ≤ p ∧ p < M 6 0
    · have hq := (d2 p hp.1 hp.2).1
      obtain ⟨⟨s1, s2, s3⟩, ⟨s4, s5⟩, s6⟩ := hq
      rw [if_neg (fun z => z hp), if_pos (by omega)]
      cases hb : tb (M 6 1) p with
      | true =>
        rw [hb] at s4
        have s4 : M 473 p = 1 := s4
        rw [if_pos (by omega)]
      | false =>
        rw [hb] at s4
        have s4 : M 473 p = 0 := s4
        have : ¬ M 11 p = -1 := fun z => hc ⟨⟨hp.1, hp.2, z⟩, hb⟩
        rw [if_neg (by omega), if_pos (by omega), if_neg (by omega)]
    · rw [if_pos hp]
theorem arm_place (h : Rel M) : Arm f_EstateOffice_place f_Model_place M := by
  refine ⟨M 51 7, M, M, q_EstateOffice_place M, Scr.rf M, ?_, Scr.rf M, h⟩
  rw [q_Model_place]
  have := h.2.2.2.2.2.2.2.2.2.2.2
  rw [this.1]
theorem arm_back (h : Rel M) (n : Int) : Arm (f_EstateOffice_back n) (f_Model_back n) M := by
  obtain ⟨hT, hP, hD, hM, hO, hL, hW, hK, hH, hS, hN, hF⟩ := id h
  obtain ⟨t1, t2, t3, t4⟩ := hT
  have e1 := q_EstateOffice_back n M
  by_cases hc : 0 ≤ n ∧ n ≤ M 1 1
  · simp (disch := omega) only [em_cd, if_pos, if_neg, xup_eq, x32_s] at e1
    have e2 := q_Model_back n (xup M 1 1 (M 1 1 - n))
    have z1 : xup M 1 1 (M 1 1 - n) 439 2 = M 1 1 := by rw [xup_ne (by omega)]; exact t1
    rw [z1] at e2
    simp (disch := omega) only [em_cd, if_pos, if_neg, xup_eq, x32_s] at e2
    refine ⟨_, _, _, e1, ⟨fun j => by simp (disch := omega) only [xup_ne], by simp (disch := omega) only [xup_ne]⟩, e2, ⟨fun j => by simp (disch := omega) only [xup_ne], by simp (disch := omega) only [xup_ne]⟩, ?_⟩
    generalize hM2 : xup (xup M 1 1 (M 1 1 - n)) 439 2 (M 1 1 - n) = M2
    have e : ∀ c j, ¬ ((c = 1 ∧ j = 1) ∨ (c = 439 ∧ j = 2)) → M2 c j = M c j := by
      intro c j h1
      rw [← hM2]
      simp (disch := omega) only [xup_ne]
    have nw : M2 1 1 = M 1 1 - n ∧ M2 439 2 = M 1 1 - n := by
      rw [← hM2]
      simp (disch := omega) only [xup_ne, xup_eq, and_self]
    refine ⟨⟨by omega, by omega, by omega, fun i i0 i1 => ?_⟩, RP_fr hP (fun c j hc => e c j (by omega)), RD_fr hD (fun c j hc => e c j (by omega)), RM_fr hM (fun c j hc => e c j (by omega)), RO_fr hO (fun c j hc => e c j (by omega)), RL_fr hL (fun c j hc => e c j (by omega)), RW_fr hW (fun c j hc => e c j (by omega)), RK_fr hK hW (fun c j hc => e c j (by omega)), RH_fr hH (fun c j hc => e c j (by omega)), RS_fr hS hP.2.2.1 (fun c j hc => e c j (by omega)), RN_fr hN (fun c j hc => e c j (by omega)), RF_fr hF (fun c j hc => e c j (by omega))⟩
    rw [e 440 i (by omega), e 2 i (by omega)]
    exact t4 i i0 (by omega)
  · have e2 := q_Model_back n M
    rw [t1] at e2
    have f1 : f_EstateOffice_back n M = some (-1, M) := by
      rw [e1]
      simp only [em_cd]
      by_cases a : n < 0
      · rw [if_pos a]
      · rw [if_neg a, if_neg (by omega)]
    have f2 : f_Model_back n M = some (-1, M) := by
      rw [e2]
      simp only [em_cd]
      by_cases a : n < 0
      · rw [if_pos a]
      · rw [if_neg a, if_neg (by omega)]
    exact ⟨-1, M, M, f1, Scr.rf M, f2, Scr.rf M, h⟩
theorem arm_told (h : Rel M) (p w : Int) : Arm (f_EstateOffice_told p w) (f_Model_told p w) M := by
  obtain ⟨hT, hP, hD, hM, hO, hL, hW, hK, hH, hS, hN, hF⟩ := id h
  obtain ⟨p1, p2, p3, p4⟩ := id hP
  have key : ∃ v, f_EstateOffice_told p w M = some (v, M) ∧ f_Model_told p w M = some (v, M) := by
    rw [q_EstateOffice_told, q_Model_told]
    simp only [em_cd, Option.bind_some, b2_z, nn, f_has30 p3, m_isPerson, p1, f_holds]
    by_cases hp : 0 ≤ p ∧ p < M 6 0
    · rw [if_pos hp, if_pos hp]
      obtain ⟨⟨a1, a2⟩, ⟨b1, b2', b3⟩, ⟨c1, c2, c3⟩, ⟨d1, d2, d3⟩⟩ := p4 p hp.1 hp.2
      obtain ⟨⟨⟨s1, s2, s3⟩, ⟨s4, s5⟩, s6⟩, ⟨u1, u2, u3⟩⟩ := hD.2 p hp.1 hp.2
      have hlt := fr_ok_lt u1
      simp only [f_upper M hlt, f_lower M hlt, Option.bind_some, a1, b1, c1, d1, s1, u2, u3, s4, b2_z]
      by_cases w0 : w = 0
      · exact ⟨_, by rw [if_pos w0, if_pos (by omega)], by rw [if_pos w0, if_pos (by omega)]⟩
      by_cases w1 : w = 1
      · exact ⟨_, by rw [if_neg w0, if_pos w1, if_pos (by omega)], by rw [if_neg w0, if_pos w1, if_pos (by omega)]⟩
      by_cases w2 : w = 2
      · exact ⟨_, by rw [if_neg w0, if_neg w1, if_pos w2, if_pos (by omega)], by rw [if_neg w0, if_neg w1, if_pos w2, if_pos (by omega)]⟩
      by_cases w3 : w = 3
      · exact ⟨_, by rw [if_neg w0, if_neg w1, if_neg w2, if_pos w3, if_pos (by omega)], by rw [if_neg w0, if_neg w1, if_neg w2, if_pos w3, if_pos (by omega)]⟩
      by_cases w4 : w = 4
      · exact ⟨_, by rw [if_neg w0, if_neg w1, if_neg w2, if_neg w3, if_pos w4, if_pos (by omega)], by rw [if_neg w0, if_neg w1, if_neg w2, if_neg w3, if_pos w4, if_pos (by omega)]⟩
      rw [if_neg w0, if_neg w1, if_neg w2, if_neg w3, if_neg w4, if_neg w0, if_neg w1, if_neg w2, if_neg w3, if_neg w4]
      by_cases w5 : w = 5
      · cases hb : tb (M 6 1) p with
        | true => exact ⟨1, by rw [if_pos w5, if_neg (fun z => z ⟨hp.1, by omega, rfl⟩)], by rw [if_pos w5, if_pos (by omega), if_neg (fun z => z rfl)]⟩
        | false => exact ⟨0, by rw [if_pos w5, if_pos (by simp)], by rw [if_pos w5, if_pos (by omega), if_pos (by simp)]⟩
      by_cases w6 : w = 6
      · exact ⟨_, by rw [if_neg w5, if_pos w6, if_pos (by omega)], by rw [if_neg w5, if_pos w6, if_pos (by omega)]⟩
      by_cases w7 : w = 7
      · exact ⟨_, by rw [if_neg w5, if_neg w6, if_pos w7, if_pos (by omega)], by rw [if_neg w5, if_neg w6, if_pos w7, if_pos (by omega)]⟩
      exact ⟨_, by rw [if_neg w5, if_neg w6, if_neg w7], by rw [if_neg w5, if_neg w6, if_neg w7]⟩
    · exact ⟨-1, by rw [if_neg hp], by rw [if_neg hp]⟩
  obtain ⟨v, k1, k2⟩ := key
  exact ⟨v, M, M, k1, Scr.rf M, k2, Scr.rf M, h⟩
theorem arm_outside (h : Rel M) (a b : Int) : Arm (f_EstateOffice_outside a b) (f_Model_outside a b) M := by
  obtain ⟨hT, hP, hD, hM, hO, hL, hW, hK, hH, hS, hN, hF⟩ := id h
  obtain ⟨-, -, ⟨g1, g2, g3⟩, ⟨g4, g5, g6⟩, -, -⟩ := hH
  have k1 := fr_ok_lt g1
  have k2 := fr_ok_lt g4
  have key : ∃ v, f_EstateOffice_outside a b M = some (v, M) ∧ f_Model_outside a b M = some (v, M) := by
    rw [q_EstateOffice_outside, q_Model_outside]
    simp only [em_cd, q_EstateOffice_outside_22, f_upper M k1, f_lower M k1, f_upper M k2, f_lower M k2, Option.bind_some]
    by_cases hb : b = 0 ∨ b = 1
    · by_cases ha : a = 0
      · subst ha
        rcases hb with rfl | rfl
        · exact ⟨_, rfl, by simp [g2]⟩
        · exact ⟨_, rfl, by simp [g3]⟩
      · by_cases ha : a = 1
        · subst ha
          rcases hb with rfl | rfl
          · exact ⟨_, rfl, by simp [g5]⟩
          · exact ⟨_, rfl, by simp [g6]⟩
        · refine ⟨-1, ?_, ?_⟩
          · repeat' split
            all_goals first | rfl | omega
          · repeat' split
            all_goals first | rfl | omega
    · refine ⟨-1, ?_, ?_⟩
      · repeat' split
        all_goals first | rfl | omega
      · repeat' split
        all_goals first | rfl | omega
  obtain ⟨v, k1, k2⟩ := key
  exact ⟨v, M, M, k1, Scr.rf M, k2, Scr.rf M, h⟩
end
