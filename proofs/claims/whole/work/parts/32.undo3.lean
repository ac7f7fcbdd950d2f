/-! undo of the two. -/
section
variable {M : em_M}
theorem arm_undo (h : Rel M) : Arm f_EstateOffice_undo f_Model_undo M := by
  obtain ⟨hT, hP, hD, hM, hO, hL, hW, hK, hH, hS, hN, hF⟩ := id h
  obtain ⟨p1, p2, p3, p4⟩ := id hP
  obtain ⟨⟨g1, g2, g2'⟩, ⟨g3, g3', g3''⟩, g4, g5, g6, g7⟩ := id hH
  by_cases hd : M 136 0 = 0
  · refine ⟨0, M, M, ?_, Scr.rf M, ?_, Scr.rf M, h⟩
    · rw [q_EstateOffice_undo, q_History_takeBack, em_cd, if_pos (by rw [x32_s (by omega) (by omega)]; omega)]
      simp
    · rw [q_Model_undo, em_cd, if_neg (by omega)]
  · obtain ⟨t, ht⟩ : ∃ t, M 136 0 = t + 1 := ⟨M 136 0 - 1, by omega⟩
    have t0 : 0 ≤ t := by omega
    have t1 : t < 30 := by omega
    obtain ⟨hm, -, ⟨r1, r2, r3⟩, ⟨r4, r5, r6⟩, ⟨r7, r8, r9⟩, ⟨r10, r11, r12⟩, r13⟩ := g6 t t0 (by omega)
    obtain ⟨A, k1, k2, k3, k4, k5, k6, k7, k8, k9⟩ := f_takeBack ht t0 t1 p3 r2 r3
    have fa : ∀ c j, ¬ ((c = 136 ∧ 0 ≤ j ∧ j < 4) ∨ (c = 6 ∧ j = 1) ∨ c = 11 ∨ c = 12) → A c j = M c j := k9
    obtain ⟨B, l1, l2, l3, l4, l5, l6, l7⟩ := m_undo (M := A) (t := t) (by rw [fa _ _ (by omega)]; omega) t0 t1 (by rw [fa _ _ (by omega)]; omega) (by rw [fa _ _ (by omega)]; omega) (by rw [fa _ _ (by omega)]; omega) (by rw [fa _ _ (by omega)]; omega)
    have a47 : A 439 47 = M 6 0 := by rw [fa _ _ (by omega)]; exact p1
    have a516 : A 516 t = M 138 t := by rw [fa _ _ (by omega)]; exact r1
    rw [a47] at l4 l7
    rw [a516] at l5 l7
    refine ⟨1, A, B, k1, ⟨fun j => fa _ _ (by omega), fa _ _ (by omega)⟩, l1, ⟨fun j => by rw [l7 _ _ (by omega), fa _ _ (by omega)], by rw [l7 _ _ (by omega), fa _ _ (by omega)]⟩, ?_⟩
    have e : ∀ c j, ¬ ((c = 136 ∧ 0 ≤ j ∧ j < 4) ∨ (c = 6 ∧ j = 1) ∨ c = 11 ∨ c = 12 ∨ (c = 439 ∧ (j = 72 ∨ j = 115)) ∨ ((c = 472 ∨ c = 473 ∨ c = 506 ∨ c = 474 ∨ c = 475) ∧ 0 ≤ j ∧ j < M 6 0) ∨ ((c = 487 ∨ c = 488) ∧ (j = 0 ∨ j = 1))) → B c j = M c j := fun c j hc => by
      rw [l7 c j (by omega), fa c j (by omega)]
    have e60 : B 6 0 = M 6 0 := e _ _ (by omega)
    have e61 : B 6 1 = M 137 t := by rw [l7 _ _ (by omega)]; exact k6
    have hset : ∀ p, 0 ≤ p → p < M 6 0 → (tb (M 137 t) p = true ↔ ¬ M 11 p = -1 ∧ M 517 p = t) := fun p q0 q1 => (hm.at_ q0 (by omega)).trans ⟨fun z => z.2, fun z => ⟨q1, z⟩⟩
    have e11 : ∀ p, 0 ≤ p → p < M 6 0 → B 11 p = if ¬ M 11 p = -1 ∧ M 517 p = t then -1 else M 11 p := fun p q0 q1 => by
      rw [l7 _ _ (by omega), k7 p q0 q1]
      by_cases hb : tb (M 137 t) p = true
      · rw [if_pos hb, if_pos ((hset p q0 q1).mp hb)]
      · rw [if_neg hb, if_neg (fun z => hb ((hset p q0 q1).mpr z))]
    have hun : ∀ p, 0 ≤ p → p < M 6 0 → (unC A t p ↔ ¬ M 11 p = -1 ∧ M 517 p = t) := fun p q0 q1 => by
      unfold unC
      rw [fa 506 p (by omega), fa 517 p (by omega), (hD.2 p q0 q1).1.2.2, b2_z, nn]
    have e517 : ∀ p, B 517 p = M 517 p := fun p => e _ _ (by omega)
    refine ⟨RT_fr hT (fun c j hc => e c j (by omega)), RP_fr hP (fun c j hc => e c j (by omega)), ⟨?_, fun p q0 q1 => ?_⟩, RM_fr hM (fun c j hc => e c j (by omega)), RO_fr hO (fun c j hc => e c j (by omega)), RL_fr hL (fun c j hc => e c j (by omega)), RW_fr hW (fun c j hc => e c j (by omega)), RK_fr hK hW (fun c j hc => e c j (by omega)), ⟨?_, ?_, ?_, ?_, fun j j0 j1 => ?_, fun p q0 q1 q2 => ?_⟩, fun p q0 q1 q2 => ?_, RN_fr hN (fun c j hc => e c j (by omega)), RF_fr hF (fun c j hc => e c j (by omega))⟩
    · rw [e61, e60]
      refine hm.cong (fun x x0 x1 => ⟨fun z => ⟨z.1, (hm.at_ x0 x1).mpr z⟩, fun z => (hm.at_ x0 x1).mp z.2⟩)
    · rw [e60] at q1
      obtain ⟨⟨⟨s1, s2, s3⟩, ⟨s4, s5⟩, s6⟩, w1, w2, w3⟩ := hD.2 p q0 q1
      have h4 := l4 p q0 q1
      rw [hun p q0 q1] at h4
      rw [fa 506 p (by omega), fa 472 p (by omega)] at h4
      refine ⟨?_, ?_⟩
      · unfold RDp
        rw [e61, e11 p q0 q1]
        by_cases hc : ¬ M 11 p = -1 ∧ M 517 p = t
        · rw [if_pos hc, (h4.1 hc).1, (h4.1 hc).2.1, (h4.1 hc).2.2, b2_t ((hset p q0 q1).mpr hc)]
          exact ⟨⟨rfl, by omega, by omega⟩, ⟨rfl, fun _ => rfl⟩, by decide⟩
        · rw [if_neg hc, (h4.2 hc).1, (h4.2 hc).2.1, (h4.2 hc).2.2, b2_f (fun z => hc ((hset p q0 q1).mp z))]
          exact ⟨⟨s1, s2, s3⟩, ⟨rfl, fun z => absurd ((hset p q0 q1).mp z) hc⟩, s6⟩
      · unfold RWp
        have eB12 : B 12 p = if 0 ≤ p ∧ p < M 138 t then M (143 + t) p else M 12 p := by rw [l7 _ _ (by omega)]; exact k8 p
        rw [eB12]
        by_cases hc : p < M 138 t
        · have := l5 p q0 hc
          rw [fa 518 _ (by omega), fa 519 _ (by omega)] at this
          rw [if_pos ⟨q0, hc⟩, this.1, this.2]
          exact r13 p q0 hc
        · rw [if_neg (by omega), l7 474 p (by omega), l7 475 p (by omega), fa _ _ (by omega), fa _ _ (by omega)]
          exact ⟨w1, w2, w3⟩
    · rw [l2, l7 136 0 (by omega), k2]
      exact ⟨rfl, t0, by omega⟩
    · rw [l3, l7 136 1 (by omega), k3, fa 515 t (by omega)]
      exact ⟨r4, r5, r6⟩
    · rw [l7 136 2 (by omega), k4, l6.1, l6.2.1, fa 518 _ (by omega), fa 519 _ (by omega)]
      exact ⟨r7, r8, r9⟩
    · rw [l7 136 3 (by omega), k5, l6.2.2.1, l6.2.2.2, fa 518 _ (by omega), fa 519 _ (by omega)]
      exact ⟨r10, r11, r12⟩
    · rw [l7 136 0 (by omega), k2] at j1
      obtain ⟨h1, ⟨p, hp0, hp1, hp2, hp3⟩, h3, h4, h5, h6, h7⟩ := g6 j j0 (by omega)
      refine ⟨?_, ⟨p, hp0, by omega, by rw [e11 p hp0 hp1, if_neg (fun z => by omega)]; exact hp2, by rw [e517]; exact hp3⟩, ?_, ?_, ?_, ?_, fun p q0 q1 => ?_⟩
      · rw [e 137 j (by omega), e60]
        refine h1.cong (fun x x0 x1 => ?_)
        rw [e517]
        constructor
        · rintro ⟨z1, z2, z3⟩
          exact ⟨z1, by rw [e11 x x0 z1, if_neg (fun z => by omega)]; exact z2, z3⟩
        · rintro ⟨z1, z2, z3⟩
          rw [e11 x x0 z1, if_neg (fun z => by omega)] at z2
          exact ⟨z1, z2, z3⟩
      · simp (disch := omega) only [e]; exact h3
      · simp (disch := omega) only [e]; exact h4
      · unfold fr_is at *; simp (disch := omega) only [e]; exact h5
      · unfold fr_is at *; simp (disch := omega) only [e]; exact h6
      · rw [e 138 j (by omega)] at q1
        have := h7 p q0 q1
        unfold fr_is at *; simp (disch := omega) only [e]; exact this
    · rw [e60] at q1
      rw [e11 p q0 q1] at q2
      rw [e517, l7 136 0 (by omega), k2]
      by_cases hc : ¬ M 11 p = -1 ∧ M 517 p = t
      · rw [if_pos hc] at q2
        exact absurd rfl q2
      · rw [if_neg hc] at q2
        have := g7 p q0 q1 q2
        have : ¬ M 517 p = t := fun z => hc ⟨q2, z⟩
        omega
    · rw [e60] at q1
      rw [e11 p q0 q1] at q2
      by_cases hc : ¬ M 11 p = -1 ∧ M 517 p = t
      · rw [if_pos hc] at q2
        exact absurd rfl q2
      · rw [if_neg hc] at q2
        exact RE_fr (hS p q0 q1 q2) (fun c j hc => e c j (by omega))
end
