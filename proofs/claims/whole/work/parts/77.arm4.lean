/-! THE ARM would, put together. -/
section
variable {M N : em_M}
/-- the reference's would, when it is to be worked out, from any state with its cells -/
theorem would_open {Z : em_M} {p t : Int} (h : Rel M) (hZ : ∀ c j, 439 ≤ c → Z c j = M c j) (p0 : 0 ≤ p) (p1 : p < M 6 0) (c2 : M 11 p = -1) (c3 : ¬ t < M 136 1) (c4 : ¬ 100000 < t) (c5 : M 10 p ≤ t) : f_Model_would p t Z = (f_Model_saves 30 Z).bind fun r2 => (f_Model_settles p (xup (xup (xup r2.2 439 44 0) 439 75 t) 472 p t)).bind fun r3 => if ¬ (xup r3.2 472 p (-1)) 439 44 = 0 then f_Model_would_99 (xup r3.2 472 p (-1)) else (f_Model_keeps 30 (xup r3.2 472 p (-1))).bind fun r4 => (f_Model_copies 30 31 r4.2).bind fun r5 => f_Model_would_99 (xup r5.2 439 114 1) := by
  obtain ⟨hT, hP, hD, hM, hO, hL, hW, hK, hH, hS, hN, hF⟩ := id h
  have hn := hP.2.2.1
  have h72 := hH.2.1.1
  have d472 : M 472 p = M 11 p := (hD.2 p p0 p1).1.1.1
  have d471 : M 471 p = M 10 p := (hP.2.2.2 p p0 p1).2.2.2.1
  have e2 := q_Model_would p t Z
  simp only [em_cd, m_isPerson, Option.bind_some, b2_z, q_Model_isDue, hZ 439 47 (by omega), hZ 439 72 (by omega), hZ 472 p (by omega), hZ 471 p (by omega), hP.1] at e2
  rw [if_neg (fun z => z ⟨p0, p1⟩), if_pos (by omega), d472, if_neg (fun z => z c2), h72, if_neg c3, if_neg c4] at e2
  simp only [Option.bind_some, hZ 471 p (by omega)] at e2
  rw [if_neg (by omega), if_pos (by omega), d471, if_pos c5] at e2
  rw [e2]
  congr 1
  funext r2
  rw [if_pos (by omega)]
  congr 1
  funext r3
  rw [if_pos (by omega)]
theorem arm_would (h : Rel M) (p t : Int) : Arm (f_EstateOffice_would p t) (f_Model_would p t) M := by
  obtain ⟨hT, hP, hD, hM, hO, hL, hW, hK, hH, hS, hN, hF⟩ := id h
  have hn := hP.2.2.1
  have n0 := hP.2.1
  have hp1 := hP.1
  have h72 := hH.2.1
  have e1 := q_EstateOffice_would p t M
  have e2 := q_Model_would p t M
  obtain ⟨bv, bb1, bb2⟩ := f_bornBy (M := M) hn t
  simp only [em_cd, f_undead hn, Option.bind_some, b2_z, q_History_allows] at e1
  simp only [em_cd, m_isPerson, Option.bind_some, b2_z, hp1, q_Model_isDue] at e2
  have none' : f_EstateOffice_would p t M = some (-1, M) → f_Model_would p t M = some (-1, M) → Arm (f_EstateOffice_would p t) (f_Model_would p t) M := fun z1 z2 => ⟨-1, M, M, z1, Scr.rf M, z2, Scr.rf M, h⟩
  by_cases c1 : 0 ≤ p ∧ p < M 6 0
  · obtain ⟨p0, p1⟩ := c1
    have hdp := (hD.2 p p0 p1).1
    have d472 : M 472 p = M 11 p := hdp.1.1
    have d471 : M 471 p = M 10 p := (hP.2.2.2 p p0 p1).2.2.2.1
    rw [if_neg (fun z => z ⟨p0, p1⟩), if_pos (by omega), d472] at e2
    by_cases c2 : M 11 p = -1
    · rw [if_neg (fun z => z ⟨p0, p1, c2⟩)] at e1
      rw [if_neg (fun z => z c2)] at e2
      by_cases c3 : t < M 136 1
      · rw [if_pos c3] at e1
        rw [if_pos (by omega)] at e2
        simp only [Option.bind_some, if_true] at e1 e2
        exact none' e1 e2
      · rw [if_neg c3] at e1
        rw [if_neg (by omega)] at e2
        by_cases c4 : 100000 < t
        · rw [if_pos c4] at e1 e2
          simp only [Option.bind_some, if_true] at e1 e2
          exact none' e1 e2
        · rw [if_neg c4] at e1 e2
          simp only [Option.bind_some, bb1, f_holds, b2_z, nn] at e1 e2
          by_cases c5 : M 10 p ≤ t
          · have tb1 : tb bv p = true := (bb2.at_ p0 (by omega)).mpr ⟨p1, c5⟩
            rw [if_neg (by omega), if_pos ⟨p0, by omega, tb1⟩] at e1
            rw [if_neg (by omega), if_pos (by omega), d471, if_pos c5] at e2
            sorry
          · rw [if_neg (by omega), if_neg (fun z => c5 ((bb2.at_ p0 (by omega)).mp z.2.2).2)] at e1
            rw [if_neg (by omega), if_pos (by omega), d471, if_neg c5] at e2
            exact none' e1 e2
    · rw [if_pos (fun z => c2 z.2.2)] at e1
      rw [if_pos c2] at e2
      exact none' e1 e2
  · rw [if_pos (fun z => c1 ⟨z.1, z.2.1⟩)] at e1
    rw [if_pos c1] at e2
    exact none' e1 e2
end
